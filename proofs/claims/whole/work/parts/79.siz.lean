/-! GROWN AND CUT (mkhand.py, gen79.py) -/
theorem size_J {M : am_M} {A : Int → Int} {n : Int} (h : JY M A n) {v : Nat} (hv : thS M v) {sz : Int} (hsz : 1 ≤ sz ∧ sz ≤ 512) (hc : ∀ b : Int, sz ≤ b → b < 512 → ct (M 6) (M 10) v b = -1) :
    JY (am_set M 7 v sz) (am_up A (1796 + 9 * (v : Int) + 1) sz) n ∧ (∀ z, thS (am_set M 7 v sz) z ↔ thS M z) ∧ (∀ z, z ≠ (v : Int) → usS (am_set M 7 v sz) z = usS M z) := by
  have hv12 : v < 12 := by have := hv.2.1; omega
  have eo : ∀ k : Nat, k ≠ 7 → am_set M 7 v sz k = M k := fun k hk => set_ne _ _ _ hk
  have e7 : am_set M 7 v sz 7 = am_up (M 7) v sz := set_eq _ _ _ _
  have f7v : am_set M 7 v sz 7 v = sz := by rw [e7, up_eq]
  have f7 : ∀ z : Int, z ≠ v → am_set M 7 v sz 7 z = M 7 z := fun z hz => by rw [e7, up_ne _ _ hz]
  have hth : ∀ z, thS (am_set M 7 v sz) z ↔ thS M z := fun z => by
    unfold thS
    by_cases e : z = v
    · rw [e, f7v]; exact ⟨fun q => ⟨q.1, q.2.1, hv.2.2⟩, fun q => ⟨q.1, q.2.1, by omega⟩⟩
    · rw [f7 z e]
  generalize am_set M 7 v sz = M2 at eo e7 f7v f7 hth ⊢
  obtain ⟨p1, p2, p3⟩ := h.vol (M2 := M2) (A2 := am_up A (1796 + 9 * (v : Int) + 1) sz) (fun k hk => eo k (by omega)) (fun y hy _ _ => up_ne _ _ (by omega)) (fun u hu h7 => by
    rw [up_ne _ _ (by omega)]
    exact (h.rv u hu).2 ((hth u).mp ⟨by omega, by omega, h7⟩).2.2)
  refine ⟨⟨p1, p2, p3, ?_, ?_, ?_⟩, hth, fun z hz => ?_⟩
  · obtain ⟨⟨m1, m2, m3⟩, m4⟩ := h.mv
    refine ⟨⟨by rw [up_ne _ _ (by omega), eo 1 (by decide)]; exact m1, by rw [up_ne _ _ (by omega), eo 1 (by decide)]; exact m2, by rw [eo 1 (by decide)]; exact m3⟩, fun z z0 z12 => ?_⟩
    obtain ⟨⟨k1, k2, k3, k4⟩, k5⟩ := m4 z z0 z12
    refine ⟨⟨?_, ?_, ?_, ?_⟩, fun h7 => ?_⟩
    · by_cases e : z = v
      · rw [e, f7v]; omega
      · rw [f7 z e]; exact k1
    · by_cases e : z = v
      · rw [e, f7v]; omega
      · rw [f7 z e]; exact k2
    · rw [up_ne _ _ (by omega), k3]
      have := hth z
      unfold thS at this
      exact ⟨fun q => (this.mpr ⟨z0, z12, q⟩).2.2, fun q => (this.mp ⟨z0, z12, q⟩).2.2⟩
    · by_cases e : z = v
      · rw [e, f7v]; intro q; omega
      · rw [f7 z e, eo 10 (by decide)]; exact k4
    · have hz : 0 < M 7 z := ((hth z).mp ⟨z0, z12, h7⟩).2.2
      obtain ⟨v1, v2, v3, v4, v5, v6, v7, v8, v9, v10, v11⟩ := k5 hz
      have e1 : am_up A (1796 + 9 * (v : Int) + 1) sz (1797 + 9 * z) = M2 7 z := by
        by_cases e : z = v
        · rw [e, f7v, show 1797 + 9 * (v : Int) = 1796 + 9 * (v : Int) + 1 by omega, up_eq]
        · rw [f7 z e, up_ne _ _ (by omega)]; exact v1
      unfold VD
      rw [eo 8 (by decide), eo 9 (by decide), eo 11 (by decide), eo 12 (by decide), eo 13 (by decide), eo 14 (by decide)]
      exact ⟨e1, (up_ne _ _ (by omega)).trans v2, (up_ne _ _ (by omega)).trans v3, (up_ne _ _ (by omega)).trans v4, (up_ne _ _ (by omega)).trans v5, (up_ne _ _ (by omega)).trans v6, (up_ne _ _ (by omega)).trans v7, v8, v9, v10, v11⟩
  · obtain ⟨q1, q2⟩ := h.pr
    unfold PRt
    rw [eo 1 (by decide), eo 13 (by decide), eo 14 (by decide)]
    refine ⟨q1, fun z hz h7 => ?_⟩
    obtain ⟨r1, r2⟩ := q2 z hz ((hth z).mp ⟨by omega, by omega, h7⟩).2.2
    refine ⟨r1, ?_⟩
    rcases r2 with e | ⟨e1, e2⟩
    · exact Or.inl e
    · exact Or.inr ⟨(hth _).mpr e1, e2⟩
  · intro z hz h7 a a1 a2
    rw [eo 6 (by decide), eo 10 (by decide)]
    by_cases e : z = v
    · subst e
      rw [f7v] at a1
      exact hc a a1 a2
    · rw [f7 z (by omega)] at h7 a1
      exact h.ci z hz h7 a a1 a2
  · unfold usS
    by_cases hz2 : thS M z
    · rw [if_pos hz2, if_pos ((hth z).mpr hz2), eo 6 (by decide), eo 10 (by decide)]
    · rw [if_neg hz2, if_neg (fun q => hz2 ((hth z).mp q))]
theorem OPR.ct1 {A0 : Int → Int} {M0 N1 M N : am_M} {v : Nat} (h : OPR A0 M0 N1 v 1 M N) : ∀ b : Int, M0 7 v ≤ b → b < 512 → ct (M 6) (M 10) v b = -1 := by
  rcases h.2.2 with ⟨q, _⟩ | ⟨_, A, _, _, _, _, _, _, _, a8⟩
  · omega
  · exact a8
theorem rs_opr (d : Nat) {A0 : Int → Int} {M0 N1 : am_M} {v : Nat} {n : Int} (hJ : JY M0 A0 n) (hv : thS M0 v) (h12 : N1 504 2 = 0) {sz : Int} (hsz : 1 ≤ sz) : ∀ (k : Nat), k ≤ 512 → ∀ (M N : am_M), OPR A0 M0 N1 v 1 M N → (∀ b : Int, k ≤ b → b < 512 → ct (M 6) (M 10) v b = -1) →
    ∃ (M' N' : am_M), am_at am_P (d + 10) j_Md_size 29 [am_r 6 504, am_i v, am_i sz, am_i ((k : Int) - 1)] [] N = (am_bV (am_m am_P (d + 10) j_Md_let [am_r 6 504, am_i v, am_i 1, am_i sz] N') fun M1 => am_bI (am_m am_P (d + 10) j_Md_end [am_r 6 504, am_i v] M1) fun x3 M2 => am_if (x3 = 0 ∨ x3 = 1) (some (some (am_i x3), M2))) ∧
      ((rsS v sz k M = (0, M') ∧ OPR A0 M0 N1 v 0 M' N') ∨ (rsS v sz k M = (1, am_set M' 7 v sz) ∧ OPR A0 M0 N1 v 1 M' N' ∧ ∀ b : Int, sz ≤ b → b < 512 → ct (M' 6) (M' 10) v b = -1))
  | 0, _, M, N, h, hc => by
    refine ⟨M, N, ?_, Or.inr ⟨rfl, h, fun b b1 b2 => hc b (by omega) b2⟩⟩
    rw [E_Md_size_29, if_pos (by omega)]
  | k + 1, hk, M, N, h, hc => by
    have hv1 := (h.th v).mpr hv
    have hv12 : v < 12 := by have := hv.2.1; omega
    have h7 := (hJ.mv.2 v hv.1 hv.2.1).1.2.1
    have e1 : ((k + 1 : Nat) : Int) - 1 = k := by omega
    rw [e1]
    unfold rsS
    by_cases hs : (k : Int) < sz
    · rw [if_pos hs]
      refine ⟨M, N, ?_, Or.inr ⟨rfl, h, fun b b1 b2 => hc b (by omega) b2⟩⟩
      rw [E_Md_size_29, if_pos hs]
    · rw [if_neg hs]
      obtain ⟨A, r1, r2, r3, r4⟩ := h.row
      by_cases hb : blkS M v k = -1
      · have e : clS M v k = (1, M) := by unfold clS; rw [if_pos hb]
        rw [e, if_neg (show ¬ (1 : Int) = 0 by decide)]
        obtain ⟨M', N', g1, g2⟩ := rs_opr d hJ hv h12 hsz k (by omega) M N h (fun b b1 b2 => by
          by_cases e : b = k
          · rw [e, ← blk_ct hv1]; exact hb
          · exact hc b (by omega) b2)
        refine ⟨M', N', ?_, g2⟩
        rw [E_Md_size_29, if_neg hs, if_pos (h.ns h12), R_blockAt (d + 7) r2 r3 hv1 (by omega) r1, bI_some, if_pos hb, v_eq, show am_wr ((k : Int) + -1) = (k : Int) - 1 by rw [wr_id (by omega) (by omega)]; omega]
        exact g1
      · have hlt : (k : Int) < M0 7 v := Classical.byContradiction (fun q => hb (by rw [blk_ct hv1]; exact h.ct1 k (by omega) (by omega)))
        obtain ⟨N', k1, k2, k3⟩ := h.clr d hv h7 (a := (k : Int)) ⟨by omega, hlt⟩ hb
        have hcl := (wipe_both 0 (a := (k : Int)) (by omega) N1 r2 r3 r4 hv1 hb).2
        have eG : am_at am_P (d + 10) j_Md_size 29 [am_r 6 504, am_i v, am_i sz, am_i (k : Int)] [] N = am_at am_P (d + 10) j_Md_size 29 [am_r 6 504, am_i v, am_i sz, am_i ((k : Int) - 1)] [] N' := by
          conv => lhs; rw [E_Md_size_29, if_neg hs, if_pos (h.ns h12), R_blockAt (d + 7) r2 r3 hv1 (by omega) r1, bI_some, if_neg hb, k1, bV_some, v_eq, show am_wr ((k : Int) + -1) = (k : Int) - 1 by rw [wr_id (by omega) (by omega)]; omega]
        rw [eG]
        by_cases h0 : (clS M v k).1 = 0
        · rw [if_pos h0]
          rw [h0] at k3
          refine ⟨_, N', ?_, Or.inl ⟨rfl, k3⟩⟩
          rw [E_Md_size_29]
          by_cases hs2 : (k : Int) - 1 < sz
          · rw [if_pos hs2]
          · rw [if_neg hs2, if_neg (by rw [k3.sh]; decide)]
        · rw [if_neg h0]
          have h1 : (clS M v k).1 = 1 := by omega
          rw [h1] at k3
          obtain ⟨M', N'', g1, g2⟩ := rs_opr d hJ hv h12 hsz k (by omega) _ N' k3 (fun b b1 b2 => by
            rw [hcl h1 v hv12 b (by omega)]
            by_cases e : b = k
            · rw [if_pos ⟨rfl, e⟩]
            · rw [if_neg (fun q => e q.2)]; exact hc b (by omega) b2)
          exact ⟨M', N'', g1, g2⟩
theorem set_sw (X : am_M) (j x : Int) : am_set (am_set X 504 2 1) 505 j x = am_set (am_set X 505 j x) 504 2 1 := by
  unfold am_set
  rw [st_ne _ _ (show (505 : Nat) ≠ 504 by decide), st_ne _ _ (show (504 : Nat) ≠ 505 by decide), st_comm _ _ _ (show (504 : Nat) ≠ 505 by decide)]
theorem J_size (d : Nat) {M : am_M} {n : Int} (hG : GR M n) (v sz : Int) : AG M (n + 1) (am_m am_P (d + 20) j_Tv_size [am_r 5 0, am_i v, am_i sz] M) (am_m am_P (d + 20) j_Md_size [am_r 6 504, am_i v, am_i sz]) := by
  have hX : am_m am_P (d + 20) j_Tv_size [am_r 5 0, am_i v, am_i sz] M = am_at am_P (d + 19) j_Tv_size 0 [am_r 5 0, am_i v, am_i sz] [] M := rfl
  have hY : ∀ N, am_m am_P (d + 20) j_Md_size [am_r 6 504, am_i v, am_i sz] N = am_at am_P (d + 19) j_Md_size 0 [am_r 6 504, am_i v, am_i sz, am_u] [] N := fun _ => rfl
  unfold AG
  simp only [hX, hY, E_Tv_size_0, E_Md_size_0, Nat.reduceAdd, if_ot, if_to]
  rcases opn_both (d + 13) (d + 14) hG v with ⟨M', o1, o2, o3⟩ | ⟨M', A, o1, o2, o3, o4, o5, o6, o7, o8⟩
  · obtain ⟨N', e1, e2⟩ := o3 M' (o2 505 (by decide))
    rw [o1]
    simp only [bI_some, if_true]
    refine ⟨_, _, N', rfl, ?_, RF.gr hG (by omega) (fun k hk => o2 k (by omega)) e2⟩
    rw [e1]; simp only [bI_some, if_true]
  · obtain ⟨N', e1, e2⟩ := o8 M' (o2 505 (by decide))
    have hN5 : N' 505 = wc A (M' 4) := by rw [e2.1 505 (by omega)]; exact o4
    have hno := RF.gr (n' := n + 1) hG (by omega) (fun k hk => o2 k (by omega)) e2
    obtain ⟨w, hw⟩ : ∃ w : Nat, v = (w : Int) := ⟨v.toNat, by have := o6.1; omega⟩
    subst hw
    have hs := (o5.1.mv.2 w o6.1 o6.2.1).1
    rw [o1]
    simp only [bI_some, show ¬ ((1 : Int) = 0) by decide, if_false]
    by_cases hz : 1 ≤ sz ∧ sz ≤ 512
    · simp only [S_Tv_isSize, bI_some, b2_t hz, show ¬ ((1 : Int) = 0) by decide, if_false]
      obtain ⟨q, hq, hq2⟩ := o3.q
      obtain ⟨b0, b1, bt, b3, b4⟩ := beg_opr o3 o5 o6 hq
      have hw12 : w < 12 := by have := o6.2.1; omega
      have hJ1 : JY (csS q 1 M') A (n + 1) := by
        obtain ⟨j1, j2, j3, j4, ⟨⟨j5, j6⟩, j7⟩, j8⟩ := b3.1
        exact ⟨j1, j2, j3, j4, ⟨⟨j5, by omega⟩, j7⟩, j8⟩
      obtain ⟨m', hm'⟩ : ∃ m' : Nat, m' = 512 := ⟨_, rfl⟩
      obtain ⟨r, hr⟩ : ∃ r, r = rsS w sz m' (csS q 1 M') := ⟨_, rfl⟩
      have hrun : ∀ N1 : am_M, N1 505 = wc A (M' 4) → N1 504 2 = 0 → ∃ N2, (am_at am_P (d + 19) j_Md_size 29 [am_r 6 504, am_i (w : Int), am_i sz, am_i 511] [] N1 = am_bI (am_m am_P (d + 19) j_Md_end [am_r 6 504, am_i (w : Int)] N2) fun x3 M2 => am_if (x3 = 0 ∨ x3 = 1) (some (some (am_i x3), M2))) ∧ DN A r.2 N1 N2 r.1 (n + 1) ∧ (∀ k : Nat, (k = 0 ∨ 15 ≤ k) → r.2 k = csS q 1 M' k) ∧ r.2 1 = M' 1 ∧ OZ M' r.2 ∧ thS r.2 w ∧ (r.1 = 0 ∨ r.1 = 1) ∧ (r.1 = 1 → ∃ A', MV r.2 A') ∧ (r.1 = 1 → ∀ u : Nat, u < 12 → u ≠ w → thS r.2 u → usS r.2 u ≤ r.2 8 u) := fun N1 h5 h2 => by
        obtain ⟨M2, N2, f1, f2⟩ := rs_opr (d + 9) hJ1 b1 h2 (sz := sz) hz.1 m' (by omega) (csS q 1 M') N1 (b4 N1 h5) (fun b c1 c2 => by omega)
        rw [← hr] at f2
        rw [show ((m' : Nat) : Int) - 1 = 511 by omega, S_Md_let (d + 18) (by omega) (by omega), bV_some] at f1
        refine ⟨_, f1, ?_⟩
        rcases f2 with ⟨g1, g2⟩ | ⟨g1, g2, g3⟩
        · rw [g1]
          refine ⟨?_, fun k hk => g2.1 k (by omega) (by omega) (by omega) (by omega) (by omega), by (try dsimp only); rw [g2.1 1 (by decide) (by decide) (by decide) (by decide) (by decide), b0 1 (by omega)], fun y hy => by (try dsimp only); rw [g2.2.1 y hy, b0 4 (by omega)], (g2.th w).mpr b1, Or.inl rfl, fun q => absurd (show (0 : Int) = 1 from q) (by decide), fun q => absurd (show (0 : Int) = 1 from q) (by decide)⟩
          rcases g2.2.2 with ⟨_, R, r1, r2⟩ | ⟨q, _⟩
          · refine Or.inl ⟨rfl, am_up R (1796 + 9 * (w : Int) + 1) sz, ?_, fun y hy => by rw [up_ne _ _ (by omega)]; exact r2 y hy⟩
            rw [r1, set_sw]
            unfold am_set
            rw [st_eq, st_st]
          · omega
        · rw [g1]
          rcases (g2.dn hJ1 b1).1 with ⟨q, _⟩ | ⟨_, A', d1, d2, d3⟩
          · omega
          · obtain ⟨k1, k2, k3⟩ := size_J d3 ((g2.th w).mpr b1) hz g3
            refine ⟨Or.inr ⟨rfl, am_up A' (1796 + 9 * (w : Int) + 1) sz, ?_, fun y hy => by rw [up_ne _ _ (by omega)]; exact d2 y hy, k1⟩, fun k hk => by (try dsimp only); rw [set_ne _ _ _ (by omega), g2.1 k (by omega) (by omega) (by omega) (by omega) (by omega)], by (try dsimp only); rw [set_ne _ _ _ (by omega), g2.1 1 (by decide) (by decide) (by decide) (by decide) (by decide), b0 1 (by omega)], fun y hy => by (try dsimp only); rw [set_ne _ _ _ (by omega), g2.2.1 y hy, b0 4 (by omega)], (k2 w).mpr ((g2.th w).mpr b1), Or.inr rfl, fun _ => ⟨_, k1.mv⟩, fun _ u hu huw ht => ?_⟩
            · (try dsimp only)
              rw [d1, set_ne _ _ _ (show (4 : Nat) ≠ 7 by decide)]
              unfold am_set
              rw [st_eq, st_st, wc_upN _ _ (by omega) (by omega)]
            · (try dsimp only)
              rw [k3 u (by omega), set_ne _ _ _ (by decide)]
              exact g2.us b3 rfl u hu huw ((k2 u).mp ht)
      obtain ⟨N0, -, -, c1, c2, c3, c4, c5, c6, c7⟩ := hrun (am_set M' 504 2 0) (by rw [set_ne _ _ _ (by decide)]; exact o4) (by rw [set_eq, up_eq])
      have hall := fun d' e' => hand_gen d' e' o3 o5 o4 hq (r := r.1) (M2 := r.2) (v := w) c1 c3 (by rw [c2]) c4 c6 c5 c7 (fun N1 h5 h2 => by
        obtain ⟨N2, f1, f2, -⟩ := hrun N1 h5 h2
        exact ⟨N2, f1, f2⟩)
      obtain ⟨-, bo, M3, s1, s2, s3, s4⟩ := hall (d + 11) (d + 12)
      rw [(hall (d + 16) 0).1]
      have hre := S_St_resize (d + 9) w sz (csS q 1 M') b1 (by omega)
      rw [← hm', ← hr] at hre
      simp only [bV_some, hre, bI_some, s1, if_t s2]
      obtain ⟨N'', e1', e2'⟩ := o8 M3 (by rw [s3 505 (by omega), o2 505 (by decide)])
      have hN5' : N'' 505 = wc A (M' 4) := by rw [e2'.1 505 (by omega), s3 505 (by omega)]; exact o4
      obtain ⟨N1, N2, M6, n1, n2, n3, n4, n5, n6, n7⟩ := s4 N'' e2'
      refine ⟨_, _, M6, rfl, ?_, n6, fun k hk => by rw [n7 k hk, o2 k (by omega)]⟩
      rw [e1']
      simp only [bI_some, show ¬ ((1 : Int) = 0) by decide, if_false, S_Md_isIn, b2_t hz, show ¬ ((1 : Int) = 0) by decide, if_false, n1, bV_some, v_eq, n4, n5, if_t s2]
    · simp only [S_Tv_isSize, bI_some, b2_f hz, if_true]
      refine ⟨_, _, N', rfl, ?_, hno⟩
      rw [e1]
      simp only [bI_some, show ¬ ((1 : Int) = 0) by decide, if_false, S_Md_isIn, b2_f hz, if_true]
