/-! BROUGHT (mkhand.py, gen77.py) -/
theorem rs_z' {c : Int → Int} {t x : Int} (ht : t = -1 ∨ (96 ≤ t ∧ t < 256)) (h : x < 96) (hx : c x = 0) : rs c t x = 0 := by
  unfold rs
  split
  · rw [up_ne _ _ (by omega)]; exact hx
  · exact hx
/-- a volume brought to another: what is so behind it -/
theorem bring_J {M : am_M} {A : Int → Int} {n : Int} (h : JY M A n) {w u : Nat} (hw : thS M w) (hu : thS M u) (hwu : w ≠ u) {M2 : am_M} (hM2 : M2 = am_set (hgTS M w (M 10 u)) 7 w (M 7 u)) :
    (∀ k : Nat, k ≠ 4 → k ≠ 7 → k ≠ 10 → M2 k = M k) ∧ OZ M M2 ∧ M2 7 = am_up (M 7) w (M 7 u) ∧
    JY M2 (am_up (am_up A (1796 + 9 * (w : Int) + 4) (decT (M 10 u))) (1797 + 9 * (w : Int)) (M 7 u)) n ∧ (∀ z : Nat, z < 12 → z ≠ w → usS M2 z = usS M z) ∧
    ∀ (d : Nat) (N : am_M), am_m am_P (d + 6) j_Md_hangTrunk [am_r 6 504, am_i w, am_i (decT (M 10 u))] (am_st N 505 (wc A (M 4))) = some (none, am_st N 505 (wc (am_up A (1796 + 9 * (w : Int) + 4) (decT (M 10 u))) (M2 4))) := by
  have hw12 : w < 12 := by have := hw.2.1; omega
  have hu12 : u < 12 := by have := hu.2.1; omega
  have htu := h.rv.tr h.pi hu12
  have hT : M 10 u = -1 ∨ (96 ≤ M 10 u ∧ M 10 u < 256) := by
    rcases htu with e | e
    · exact Or.inl e
    · exact Or.inr ⟨e.1, e.2.1⟩
  have hp := hgTS_pure M hw (M 10 u) (fun y => by have := h.pi.bd y; omega)
  have key := fun d N => trunk_hang h.pi hw12 (x := M 10 u) (us3 htu) (h.rv w hw12).1 ((h.rv w hw12).2 hw.2.2) d N
  have hPI := (key 0 M).2
  have hrun := fun d N => (key d N).1
  have e4 : M2 4 = (LGc (M 6) 4 (rs (M 4) (M 10 u)) (M 10 w)).2 := by rw [hM2, set_ne _ _ _ (by decide), hp, st_eq]
  have e10 : M2 10 = am_up (M 10) w (M 10 u) := by rw [hM2, set_ne _ _ _ (by decide), hp, st_ne _ _ (by decide), st_eq]
  have e7 : M2 7 = am_up (M 7) w (M 7 u) := by
    have : hgTS M w (M 10 u) 7 = M 7 := by rw [hp, st_ne _ _ (by decide), st_ne _ _ (by decide)]
    rw [hM2, set_eq, this]
  have eo : ∀ k : Nat, k ≠ 4 → k ≠ 7 → k ≠ 10 → M2 k = M k := fun k k4 k7 k10 => by rw [hM2, set_ne _ _ _ k7, hp, st_ne _ _ k4, st_ne _ _ k10]
  have e7z : ∀ z : Int, z ≠ w → M2 7 z = M 7 z := fun z hz => by rw [e7, up_ne _ _ hz]
  have e7w : M2 7 w = M 7 u := by rw [e7, up_eq]
  have hth : ∀ z : Int, thS M2 z ↔ thS M z := fun z => by
    unfold thS
    by_cases e : z = w
    · rw [e, e7w]
      exact ⟨fun q => ⟨q.1, q.2.1, hw.2.2⟩, fun q => ⟨q.1, q.2.1, hu.2.2⟩⟩
    · rw [e7z z e]
  have hct : ∀ z : Nat, z < 12 → z ≠ w → ∀ b, ct (M2 6) (M2 10) z b = ct (M 6) (M 10) z b := fun z _ hz b => by
    unfold ct
    rw [eo 6 (by decide) (by decide) (by decide), e10, up_ne _ _ (show (z : Int) ≠ w by omega)]
  have hctw : ∀ b, ct (M2 6) (M2 10) w b = ct (M 6) (M 10) u b := fun b => by
    unfold ct
    rw [eo 6 (by decide) (by decide) (by decide), e10, up_eq]
  refine ⟨eo, ?_, e7, ?_, ?_, ?_⟩
  · intro x hx
    have h1 := hPI.zo x hx
    rw [← e4] at h1
    rw [h1, h.pi.zo x hx]
  · obtain ⟨⟨m1, m2, m3⟩, m4⟩ := h.mv
    refine ⟨?_, ?_, ?_, ?_, ?_, ?_⟩
    · rw [e4, e10, eo 5 (by decide) (by decide) (by decide), eo 6 (by decide) (by decide) (by decide)]
      exact ⟨hPI.1, hPI.2.1, hPI.2.2.1, CO_up hPI.co (by omega) _, hPI.2.2.2.2⟩
    · intro z hz
      obtain ⟨v1, v2⟩ := h.rv z hz
      rw [e10, eo 5 (by decide) (by decide) (by decide), up_ne _ _ (show 1796 + 9 * (z : Int) + 4 ≠ 1797 + 9 * (w : Int) by omega)]
      by_cases e : z = w
      · subst e
        rw [up_eq, up_eq]
        exact ⟨(h.rv u hu12).1, fun _ => rfl⟩
      · rw [up_ne _ _ (show (z : Int) ≠ w by omega), up_ne _ _ (show 1796 + 9 * (z : Int) + 4 ≠ 1796 + 9 * (w : Int) + 4 by omega), e7z z (by omega)]
        exact ⟨v1, v2⟩
    · refine RB_mono h.rb (eo 3 (by decide) (by decide) (by decide)) (fun y _ hy => by rw [up_ne _ _ (by omega), up_ne _ _ (by omega)]) (fun x x0 x1 hx => ?_)
      rw [e4]
      exact LGc_z (rs_z' hT x1 hx) (hPI.bd x).1
    · refine ⟨⟨by rw [up_ne _ _ (by omega), up_ne _ _ (by omega), eo 1 (by decide) (by decide) (by decide)]; exact m1, by rw [up_ne _ _ (by omega), up_ne _ _ (by omega), eo 1 (by decide) (by decide) (by decide)]; exact m2, by rw [eo 1 (by decide) (by decide) (by decide)]; exact m3⟩, fun z z0 z12 => ?_⟩
      obtain ⟨⟨k1, k2, k3, k4⟩, k5⟩ := m4 z z0 z12
      obtain ⟨⟨j1, j2, j3, j4⟩, j5⟩ := m4 u (by omega) (by omega)
      have hw2 := hw.2.2
      have hu2 := hu.2.2
      refine ⟨⟨?_, ?_, ?_, ?_⟩, fun h7 => ?_⟩
      · by_cases e : z = w
        · rw [e, e7w]; exact j1
        · rw [e7z z e]; exact k1
      · by_cases e : z = w
        · rw [e, e7w]; exact j2
        · rw [e7z z e]; exact k2
      · rw [up_ne _ _ (by omega), up_ne _ _ (by omega)]
        by_cases e : z = w
        · rw [e, e7w]
          rw [e] at k3
          exact ⟨fun _ => hu2, fun _ => k3.mpr hw2⟩
        · rw [e7z z e]; exact k3
      · by_cases e : z = w
        · rw [e, e7w]; intro q; omega
        · rw [e7z z e, e10, up_ne _ _ e]; exact k4
      · have hz : 0 < M 7 z := ((hth z).mp ⟨z0, z12, h7⟩).2.2
        obtain ⟨v1, v2, v3, v4, v5, v6, v7, v8, v9, v10, v11⟩ := k5 hz
        have e1 : am_up (am_up A (1796 + 9 * (w : Int) + 4) (decT (M 10 u))) (1797 + 9 * (w : Int)) (M 7 u) (1797 + 9 * z) = M2 7 z := by
          by_cases e : z = w
          · rw [e, up_eq, e7w]
          · rw [up_ne _ _ (by omega), up_ne _ _ (by omega), e7z z e]; exact v1
        unfold VD
        rw [eo 8 (by decide) (by decide) (by decide), eo 9 (by decide) (by decide) (by decide), eo 11 (by decide) (by decide) (by decide), eo 12 (by decide) (by decide) (by decide), eo 13 (by decide) (by decide) (by decide), eo 14 (by decide) (by decide) (by decide)]
        exact ⟨e1, ((up_ne _ _ (by omega)).trans (up_ne _ _ (by omega))).trans v2, ((up_ne _ _ (by omega)).trans (up_ne _ _ (by omega))).trans v3, ((up_ne _ _ (by omega)).trans (up_ne _ _ (by omega))).trans v4, ((up_ne _ _ (by omega)).trans (up_ne _ _ (by omega))).trans v5, ((up_ne _ _ (by omega)).trans (up_ne _ _ (by omega))).trans v6, ((up_ne _ _ (by omega)).trans (up_ne _ _ (by omega))).trans v7, v8, v9, v10, v11⟩
    · obtain ⟨p1, p2⟩ := h.pr
      unfold PRt
      rw [eo 1 (by decide) (by decide) (by decide), eo 13 (by decide) (by decide) (by decide), eo 14 (by decide) (by decide) (by decide)]
      refine ⟨p1, fun z hz h7 => ?_⟩
      obtain ⟨q1, q2⟩ := p2 z hz ((hth z).mp ⟨by omega, by omega, h7⟩).2.2
      refine ⟨q1, ?_⟩
      rcases q2 with e | ⟨e1, e2⟩
      · exact Or.inl e
      · exact Or.inr ⟨(hth _).mpr e1, e2⟩
    · intro z hz h7 a a1 a2
      by_cases e : z = w
      · subst e
        rw [hctw]
        rw [e7w] at a1
        exact h.ci u hu12 hu.2.2 a a1 a2
      · rw [hct z hz e]
        rw [e7z z (by omega)] at h7 a1
        exact h.ci z hz h7 a a1 a2
  · intro z hz e
    unfold usS
    by_cases hz2 : thS M z
    · rw [if_pos hz2, if_pos ((hth z).mpr hz2), mu_um, mu_um]
      exact sm_congr 512 (fun a _ => by (try dsimp only); rw [hct z hz e])
    · rw [if_neg hz2, if_neg (fun q => hz2 ((hth z).mp q))]
  · intro d N
    rw [e4]
    exact hrun d N
theorem J_bring (d : Nat) {M : am_M} {n : Int} (hG : GR M n) (v u : Int) : AG M (n + 1) (am_m am_P (d + 20) j_Tv_bring [am_r 5 0, am_i v, am_i u] M) (am_m am_P (d + 20) j_Md_bring [am_r 6 504, am_i v, am_i u]) := by
  have hX : am_m am_P (d + 20) j_Tv_bring [am_r 5 0, am_i v, am_i u] M = am_at am_P (d + 19) j_Tv_bring 0 [am_r 5 0, am_i v, am_i u] [] M := rfl
  have hY : ∀ N, am_m am_P (d + 20) j_Md_bring [am_r 6 504, am_i v, am_i u] N = am_at am_P (d + 19) j_Md_bring 0 [am_r 6 504, am_i v, am_i u] [] N := fun _ => rfl
  unfold AG
  simp only [hX, hY, E_Tv_bring_0, E_Md_bring_0, Nat.reduceAdd, if_ot, if_to]
  rcases opn_both (d + 13) (d + 14) hG v with ⟨M', o1, o2, o3⟩ | ⟨M', A, o1, o2, o3, o4, o5, o6, o7, o8⟩
  · obtain ⟨N', e1, e2⟩ := o3 M' (o2 505 (by decide))
    rw [o1]
    simp only [bI_some, if_true]
    refine ⟨_, _, N', rfl, ?_, RF.gr hG (by omega) (fun k hk => o2 k (by omega)) e2⟩
    rw [e1]; simp only [bI_some, if_true]
  · obtain ⟨N', e1, e2⟩ := o8 M' (o2 505 (by decide))
    have hN5 : N' 505 = wc A (M' 4) := by rw [e2.1 505 (by omega)]; exact o4
    have hno := RF.gr (n' := n + 1) hG (by omega) (fun k hk => o2 k (by omega)) e2
    obtain ⟨w, hw⟩ : ∃ w : Nat, v = (w : Int) := ⟨v.toNat, by have := o6.1; omega⟩
    subst hw
    have hs := (o5.1.mv.2 w o6.1 o6.2.1).1
    rw [o1]
    simp only [bI_some, show ¬ ((1 : Int) = 0) by decide, if_false]
    by_cases hu : thS M' u
    · simp only [S_St_isThere, bI_some, b2_t hu, show ¬ ((1 : Int) = 0) by decide, if_false]
      by_cases hne : ¬ (w : Int) = u
      · simp only [if_neg hne]
        obtain ⟨q, hq, hq2⟩ := o3.q
        obtain ⟨b0, b1, b2, b3, b4⟩ := beg_opr o3 o5 o6 hq
        have hw12 : w < 12 := by have := o6.2.1; omega
        obtain ⟨z, hz⟩ : ∃ z : Nat, u = (z : Int) := ⟨u.toNat, by have := hu.1; omega⟩
        subst hz
        have hz12 : z < 12 := by have := hu.2.1; omega
        have hJ1 : JY (csS q 1 M') A (n + 1) := by
          obtain ⟨j1, j2, j3, j4, ⟨⟨j5, j6⟩, j7⟩, j8⟩ := b3.1
          exact ⟨j1, j2, j3, j4, ⟨⟨j5, by omega⟩, j7⟩, j8⟩
        obtain ⟨M2, hM2⟩ : ∃ M2, M2 = am_set (hgTS (csS q 1 M') w (csS q 1 M' 10 z)) 7 w (csS q 1 M' 7 z) := ⟨_, rfl⟩
        obtain ⟨g1, g2, g3, g4, g5, g6⟩ := bring_J hJ1 b1 ((b2 z).mpr hu) (by omega) hM2
        have hA4 : A (1796 + 9 * (z : Int) + 4) = decT (csS q 1 M' 10 z) := (b3.1.rv z hz12).2 ((b2 z).mpr hu).2.2
        have hA1 : A (1797 + 9 * (z : Int)) = csS q 1 M' 7 z := (b3.1.mv.vd ((b2 z).mpr hu)).1
        have hop : ∀ N1 : am_M, N1 505 = wc A (M' 4) → N1 504 2 = 0 → ∃ N2, ((am_bI (am_m am_P (d + 19) j_Md_get [am_r 6 504, am_i (z : Int), am_i 4] N1) fun x7 M6 => am_bV (am_m am_P (d + 19) j_Md_hangTrunk [am_r 6 504, am_i (w : Int), am_i x7] M6) fun M8 => am_bI (am_m am_P (d + 19) j_Md_get [am_r 6 504, am_i (z : Int), am_i 1] M8) fun x10 M9 => am_bV (am_m am_P (d + 19) j_Md_let [am_r 6 504, am_i (w : Int), am_i 1, am_i x10] M9) fun M11 => some (none, M11)) = some (none, N2)) ∧ DN A M2 N1 N2 1 (n + 1) := fun N1 h5 _ => by
          refine ⟨am_st N1 505 (wc (am_up (am_up A (1796 + 9 * (w : Int) + 4) (decT (csS q 1 M' 10 z))) (1797 + 9 * (w : Int)) (csS q 1 M' 7 z)) (M2 4)), ?_, Or.inr ⟨rfl, _, rfl, fun y hy => by rw [up_ne _ _ (by omega), up_ne _ _ (by omega)], g4⟩⟩
          have hr := g6 (d + 13) N1
          rw [b0 4 (by omega), ← h5, st_self] at hr
          rw [R_got (d + 18) (by omega) (by omega) h5, bI_some, hA4, hr, bV_some, R_get (d + 18) (by omega) (by omega), bI_some, up_ne _ _ (by omega), show 1796 + 9 * (z : Int) + 1 = 1797 + 9 * z by omega, hA1, S_Md_let (d + 18) (by omega) (by omega), bV_some]
          unfold am_set
          rw [st_eq, st_st, wc_upN _ _ (by omega) (by omega), show 1796 + 9 * (w : Int) + 1 = 1797 + 9 * w by omega]
        have hall := fun d e => hand_gen d e o3 o5 o4 hq (r := 1) (M2 := M2) (v := w) (fun k hk => g1 k (by omega) (by omega) (by omega)) (fun y hy => by rw [g2 y hy, b0 4 (by omega)]) (by rw [g1 1 (by decide) (by decide) (by decide), b0 1 (by omega)]) ⟨b1.1, b1.2.1, by rw [g3, up_eq]; exact ((b2 z).mpr hu).2.2⟩ (fun _ => ⟨_, g4.mv⟩) (Or.inr rfl) (fun _ u hu huw ht => by
          rw [g5 u hu huw, g1 8 (by decide) (by decide) (by decide)]
          exact b3.2.1 u ⟨ht.1, ht.2.1, by have := ht.2.2; rw [g3, up_ne _ _ (by omega)] at this; exact this⟩) hop
        obtain ⟨-, bo, M3, s1, s2, s3, s4⟩ := hall (d + 11) (d + 12)
        rw [(hall (d + 16) 0).1]
        have e7 : hgTS (csS q 1 M') w (csS q 1 M' 10 z) 7 = csS q 1 M' 7 := by
          rw [hgTS_pure _ b1 _ (fun y => by have := b3.1.pi.bd y; omega), st_ne _ _ (by decide), st_ne _ _ (by decide)]
        simp only [bV_some, if_t (show 0 ≤ (w : Int) ∧ (w : Int) < 12 by omega), if_t (show 0 ≤ (z : Int) ∧ (z : Int) < 12 by omega), S_St_hangTrunk (d + 12), w_eq, e7]
        rw [← hM2]
        simp only [s1, bI_some, if_t s2]
        obtain ⟨N'', e1', e2'⟩ := o8 M3 (by rw [s3 505 (by omega), o2 505 (by decide)])
        have hN5' : N'' 505 = wc A (M' 4) := by rw [e2'.1 505 (by omega), s3 505 (by omega)]; exact o4
        obtain ⟨N1, N2, M6, n1, n2, n3, n4, n5, n6, n7⟩ := s4 N'' e2'
        refine ⟨_, _, M6, rfl, ?_, n6, fun k hk => by rw [n7 k hk, o2 k (by omega)]⟩
        rw [e1']
        simp only [bI_some, show ¬ ((1 : Int) = 0) by decide, if_false, R_isVol (d + 17) o5.1.mv hN5', b2_t hu, show ¬ ((1 : Int) = 0) by decide, if_false, if_neg hne, n1, bV_some]
        have n4' := congrArg (fun X => am_bV X fun M11 => am_bI (am_m am_P (d + 19) j_Md_end [am_r 6 504, am_i (w : Int)] M11) fun x13 M12 => am_if (x13 = 0 ∨ x13 = 1) (some (some (am_i x13), M12))) n4
        (try dsimp only at n4')
        rw [bV_some, n5, bI_some, if_t s2] at n4'
        rw [← n4', R_got (d + 18) (by omega) (by omega) n3, bI_some, bI_some]
        have hr := g6 (d + 13) N1
        rw [b0 4 (by omega), ← n3, st_self] at hr
        rw [hA4, hr, bV_some, bV_some, R_get (d + 18) (by omega) (by omega), bI_some, bI_some, S_Md_let (d + 18) (by omega) (by omega), bV_some, bV_some]
        rfl
      · simp only [if_pos (Classical.not_not.mp hne)]
        refine ⟨_, _, N', rfl, ?_, hno⟩
        rw [e1]
        simp only [bI_some, show ¬ ((1 : Int) = 0) by decide, if_false, R_isVol (d + 17) o5.1.mv hN5, b2_t hu, show ¬ ((1 : Int) = 0) by decide, if_false, if_pos (Classical.not_not.mp hne)]
    · simp only [S_St_isThere, bI_some, b2_f hu, if_true]
      refine ⟨_, _, N', rfl, ?_, hno⟩
      rw [e1]
      simp only [bI_some, show ¬ ((1 : Int) = 0) by decide, if_false, R_isVol (d + 17) o5.1.mv hN5, b2_f hu, if_true]
