/-! RESERVED, BROUGHT: (mkhand.py, gen76.py) -/
theorem hand_gen (d e' : Nat) {M : am_M} {n : Int} (hG : GR M n) {A : Int → Int} (hJ : JX M A n) (hR : M 505 = wc A (M 4)) {q : Nat} (hq : M 0 1 = (q : Int)) {r : Int} {M2 : am_M} {P : am_M → am_M → Prop} {v : Nat} (hM2 : ∀ k : Nat, (k = 0 ∨ 15 ≤ k) → M2 k = csS q 1 M k) (hz : OZ M M2) (h11 : M2 1 11 = M 1 11) (hv : thS M2 v) (hMV : r = 1 → ∃ A', MV M2 A') (hr01 : r = 0 ∨ r = 1) (ho : r = 1 → ∀ w : Nat, w < 12 → w ≠ v → thS M2 w → usS M2 w ≤ M2 8 w) (hop : ∀ N1 : am_M, N1 505 = wc A (M 4) → N1 504 2 = 0 → ∃ N2, P N1 N2 ∧ DN A M2 N1 N2 r (n + 1)) :
    am_m am_P (d + 3) j_Tv_begin [am_r 5 0] M = some (none, csS q 1 M) ∧ ∃ (b : Int) (M3 : am_M), am_m am_P (d + 8) j_Tv_settle [am_r 5 0, am_i r] M2 = some (some (am_i b), M3) ∧ (b = 0 ∨ b = 1) ∧ (∀ k : Nat, 501 ≤ k → M3 k = M k) ∧
      ∀ N : am_M, RF M3 N → ∃ N1 N2 M6 : am_M, (∀ e : Nat, am_m am_P (e + 1) j_Md_begin [am_r 6 504] N = some (none, N1)) ∧ N1 504 2 = 0 ∧ N1 505 = wc A (M 4) ∧ P N1 N2 ∧ am_m am_P (e' + 7) j_Md_end [am_r 6 504, am_i v] N2 = some (some (am_i b), M6) ∧ GR M6 (n + 1) ∧ ∀ k : Nat, 517 ≤ k → M6 k = M k := by
  have hqB : isB (q : Int) := by rw [← hq]; exact hG.1.1.1
  have hqr := isB_rng hqB
  refine ⟨S_Tv_begin d M hq (by omega) hG.2.fl, ?_⟩
  obtain ⟨b, M3, s1, s2, s3, s4⟩ := settle_fin d e' hG (show n ≤ n + 1 by omega) hJ hR hq hM2 hz h11 hv (fun q => Or.inr (hMV q)) hr01 ho
  refine ⟨b, M3, s1, s2, fun k hk => s3 k (by omega), fun N hN => ?_⟩
  obtain ⟨N1', b1, b2, b3, b4⟩ := R_begin 0 hN
  have hbg : ∀ e : Nat, am_m am_P (e + 1) j_Md_begin [am_r 6 504] N = some (none, N1') := fun e => by
    rw [S_Md_begin] at b1 ⊢
    exact b1
  have h5 : N1' 505 = wc A (M 4) := by rw [b2.1 505 (by omega), s3 505 (by omega)]; exact hR
  obtain ⟨N2, p1, p2⟩ := hop N1' h5 b2.2.2
  obtain ⟨M6, m1, m2, m3, m4⟩ := s4 N1' N2 b2 p2
  have hall : ∀ k : Nat, (495 ≤ k ∧ k ≤ 500 ∨ 513 ≤ k) → M6 k = M k := fun k hk => by rw [m3 k (by omega) (by omega), b3 k (by omega), hN.1 k (by omega), s3 k (by omega)]
  exact ⟨N1', N2, M6, hbg, b2.2.2, h5, p1, m1, m2.gr (hG.1.2.2.2.2.2.2.at (fun k k1 k2 => hall k (by omega)) (by rw [m4 13 (by decide), b4 13 (by decide), hN.2.1, s3 504 (by omega)]) (by rw [m4 16 (by decide), b4 16 (by decide), hN.2.2, s3 504 (by omega)]) (fun k k1 k2 => hall k (by omega))), fun k hk => hall k (by omega)⟩
/-- only what is told of volumes has changed: the parts of the relation -/
theorem JY.vol {M M2 : am_M} {A A2 : Int → Int} {n : Int} (h : JY M A n) (hk : ∀ k : Nat, (3 ≤ k ∧ k ≤ 6) ∨ k = 10 → M2 k = M k) (hA : ∀ y : Int, y < 1796 → y ≠ 2 → y ≠ 3 → A2 y = A y) (hT : ∀ v : Nat, v < 12 → 0 < M2 7 v → A2 (1796 + 9 * (v : Int) + 4) = decT (M 10 v)) : PI A2 (M2 4) (M2 5) (M2 6) (M2 10) (fun _ => 0) ∧ RV M2 A2 ∧ RB M2 A2 := by
  rw [hk 4 (by omega), hk 5 (by omega), hk 6 (by omega), hk 10 (by omega)]
  obtain ⟨p1, p2, p3, p4, p5⟩ := h.pi
  refine ⟨⟨p1, p2, p3, fun p hp h0 => ?_, p5⟩, fun v hv => ?_, fun b h0 h1 hb => ?_⟩
  · obtain ⟨c1, c2⟩ := p4 p hp h0
    rw [hA _ (by omega) (by omega) (by omega)]
    exact ⟨c1, fun k hk8 => by rw [hA _ (by omega) (by omega) (by omega)]; exact c2 k hk8⟩
  · obtain ⟨v1, v2⟩ := h.rv v hv
    rw [hk 5 (by omega), hk 10 (by omega)]
    exact ⟨v1, fun q => hT v hv q⟩
  · rw [hk 4 (by omega)] at hb
    rw [hA _ (by omega) (by omega) (by omega), hk 3 (by omega)]
    exact h.rb b h0 h1 hb
theorem J_reserve (d : Nat) {M : am_M} {n : Int} (hG : GR M n) (v x : Int) : AG M (n + 1) (am_m am_P (d + 20) j_Tv_reserve [am_r 5 0, am_i v, am_i x] M) (am_m am_P (d + 20) j_Md_reserve [am_r 6 504, am_i v, am_i x]) := by
  have hX : am_m am_P (d + 20) j_Tv_reserve [am_r 5 0, am_i v, am_i x] M = am_at am_P (d + 19) j_Tv_reserve 0 [am_r 5 0, am_i v, am_i x] [] M := rfl
  have hY : ∀ N, am_m am_P (d + 20) j_Md_reserve [am_r 6 504, am_i v, am_i x] N = am_at am_P (d + 19) j_Md_reserve 0 [am_r 6 504, am_i v, am_i x] [] N := fun _ => rfl
  unfold AG
  simp only [hX, hY, E_Tv_reserve_0, E_Md_reserve_0, Nat.reduceAdd, if_ot, if_to]
  rcases opn_both (d + 13) (d + 14) hG v with ⟨M', o1, o2, o3⟩ | ⟨M', A, o1, o2, o3, o4, o5, o6, o7, o8⟩
  · obtain ⟨N', e1, e2⟩ := o3 M' (o2 505 (by decide))
    rw [o1]
    simp only [bI_some, if_true]
    refine ⟨_, _, N', rfl, ?_, RF.gr hG (by omega) (fun k hk => o2 k (by omega)) e2⟩
    rw [e1]; simp only [bI_some, if_true]
  · obtain ⟨N', e1, e2⟩ := o8 M' (o2 505 (by decide))
    have hN5 : N' 505 = wc A (M' 4) := by rw [e2.1 505 (by omega)]; exact o4
    have hno := RF.gr (n' := n + 1) hG (by omega) (fun k hk => o2 k (by omega)) e2
    obtain ⟨w, hw⟩ : ∃ w : Nat, v = (w : Int) := ⟨v.toNat, by have := o6.1; omega⟩
    subst hw
    have hs := (o5.1.mv.2 w o6.1 o6.2.1).1
    rw [o1]
    simp only [bI_some, show ¬ ((1 : Int) = 0) by decide, if_false]
    by_cases h1 : ¬ x < 0
    · simp only [if_neg h1]
      by_cases h2 : ¬ (96 : Int) < x
      · simp only [if_neg h2]
        obtain ⟨q, hq, hq2⟩ := o3.q
        obtain ⟨b0, b1, b2, b3, b4⟩ := beg_opr o3 o5 o6 hq
        have hw12 : w < 12 := by have := o6.2.1; omega
        have hm : ∀ k : Nat, k ≠ 11 → am_set (csS q 1 M') 11 w x k = csS q 1 M' k := fun k hk => set_ne _ _ _ hk
        obtain ⟨M2, hM2⟩ : ∃ M2, M2 = am_set (csS q 1 M') 11 w x := ⟨_, rfl⟩
        have hm2 : ∀ k : Nat, k ≠ 11 → M2 k = csS q 1 M' k := fun k hk => by rw [hM2, hm k hk]
        have hm11 : M2 11 = am_up (csS q 1 M' 11) w x := by rw [hM2, set_eq]
        obtain ⟨j, hj⟩ : ∃ j : Int, j = 1796 + 9 * (w : Int) + 5 := ⟨_, rfl⟩
        obtain ⟨p1, p2, p3⟩ := b3.1.vol (M2 := M2) (A2 := am_up A j x) (fun k hk => hm2 k (by omega)) (fun y hy _ _ => up_ne _ _ (by omega)) (fun u hu h7 => by
          rw [hm2 7 (by decide)] at h7
          rw [up_ne _ _ (by omega)]
          exact (b3.1.rv u hu).2 h7)
        have hMV : MV M2 (am_up A j x) := by
          obtain ⟨⟨m1, m2, m3⟩, m4⟩ := b3.1.mv
          refine ⟨⟨by rw [up_ne _ _ (by omega), hm2 1 (by decide)]; exact m1, by rw [up_ne _ _ (by omega), hm2 1 (by decide)]; exact m2, by rw [hm2 1 (by decide)]; exact m3⟩, fun u u0 u12 => ?_⟩
          obtain ⟨k1, k5⟩ := m4 u u0 u12
          rw [hm2 7 (by decide), hm2 10 (by decide), up_ne _ _ (by omega)]
          refine ⟨k1, fun h7 => ?_⟩
          obtain ⟨v1, v2, v3, v4, v5, v6, v7, v8, v9, v10, v11⟩ := k5 h7
          have e11 : am_up A j x (1801 + 9 * u) = M2 11 u ∧ (0 ≤ M2 11 u ∧ M2 11 u ≤ 96) := by
            rw [hm11]
            by_cases e : u = w
            · rw [e, show 1801 + 9 * (w : Int) = j by omega, up_eq, up_eq]; exact ⟨rfl, by omega⟩
            · rw [up_ne _ _ (show 1801 + 9 * u ≠ j by omega), up_ne _ _ e]; exact ⟨v4, v10⟩
          unfold VD
          rw [hm2 7 (by decide), hm2 8 (by decide), hm2 9 (by decide), hm2 12 (by decide), hm2 13 (by decide), hm2 14 (by decide)]
          exact ⟨(up_ne _ _ (by omega)).trans v1, (up_ne _ _ (by omega)).trans v2, (up_ne _ _ (by omega)).trans v3, e11.1, (up_ne _ _ (by omega)).trans v5, (up_ne _ _ (by omega)).trans v6, (up_ne _ _ (by omega)).trans v7, v8, v9, e11.2, v11⟩
        have hJY : JY M2 (am_up A j x) (n + 1) := by
          refine ⟨p1, p2, p3, hMV, ?_, ?_⟩
          · have := b3.1.pr
            unfold PRt thS at this ⊢
            rw [hm2 1 (by decide), hm2 7 (by decide), hm2 13 (by decide), hm2 14 (by decide)]
            exact ⟨⟨this.1.1, by omega⟩, this.2⟩
          · have := b3.1.ci
            unfold CI at this ⊢
            rw [hm2 6 (by decide), hm2 7 (by decide), hm2 10 (by decide)]
            exact this
        have hus : ∀ u, usS M2 u = usS (csS q 1 M') u := fun u => by unfold usS thS; rw [hm2 6 (by decide), hm2 7 (by decide), hm2 10 (by decide)]
        have hop : ∀ N1 : am_M, N1 505 = wc A (M' 4) → N1 504 2 = 0 → ∃ N2, (∀ e : Nat, am_m am_P (e + 1) j_Md_let [am_r 6 504, am_i (w : Int), am_i 5, am_i x] N1 = some (none, N2)) ∧ DN A M2 N1 N2 1 (n + 1) := fun N1 h5 _ => by
          refine ⟨_, fun e => S_Md_let e (by omega) (by omega) x N1, Or.inr ⟨rfl, am_up A j x, ?_, fun y hy => up_ne _ _ (by omega), hJY⟩⟩
          unfold am_set
          rw [h5, wc_upN _ _ (by omega) (by omega), hm2 4 (by decide), b0 4 (by omega), hj]
        have hall := fun d e => hand_gen d e o3 o5 o4 hq (r := 1) (M2 := M2) (v := w) (fun k hk => hm2 k (by omega)) (fun y hy => by rw [hm2 4 (by decide), b0 4 (by omega)]) (by rw [hm2 1 (by decide), b0 1 (by omega)]) ⟨b1.1, b1.2.1, by rw [hm2 7 (by decide)]; exact b1.2.2⟩ (fun _ => ⟨_, hMV⟩) (Or.inr rfl) (fun _ u hu huw ht => by
          rw [hus, hm2 8 (by decide)]
          exact b3.2.1 u ⟨ht.1, ht.2.1, by rw [← hm2 7 (by decide)]; exact ht.2.2⟩) hop
        obtain ⟨-, bo, M3, s1, s2, s3, s4⟩ := hall (d + 11) (d + 12)
        rw [(hall (d + 16) 0).1]
        simp only [bV_some, if_t (show 0 ≤ (w : Int) ∧ (w : Int) < 12 by omega), w_eq]
        rw [← hM2]
        simp only [s1, bI_some, if_t s2]
        obtain ⟨N'', e1', e2'⟩ := o8 M3 (by rw [s3 505 (by omega), o2 505 (by decide)])
        have hN5' : N'' 505 = wc A (M' 4) := by rw [e2'.1 505 (by omega), s3 505 (by omega)]; exact o4
        obtain ⟨N1, N2, M6, n1, n2, n3, n4, n5, n6, n7⟩ := s4 N'' e2'
        refine ⟨_, _, M6, rfl, ?_, n6, fun k hk => by rw [n7 k hk, o2 k (by omega)]⟩
        rw [e1']
        simp only [bI_some, show ¬ ((1 : Int) = 0) by decide, if_false, S_Md_isIn, b2_t (show 0 ≤ x ∧ x ≤ 96 by omega), show ¬ ((1 : Int) = 0) by decide, if_false, n1, bV_some, n4, n5, if_t s2]
      · simp only [if_pos (Classical.not_not.mp h2)]
        refine ⟨_, _, N', rfl, ?_, hno⟩
        rw [e1]
        simp only [bI_some, show ¬ ((1 : Int) = 0) by decide, if_false, S_Md_isIn, b2_f (show ¬ (0 ≤ x ∧ x ≤ 96) by omega), if_true]
    · simp only [if_pos (Classical.not_not.mp h1)]
      refine ⟨_, _, N', rfl, ?_, hno⟩
      rw [e1]
      simp only [bI_some, show ¬ ((1 : Int) = 0) by decide, if_false, S_Md_isIn, b2_f (show ¬ (0 ≤ x ∧ x ≤ 96) by omega), if_true]
