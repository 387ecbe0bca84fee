/-! LIKE, HOLD, QUOTA -/
theorem wr_any (e : Nat) {M : am_M} {n : Int} (hG : GR M n) {N : am_M} (hN : N 505 = M 505) : ∃ (w : Int) (N' : am_M), am_m am_P (e + 4) j_Md_wrong [am_r 6 504] N = some (some (am_i w), N') ∧ RF N N' := by
  obtain ⟨A, c, hR, hJ, hP⟩ := hG.sr
  exact ⟨_, _, S_Md_wrong e hJ hP (hN.trans hR), RF.mem2 _ _⟩
theorem JX.meta {M M2 : am_M} {A A2 : Int → Int} {n : Int} (h : JX M A n) (hk : ∀ k : Nat, k ≠ 1 → k ≠ 8 → k ≠ 12 → M2 k = M k) (h10 : M2 1 10 = M 1 10) (hM : MV M2 A2) (hA : ∀ y : Int, y < 1796 → y ≠ 2 → y ≠ 3 → A2 y = A y) (hT : ∀ v : Nat, v < 12 → A2 (1796 + 9 * (v : Int) + 4) = A (1796 + 9 * (v : Int) + 4)) (hq : ∀ v, thS M v → usS M v ≤ M2 8 v) : JX M2 A2 (n + 1) := by
  have e7 := hk 7 (by decide) (by decide) (by decide)
  obtain ⟨p1, p2, p3⟩ := h.1.vol (M2 := M2) (A2 := A2) (fun k hk' => hk k (by omega) (by omega) (by omega)) hA (fun v hv h7 => by rw [hT v hv]; rw [e7] at h7; exact (h.1.rv v hv).2 h7)
  have hus : ∀ v, usS M2 v = usS M v := fun v => by unfold usS thS; rw [e7, hk 6 (by decide) (by decide) (by decide), hk 10 (by decide) (by decide) (by decide)]
  refine ⟨⟨p1, p2, p3, hM, ?_, ?_⟩, ?_, ?_⟩
  · have := h.1.pr
    unfold PRt thS at this ⊢
    rw [h10, e7, hk 13 (by decide) (by decide) (by decide), hk 14 (by decide) (by decide) (by decide)]
    exact ⟨⟨this.1.1, by omega⟩, this.2⟩
  · have := h.1.ci
    unfold CI at this ⊢
    rw [e7, hk 6 (by decide) (by decide) (by decide), hk 10 (by decide) (by decide) (by decide)]
    exact this
  · intro v hv
    rw [hus]
    exact hq v ⟨hv.1, hv.2.1, by rw [← e7]; exact hv.2.2⟩
  · have hf : ∀ v, hfS M2 v = hfS M v := fun v => by unfold hfS thS; rw [hus, e7, hk 11 (by decide) (by decide) (by decide)]
    rw [sm_congr 12 (fun v _ => hf v), hk 4 (by decide) (by decide) (by decide)]
    exact h.2.2
/-- what the relation is as a kept change begins -/
theorem kp_beg {M : am_M} {n : Int} (hG : GR M n) {A A1 : Int → Int} (hJ : JX M A n) {q : Nat} (hq : M 0 1 = (q : Int)) (hA : ∀ y : Int, 2 ≤ y → y < 1904 → A1 y = A y) : (∀ k : Nat, k ≤ 14 → csS q 1 M k = M k) ∧ JX (csS q 1 M) A1 n := by
  have hqr := isB_rng (show isB (q : Int) by rw [← hq]; exact hG.1.1.1)
  have e0 : ∀ k : Nat, k ≤ 14 → csS q 1 M k = M k := fun k hk => cs_off _ _ _ (by omega)
  exact ⟨e0, hJ.congr (Int.le_refl _) (EQ_of (fun k k1 k2 => e0 k (by omega))) (fun y hy => by rw [e0 4 (by omega)]; exact hJ.1.pi.zo y hy) hA⟩
/-- one told number of a volume changed: the volumes' relation -/
theorem MV.f8 {M M2 : am_M} {A : Int → Int} (h : MV M A) {v : Int} (hv : 0 ≤ v ∧ v < 12) {x : Int} (hx : 0 ≤ x ∧ x ≤ 512) (hk : ∀ k : Nat, k ≠ 8 → M2 k = M k) (h8 : M2 8 = am_up (M 8) v x) : MV M2 (am_up A (1796 + 9 * v + 2) x) := by
  obtain ⟨⟨m1, m2, m3⟩, m4⟩ := h
  refine ⟨⟨by rw [up_ne _ _ (by omega), hk 1 (by decide)]; exact m1, by rw [up_ne _ _ (by omega), hk 1 (by decide)]; exact m2, by rw [hk 1 (by decide)]; exact m3⟩, fun u u0 u12 => ?_⟩
  obtain ⟨k1, k5⟩ := m4 u u0 u12
  rw [hk 7 (by decide), hk 10 (by decide), up_ne _ _ (by omega)]
  refine ⟨k1, fun h7 => ?_⟩
  obtain ⟨v1, v2, v3, v4, v5, v6, v7, v8, v9, v10, v11⟩ := k5 h7
  have e8 : am_up A (1796 + 9 * v + 2) x (1798 + 9 * u) = M2 8 u ∧ (0 ≤ M2 8 u ∧ M2 8 u ≤ 512) := by
    rw [h8]
    by_cases e : u = v
    · rw [e, show 1798 + 9 * v = 1796 + 9 * v + 2 by omega, up_eq, up_eq]; exact ⟨rfl, hx⟩
    · rw [up_ne _ _ (show 1798 + 9 * u ≠ 1796 + 9 * v + 2 by omega), up_ne _ _ e]; exact ⟨v2, v8⟩
  unfold VD
  rw [hk 7 (by decide), hk 9 (by decide), hk 11 (by decide), hk 12 (by decide), hk 13 (by decide), hk 14 (by decide)]
  exact ⟨(up_ne _ _ (by omega)).trans v1, e8.1, (up_ne _ _ (by omega)).trans v3, (up_ne _ _ (by omega)).trans v4, (up_ne _ _ (by omega)).trans v5, (up_ne _ _ (by omega)).trans v6, (up_ne _ _ (by omega)).trans v7, e8.2, v9, v10, v11⟩
theorem MV.f12 {M M2 : am_M} {A : Int → Int} (h : MV M A) {v : Int} (hv : 0 ≤ v ∧ v < 12) {x : Int} (hx : 0 ≤ x ∧ x ≤ 9) (hk : ∀ k : Nat, k ≠ 12 → M2 k = M k) (h12 : M2 12 = am_up (M 12) v x) : MV M2 (am_up A (1796 + 9 * v + 6) x) := by
  obtain ⟨⟨m1, m2, m3⟩, m4⟩ := h
  refine ⟨⟨by rw [up_ne _ _ (by omega), hk 1 (by decide)]; exact m1, by rw [up_ne _ _ (by omega), hk 1 (by decide)]; exact m2, by rw [hk 1 (by decide)]; exact m3⟩, fun u u0 u12 => ?_⟩
  obtain ⟨k1, k5⟩ := m4 u u0 u12
  rw [hk 7 (by decide), hk 10 (by decide), up_ne _ _ (by omega)]
  refine ⟨k1, fun h7 => ?_⟩
  obtain ⟨v1, v2, v3, v4, v5, v6, v7, v8, v9, v10, v11⟩ := k5 h7
  have e12 : am_up A (1796 + 9 * v + 6) x (1802 + 9 * u) = M2 12 u ∧ (0 ≤ M2 12 u ∧ M2 12 u ≤ 9) := by
    rw [h12]
    by_cases e : u = v
    · rw [e, show 1802 + 9 * v = 1796 + 9 * v + 6 by omega, up_eq, up_eq]; exact ⟨rfl, hx⟩
    · rw [up_ne _ _ (show 1802 + 9 * u ≠ 1796 + 9 * v + 6 by omega), up_ne _ _ e]; exact ⟨v5, v11⟩
  unfold VD
  rw [hk 7 (by decide), hk 8 (by decide), hk 9 (by decide), hk 11 (by decide), hk 13 (by decide), hk 14 (by decide)]
  exact ⟨(up_ne _ _ (by omega)).trans v1, (up_ne _ _ (by omega)).trans v2, (up_ne _ _ (by omega)).trans v3, (up_ne _ _ (by omega)).trans v4, e12.1, (up_ne _ _ (by omega)).trans v6, (up_ne _ _ (by omega)).trans v7, v8, v9, v10, e12.2⟩
theorem J_like (d : Nat) {M : am_M} {n : Int} (hG : GR M n) (x : Int) : AG M (n + 1) (am_m am_P (d + 20) j_Tv_like [am_r 5 0, am_i x] M) (am_m am_P (d + 20) j_Md_like [am_r 6 504, am_i x]) := by
  have hX : am_m am_P (d + 20) j_Tv_like [am_r 5 0, am_i x] M = am_at am_P (d + 19) j_Tv_like 0 [am_r 5 0, am_i x] [] M := rfl
  have hY : ∀ N, am_m am_P (d + 20) j_Md_like [am_r 6 504, am_i x] N = am_at am_P (d + 19) j_Md_like 0 [am_r 6 504, am_i x] [] N := fun _ => rfl
  unfold AG
  simp only [hX, hY, E_Tv_like_0, E_Md_like_0, Nat.reduceAdd, if_ot, if_to]
  by_cases hx : 0 ≤ x ∧ x ≤ 1
  · rw [if_neg (show ¬ x < 0 by omega), if_neg (show ¬ (1 : Int) < x by omega)]
    rcases snd_both (d + 14) (d + 15) hG with ⟨M', o1, o2, o3⟩ | ⟨M', A, o1, o2, o3, o4, o5, o6⟩
    · obtain ⟨w, N', e1, e0, e2⟩ := o3 M' (o2 505 (by decide))
      rw [o1]
      simp only [bI_some, if_true]
      refine ⟨_, _, N', rfl, ?_, RF.gr hG (by omega) (fun k hk => o2 k (by omega)) e2⟩
      rw [e1]; simp only [bI_some, if_neg e0]
    · rw [o1]
      simp only [bI_some, show ¬ ((1 : Int) = 0) by decide, if_false]
      obtain ⟨q, hq, hq2⟩ := o3.q
      obtain ⟨b0, -⟩ := kp_beg o3 o5 hq (fun _ _ _ => rfl)
      have hm : ∀ k : Nat, k ≠ 1 → am_set (csS q 1 M') 1 9 x k = csS q 1 M' k := fun k hk => set_ne _ _ _ hk
      obtain ⟨k1, -, -, -, -⟩ := keep_fin (d + 16) o3 o4 hq (M2 := am_set (csS q 1 M') 1 9 x) (fun k hk _ => hm k (by omega))
      obtain ⟨-, k2, k3, k4, k5⟩ := keep_fin (d + 17) o3 o4 hq (M2 := am_set (csS q 1 M') 1 9 x) (fun k hk _ => hm k (by omega))
      rw [k1]
      simp only [bV_some, w_eq]
      rw [k2]
      simp only [bV_some]
      obtain ⟨N', e1, e2⟩ := o6 (ksS (am_set (csS q 1 M') 1 9 x)) (by rw [k4 505 (by omega) (by omega), o2 505 (by decide)])
      obtain ⟨N1, N2, A1, n1, n2, n3, n4, n5, n6, n7⟩ := k5 N' e2
      obtain ⟨-, hJ1⟩ := kp_beg o3 o5 hq n6
      have e11 : am_set (csS q 1 M') 1 9 x 1 = am_up (csS q 1 M' 1) 9 x := set_eq _ _ _ _
      have hJ2 : JX (am_set (csS q 1 M') 1 9 x) (am_up A1 2 x) (n + 1) := by
        refine hJ1.meta (fun k h1 _ _ => hm k h1) (by rw [e11, up_ne _ _ (by decide)]) ?_ (fun y hy h2 _ => up_ne _ _ h2) (fun v hv => up_ne _ _ (by omega)) (fun v hv => by rw [hm 8 (by decide)]; exact hJ1.2.1 v hv)
        obtain ⟨⟨m1, m2, m3⟩, m4⟩ := hJ1.1.mv
        refine ⟨⟨by rw [up_eq, e11, up_eq], by rw [up_ne _ _ (by decide), e11, up_ne _ _ (by decide)]; exact m2, by rw [e11, up_eq]; omega⟩, fun u u0 u12 => ?_⟩
        obtain ⟨a1, a5⟩ := m4 u u0 u12
        rw [hm 7 (by decide), hm 10 (by decide), up_ne _ _ (by omega)]
        refine ⟨a1, fun h7 => ?_⟩
        have := a5 h7
        unfold VD at this ⊢
        rw [hm 7 (by decide), hm 8 (by decide), hm 9 (by decide), hm 11 (by decide), hm 12 (by decide), hm 13 (by decide), hm 14 (by decide), up_ne _ _ (by omega), up_ne _ _ (by omega), up_ne _ _ (by omega), up_ne _ _ (by omega), up_ne _ _ (by omega), up_ne _ _ (by omega), up_ne _ _ (by omega)]
        exact this
      have hfin := n7 (am_set N2 505 2 x) (am_up A1 2 x) (by rw [set_eq, n5, wc_upN _ _ (by omega) (by omega), hm 4 (by decide), b0 4 (by omega)]) (fun y hy => up_ne _ _ (by omega)) (fun k hk => set_ne _ _ _ (by omega)) (by rw [set_ne _ _ _ (by decide)]) (by rw [set_ne _ _ _ (by decide)]) (SR.of hJ2 (by rw [e11, up_ne _ _ (by decide), b0 1 (by omega)]; exact o3.2.fl))
      refine ⟨_, _, am_set N2 505 2 x, rfl, ?_, hfin.1, fun k hk => by rw [hfin.2 k hk, o2 k (by omega)]⟩
      rw [e1]
      simp only [bI_some, if_true, S_Md_isIn, b2_t hx, show ¬ ((1 : Int) = 0) by decide, if_false, n1, bV_some, n2, w_eq, if_t (show 0 ≤ 2 ∧ 2 < 32336 by decide)]
  · have hX2 : (if x < 0 then some (some (am_i 0), M) else if (1 : Int) < x then some (some (am_i 0), M) else am_bI (am_m am_P (d + 19) j_Tv_isSound [am_r 5 0] M) fun x2 M1 => if x2 = 0 then some (some (am_i 0), M1) else am_bV (am_m am_P (d + 19) j_Tv_begin [am_r 5 0] M1) fun M3 => am_w (am_set M3 1 9 x) fun M4 => am_bV (am_m am_P (d + 19) j_Tv_keepStep [am_r 5 0] M4) fun M5 => some (some (am_i 1), M5)) = some (some (am_i 0), M) := by
      by_cases h1 : x < 0
      · rw [if_pos h1]
      · rw [if_neg h1, if_pos (by omega)]
    rw [hX2]
    obtain ⟨w, N', e1, e2⟩ := wr_any (d + 15) hG (N := M) rfl
    refine ⟨_, _, N', rfl, ?_, RF.gr hG (by omega) (fun k hk => rfl) e2⟩
    rw [e1]
    simp only [bI_some, S_Md_isIn, b2_f hx, if_true, ite_self]
