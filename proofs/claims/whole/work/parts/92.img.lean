/-! THE IMAGE, and back to it -/
def PCI (M : am_M) (dst src : Nat → Nat) (i : Nat) (N : am_M) : Prop := (∀ k : Nat, (∀ j : Nat, j < i → k < dst j ∨ dst j + 13 < k) → N k = M k) ∧ ∀ j : Nat, j < i → EQ (vw (src j) M) (vw (dst j) N) ∧ ∀ x : Int, ¬ TA x → N (dst j + 3) x = M (dst j + 3) x
theorem pc_loop (d : Nat) {r0 r1 : Nat} {M : am_M} {n : Nat} {dst src : Nat → Nat} (hn : M r1 1 = (n : Int)) (hn16 : n ≤ 16) (hd : ∀ j : Nat, j < n → M (r0 + 1) j = (dst j : Int)) (hs : ∀ j : Nat, j < n → M (r1 + 1) j = (src j : Int)) (hdd : ∀ i j : Nat, i < n → j < n → i ≠ j → dst i + 13 < dst j ∨ dst j + 13 < dst i) (hds : ∀ i j : Nat, i < n → j < n → dst i + 13 < src j ∨ src j + 13 < dst i) (hc : ∀ j : Nat, j < n → ∀ k : Nat, (k = r0 ∨ k = r0 + 1 ∨ k = r1 ∨ k = r1 + 1) → k < dst j ∨ dst j + 13 < k) (hf : ∀ j : Nat, j < n → M (src j) 11 = 0 ∨ M (src j) 11 = 1) :
    ∀ (k i : Nat) (N : am_M), i + k = n → PCI M dst src i N → ∃ N', am_at am_P (d + 2) j_Pa_copyFrom 2 [am_r 1 r0, am_r 1 r1, am_i (i : Int)] [] N = some (none, am_set N' r0 1 n) ∧ PCI M dst src n N'
  | 0, i, N, hk, h => by
    have : i = n := by omega
    subst this
    refine ⟨N, ?_, h⟩
    have e1 : N r1 = M r1 := h.1 r1 (fun j hj => hc j hj r1 (Or.inr (Or.inr (Or.inl rfl))))
    rw [E_Pa_copyFrom_2, e1, hn, if_neg (by omega), w_eq]
  | k + 1, i, N, hk, h => by
    have hi : i < n := by omega
    have e1 : N r1 = M r1 := h.1 r1 (fun j hj => hc j (by omega) r1 (Or.inr (Or.inr (Or.inl rfl))))
    have e2 : N (r0 + 1) = M (r0 + 1) := h.1 _ (fun j hj => hc j (by omega) _ (Or.inr (Or.inl rfl)))
    have e3 : N (r1 + 1) = M (r1 + 1) := h.1 _ (fun j hj => hc j (by omega) _ (Or.inr (Or.inr (Or.inr rfl))))
    have hsrc : ∀ m : Nat, src i ≤ m → m ≤ src i + 13 → N m = M m := fun m m1 m2 => h.1 m (fun j hj => by have := hds j i (by omega) hi; omega)
    have hdst : ∀ m : Nat, dst i ≤ m → m ≤ dst i + 13 → N m = M m := fun m m1 m2 => h.1 m (fun j hj => by have := hdd j i (by omega) hi (by omega); omega)
    have hdis := hds i i hi hi
    rw [E_Pa_copyFrom_2, e1, hn, if_pos (by omega), if_pos (by omega), if_t (by omega), if_t (by omega), e2, e3, hd i hi, hs i hi, Int.toNat_natCast, Int.toNat_natCast, S_St_copyFrom d N (by omega) (by rw [hsrc _ (by omega) (by omega)]; exact hf i hi), bV_some, v_eq, wr_id (by omega) (by omega), show (i : Int) + 1 = ((i + 1 : Nat) : Int) by omega]
    refine pc_loop d hn hn16 hd hs hdd hds hc hf k (i + 1) _ (by omega) ⟨fun m hm => ?_, fun j hj => ?_⟩
    · rw [cs_off _ _ _ (hm i (by omega))]
      exact h.1 m (fun j hj => hm j (by omega))
    · by_cases e : j = i
      · subst e
        refine ⟨?_, fun x hx => ?_⟩
        · have e4 := cs_EQ (r0 := dst j) (r1 := src j) (by omega) N
          refine EQ.trans (EQ_of (fun m m1 m2 => ?_)) e4
          show N (src j + m - 1) = M (src j + m - 1)
          exact hsrc _ (by omega) (by omega)
        · rw [cs_zo _ _ _ hx, hdst _ (by omega) (by omega)]
      · obtain ⟨g1, g2⟩ := h.2 j (by omega)
        have hdj := hdd j i (by omega) hi e
        refine ⟨g1.trans (EQ_of (fun m m1 m2 => ?_)), fun x hx => ?_⟩
        · show csS (dst i) (src i) N (dst j + m - 1) = N (dst j + m - 1)
          exact cs_off _ _ _ (by omega)
        · rw [cs_off _ _ _ (by omega)]
          exact g2 x hx
theorem S_Pa_copyFrom (d : Nat) {r0 r1 : Nat} {M : am_M} {n : Nat} {dst src : Nat → Nat} (hn : M r1 1 = (n : Int)) (hn16 : n ≤ 16) (hd : ∀ j : Nat, j < n → M (r0 + 1) j = (dst j : Int)) (hs : ∀ j : Nat, j < n → M (r1 + 1) j = (src j : Int)) (hdd : ∀ i j : Nat, i < n → j < n → i ≠ j → dst i + 13 < dst j ∨ dst j + 13 < dst i) (hds : ∀ i j : Nat, i < n → j < n → dst i + 13 < src j ∨ src j + 13 < dst i) (hc : ∀ j : Nat, j < n → ∀ k : Nat, (k = r0 ∨ k = r0 + 1 ∨ k = r1 ∨ k = r1 + 1) → k < dst j ∨ dst j + 13 < k) (hf : ∀ j : Nat, j < n → M (src j) 11 = 0 ∨ M (src j) 11 = 1) :
    ∃ N', am_m am_P (d + 3) j_Pa_copyFrom [am_r 1 r0, am_r 1 r1] M = some (none, am_set N' r0 1 n) ∧ PCI M dst src n N' := by
  have hX : am_m am_P (d + 3) j_Pa_copyFrom [am_r 1 r0, am_r 1 r1] M = am_at am_P (d + 2) j_Pa_copyFrom 0 [am_r 1 r0, am_r 1 r1, am_u] [] M := rfl
  obtain ⟨N', h1, h2⟩ := pc_loop d hn hn16 hd hs hdd hds hc hf n 0 M (by omega) ⟨fun _ _ => rfl, fun j hj => by omega⟩
  refine ⟨N', ?_, h2⟩
  rw [hX, E_Pa_copyFrom_0, v_eq]
  exact h1
theorem J_image (d : Nat) {M : am_M} {n : Int} (hG : GR M n) : AG M (n + 1) (am_m am_P (d + 20) j_Tv_image [am_r 5 0] M) (am_m am_P (d + 20) j_Md_image [am_r 6 504]) := by
  have hX : am_m am_P (d + 20) j_Tv_image [am_r 5 0] M = am_at am_P (d + 19) j_Tv_image 0 [am_r 5 0] [] M := rfl
  have hY : ∀ N, am_m am_P (d + 20) j_Md_image [am_r 6 504] N = am_at am_P (d + 19) j_Md_image 0 [am_r 6 504] [] N := fun _ => rfl
  obtain ⟨⟨b1, b2, b3, b4, b5, b6, b7⟩, b8⟩ := id hG
  obtain ⟨c1, c2, c3, c4⟩ := id b2
  obtain ⟨A, c, hR, hJ, hP⟩ := hG.sr
  obtain ⟨u1, u2, u3⟩ := hJ.un
  -- the state
  obtain ⟨M1, hM1⟩ : ∃ M1, M1 = csS 255 1 M := ⟨_, rfl⟩
  have m1o : ∀ k : Nat, k < 255 ∨ 268 < k → M1 k = M k := fun k hk => by rw [hM1]; exact cs_off _ _ _ (by omega)
  have m1E : EQ M (vw 255 M1) := by have := cs_EQ (r0 := 255) (r1 := 1) (by omega) M; rw [vw_1] at this; rw [hM1]; exact this
  have m1z : ∀ x, ¬ TA x → M1 (255 + 3) x = 0 := fun x hx => by rw [hM1, cs_zo _ _ _ hx]; exact b6 255 (Or.inr (Or.inl rfl)) x hx
  -- the steps
  obtain ⟨m, hm⟩ : ∃ m : Nat, M 29 1 = (m : Int) := ⟨(M 29 1).toNat, by omega⟩
  have hBi : ∀ j : Nat, j < m → isB (M 30 j) := fun j hj => (b1.2.1 j (by omega) (by omega)).1
  obtain ⟨M2', p1, p2⟩ := S_Pa_copyFrom (d + 16) (r0 := 269) (r1 := 29) (M := M1) (n := m) (dst := fun j => 271 + 14 * j) (src := fun j => (M 30 j).toNat) (by rw [m1o 29 (by omega)]; exact hm) (by omega) (fun j hj => by rw [m1o 270 (by omega), b5 j (by omega) (by omega)]; omega) (fun j hj => by rw [m1o 30 (by omega)]; have := isB_rng (hBi j hj); omega) (fun i j _ _ hij => by (try dsimp only); omega) (fun i j hi hj => by have := isB_rng (hBi j hj); (try dsimp only); omega) (fun j hj k hk => by (try dsimp only); omega) (fun j hj => by
    have hr := isB_rng (hBi j hj)
    rw [m1o _ (by omega)]
    exact (c4 j (by omega) (by omega)).fl)
  obtain ⟨M2, hM2⟩ : ∃ M2, M2 = am_set M2' 269 1 m := ⟨_, rfl⟩
  have m2lo : ∀ k : Nat, k < 269 ∨ k = 270 ∨ 494 < k → M2 k = M1 k := fun k hk => by
    rw [hM2, set_ne _ _ _ (by omega)]
    exact p2.1 k (fun j hj => by (try dsimp only); omega)
  have m2c : M2 269 1 = m := by rw [hM2, set_eq, up_eq]
  have m2b : ∀ j : Nat, j < m → EQ (vw (M 30 j).toNat M) (vw (271 + 14 * j) M2) := fun j hj => by
    have hr := isB_rng (hBi j hj)
    refine EQ.trans (EQ_of (fun k k1 k2 => ?_)) ((p2.2 j hj).1.trans (EQ_of (fun k k1 k2 => ?_)))
    · show M1 ((M 30 j).toNat + k - 1) = M ((M 30 j).toNat + k - 1)
      exact m1o _ (by omega)
    · show M2 (271 + 14 * j + k - 1) = M2' (271 + 14 * j + k - 1)
      rw [hM2, set_ne _ _ _ (by omega)]
  have m2z : ∀ j : Nat, j < 16 → ∀ x, ¬ TA x → M2 (271 + 14 * j + 3) x = 0 := fun j hj x hx => by
    rw [hM2, set_ne _ _ _ (by omega)]
    by_cases e : j < m
    · have e9 := (p2.2 j e).2 x hx
      (try dsimp only at e9)
      rw [e9, m1o _ (by omega)]; exact b6 _ (Or.inr (Or.inr ⟨j, hj, rfl⟩)) x hx
    · rw [p2.1 _ (fun i hi => by (try dsimp only); omega), m1o _ (by omega)]; exact b6 _ (Or.inr (Or.inr ⟨j, hj, rfl⟩)) x hx
  have m2o : ∀ k : Nat, k < 255 ∨ k = 270 ∨ 494 < k → M2 k = M k := fun k hk => by rw [m2lo k (by omega), m1o k (by omega)]
  have hcls : am_m am_P (d + 20) j_Tv_image [am_r 5 0] M = some (some (am_i (nz (M 7) 12)), M2) := by
    rw [hX, E_Tv_image_0]
    simp only [Nat.reduceAdd]
    rw [S_St_copyFrom (d + 17) M (by omega) b8.fl, bV_some, ← hM1, p1, bV_some, ← hM2, S_St_volumes (d + 18), bI_some, m2o 7 (by omega)]
  have h5 : M2 505 = M 505 := m2o 505 (by omega)
  obtain ⟨N, hN⟩ : ∃ N, N = am_st M2 506 (cpF (M2 506) (M2 505) 0 0 32336) := ⟨_, rfl⟩
  have no : ∀ k : Nat, k ≠ 506 → N k = M2 k := fun k hk => by rw [hN, st_ne _ _ hk]
  have n6 : ∀ y : Int, 0 ≤ y → y < 32336 → N 506 y = M 505 y := fun y y1 y2 => by rw [hN, st_eq, cpF_in (by omega), h5]; congr 1; omega
  refine ⟨_, M2, N, hcls, ?_, ?_, fun k hk => by rw [no k (by omega), m2o k (by omega)]⟩
  · rw [hY, E_Md_image_0]
    simp only [Nat.reduceAdd]
    rw [S_Md_copy (d + 18) (by decide), bV_some, ← hN, A_volumes (d + 16) u3 (show N 505 = wc A (M 4) by rw [no 505 (by decide), h5]; exact hR), bI_some]
  · refine ⟨⟨?_, ?_, ?_, ?_, ?_, ?_, ?_⟩, ?_⟩
    · unfold BQ; rw [no 0 (by decide), no 30 (by decide), m2o 0 (by omega), m2o 30 (by omega)]; exact b1
    · rw [no 505 (by decide), h5]
      refine b2.at (by omega) (by rw [no 29 (by decide), m2o 29 (by omega)]) (by rw [no 30 (by decide), m2o 30 (by omega)]) (fun i i1 i2 k k1 k2 => ?_) (fun _ _ => rfl)
      have := isB_rng (b1.2.1 i i1 (by omega)).1
      rw [no k (by omega), m2o k (by omega)]
    · refine b8.congr (by omega) (m1E.trans (EQ_of (fun k k1 k2 => ?_))) (fun x hx => ?_) (fun y y1 y2 => n6 y (by omega) (by omega))
      · show N (255 + k - 1) = M1 (255 + k - 1)
        rw [no _ (by omega), m2lo _ (by omega)]
      · show N (255 + 3) x = 0
        rw [no _ (by omega), m2lo _ (by omega)]
        exact m1z x hx
    · unfold PS
      rw [no 269 (by decide), m2c, no 270 (by decide), m2o 270 (by omega), n6 0 (by omega) (by omega), n6 1 (by omega) (by omega)]
      refine ⟨by omega, by omega, c3, fun i i1 i2 => ?_⟩
      obtain ⟨j, hj⟩ : ∃ j : Nat, i = (j : Int) := ⟨i.toNat, by omega⟩
      subst hj
      rw [b5 j (by omega) (by omega), show ((271 : Int) + 14 * j).toNat = 271 + 14 * j by omega]
      refine (c4 j (by omega) (by omega)).congr (by omega) ((m2b j (by omega)).trans (EQ_of (fun k k1 k2 => ?_))) (fun x hx => ?_) (fun y y1 y2 => ?_)
      · show N (271 + 14 * j + k - 1) = M2 (271 + 14 * j + k - 1)
        exact no _ (by omega)
      · show N (271 + 14 * j + 3) x = 0
        rw [no _ (by omega)]
        exact m2z j (by omega) x hx
      · unfold stR
        exact n6 _ (by omega) (by omega)
    · rw [no 270 (by decide), m2o 270 (by omega)]; exact b5
    · intro q hq x hx
      rcases hq with q1 | rfl | ⟨i, hi, rfl⟩
      · have := isB_rng q1
        rw [no _ (by omega), m2o _ (by omega)]
        exact b6 q (Or.inl q1) x hx
      · rw [no _ (by omega), m2lo _ (by omega)]; exact m1z x hx
      · rw [no _ (by omega)]; exact m2z i hi x hx
    · exact b7.at (fun k k1 k2 => by rw [no k (by omega), m2o k (by omega)]) (by rw [no 504 (by decide), m2o 504 (by omega)]) (by rw [no 504 (by decide), m2o 504 (by omega)]) (fun k k1 k2 => by rw [no k (by omega), m2o k (by omega)])
    · rw [no 505 (by decide), h5]
      exact b8.congr (by omega) (EQ_of (fun k k1 k2 => by rw [no k (by omega), m2o k (by omega)])) (fun x hx => by rw [no 4 (by decide), m2o 4 (by omega)]; exact b8.zo x hx) (fun _ _ _ => rfl)
theorem J_back (d : Nat) {M : am_M} {n : Int} (hG : GR M n) : AG M (n + 1) (am_m am_P (d + 20) j_Tv_back [am_r 5 0] M) (am_m am_P (d + 20) j_Md_back [am_r 6 504]) := by
  have hX : am_m am_P (d + 20) j_Tv_back [am_r 5 0] M = am_at am_P (d + 19) j_Tv_back 0 [am_r 5 0] [] M := rfl
  have hY : ∀ N, am_m am_P (d + 20) j_Md_back [am_r 6 504] N = am_at am_P (d + 19) j_Md_back 0 [am_r 6 504] [] N := fun _ => rfl
  obtain ⟨⟨b1, b2, b3, b4, b5, b6, b7⟩, b8⟩ := id hG
  obtain ⟨c1, c2, c3, c4⟩ := id b4
  -- the state
  obtain ⟨M1, hM1⟩ : ∃ M1, M1 = csS 1 255 M := ⟨_, rfl⟩
  have m1o : ∀ k : Nat, k < 1 ∨ 14 < k → M1 k = M k := fun k hk => by rw [hM1]; exact cs_off _ _ _ (by omega)
  have m1E : EQ (vw 255 M) M1 := by have := cs_EQ (r0 := 1) (r1 := 255) (by omega) M; rw [vw_1] at this; rw [hM1]; exact this
  have m1z : ∀ x, ¬ TA x → M1 4 x = 0 := fun x hx => by
    have := cs_zo 1 255 M hx
    rw [hM1, show csS 1 255 M 4 x = M 4 x from this]
    exact b8.zo x hx
  obtain ⟨m, hm⟩ : ∃ m : Nat, M 269 1 = (m : Int) := ⟨(M 269 1).toNat, by omega⟩
  have hBi : ∀ j : Nat, j < 16 → isB (M 30 j) := fun j hj => (b1.2.1 j (by omega) (by omega)).1
  obtain ⟨M2', p1, p2⟩ := S_Pa_copyFrom (d + 16) (r0 := 29) (r1 := 269) (M := M1) (n := m) (dst := fun j => (M 30 j).toNat) (src := fun j => 271 + 14 * j) (by rw [m1o 269 (by omega)]; exact hm) (by omega) (fun j hj => by rw [m1o 30 (by omega)]; have := isB_rng (hBi j (by omega)); omega) (fun j hj => by rw [m1o 270 (by omega), b5 j (by omega) (by omega)]; omega) (fun i j hi hj hij => by
      have h1 := isB_rng (hBi i (by omega))
      have h2 := isB_rng (hBi j (by omega))
      have hne : M 30 i ≠ M 30 j := by
        rcases (show i < j ∨ j < i by omega) with h | h
        · exact b1.2.2 i j (by omega) (by omega) (by omega)
        · exact fun e => b1.2.2 j i (by omega) (by omega) (by omega) e.symm
      have := isB_far (hBi i (by omega)) (hBi j (by omega)) hne
      (try dsimp only)
      omega) (fun i j hi hj => by have := isB_rng (hBi i (by omega)); (try dsimp only); omega) (fun j hj k hk => by have := isB_rng (hBi j (by omega)); (try dsimp only); omega) (fun j hj => by
    (try dsimp only)
    rw [m1o _ (by omega)]
    have := (c4 j (by omega) (by omega)).fl
    rw [b5 j (by omega) (by omega), show ((271 : Int) + 14 * j).toNat = 271 + 14 * j by omega] at this
    exact this)
  obtain ⟨M2, hM2⟩ : ∃ M2, M2 = am_set M2' 29 1 m := ⟨_, rfl⟩
  have m2lo : ∀ k : Nat, k < 15 ∨ k = 30 ∨ 254 < k → M2 k = M1 k := fun k hk => by
    rw [hM2, set_ne _ _ _ (by omega)]
    exact p2.1 k (fun j hj => by have := isB_rng (hBi j (by omega)); (try dsimp only); omega)
  have m2c : M2 29 1 = m := by rw [hM2, set_eq, up_eq]
  have m2b : ∀ j : Nat, j < m → EQ (vw (271 + 14 * j) M) (vw (M 30 j).toNat M2) := fun j hj => by
    have hr := isB_rng (hBi j (by omega))
    refine EQ.trans (EQ_of (fun k k1 k2 => ?_)) ((p2.2 j hj).1.trans (EQ_of (fun k k1 k2 => ?_)))
    · show M1 (271 + 14 * j + k - 1) = M (271 + 14 * j + k - 1)
      exact m1o _ (by omega)
    · show M2 ((M 30 j).toNat + k - 1) = M2' ((M 30 j).toNat + k - 1)
      rw [hM2, set_ne _ _ _ (by omega)]
  have m2z : ∀ q : Nat, isB (q : Int) → ∀ x, ¬ TA x → M2 (q + 3) x = 0 := fun q hq x hx => by
    have hr := isB_rng hq
    rw [hM2, set_ne _ _ _ (by omega)]
    by_cases e : ∃ j : Nat, j < m ∧ (M 30 j).toNat = q
    · obtain ⟨j, hj, rfl⟩ := e
      have e9 := (p2.2 j hj).2 x hx
      (try dsimp only at e9)
      rw [e9, m1o _ (by omega)]; exact b6 _ (Or.inl hq) x hx
    · rw [p2.1 _ (fun i hi => by
        have h1 := isB_rng (hBi i (by omega))
        have := isB_far (hBi i (by omega)) hq (fun e' => e ⟨i, hi, by omega⟩)
        (try dsimp only)
        omega), m1o _ (by omega)]
      exact b6 _ (Or.inl hq) x hx
  have m2o : ∀ k : Nat, k < 1 ∨ k = 30 ∨ 254 < k → M2 k = M k := fun k hk => by rw [m2lo k (by omega), m1o k (by omega)]
  -- the row
  have h6 : M2 506 = M 506 := m2o 506 (by omega)
  obtain ⟨N, hN⟩ : ∃ N, N = am_st M2 505 (cpF (M2 505) (M2 506) 0 0 32336) := ⟨_, rfl⟩
  have no : ∀ k : Nat, k ≠ 505 → N k = M2 k := fun k hk => by rw [hN, st_ne _ _ hk]
  have n5 : ∀ y : Int, 0 ≤ y → y < 32336 → N 505 y = M 506 y := fun y y1 y2 => by rw [hN, st_eq, cpF_in (by omega), h6]; congr 1; omega
  have hmain : SS N (N 505) (n + 1) := b3.congr (by omega) (m1E.trans (EQ_of (fun k k1 k2 => by rw [no k (by omega), m2lo k (by omega)]))) (fun x hx => by rw [no 4 (by decide), m2lo 4 (by omega)]; exact m1z x hx) (fun y y1 y2 => n5 y (by omega) (by omega))
  have hGN : GR N (n + 1) := by
    refine ⟨⟨?_, ?_, ?_, ?_, ?_, ?_, ?_⟩, hmain⟩
    · unfold BQ; rw [no 0 (by decide), no 30 (by decide), m2o 0 (by omega), m2o 30 (by omega)]; exact b1
    · unfold PS
      rw [no 29 (by decide), m2c, no 30 (by decide), m2o 30 (by omega), n5 0 (by omega) (by omega), n5 1 (by omega) (by omega)]
      refine ⟨by omega, by omega, c3, fun i i1 i2 => ?_⟩
      obtain ⟨j, hj⟩ : ∃ j : Nat, i = (j : Int) := ⟨i.toNat, by omega⟩
      subst hj
      have hr := isB_rng (hBi j (by omega))
      have hS := c4 j (by omega) (by omega)
      rw [b5 j (by omega) (by omega), show ((271 : Int) + 14 * j).toNat = 271 + 14 * j by omega] at hS
      refine hS.congr (by omega) ((m2b j (by omega)).trans (EQ_of (fun k k1 k2 => ?_))) (fun x hx => ?_) (fun y y1 y2 => ?_)
      · show N ((M 30 j).toNat + k - 1) = M2 ((M 30 j).toNat + k - 1)
        exact no _ (by omega)
      · show N ((M 30 j).toNat + 3) x = 0
        rw [no _ (by omega)]
        exact m2z _ (by rw [Int.toNat_of_nonneg (by omega)]; exact hBi j (by omega)) x hx
      · unfold stR
        exact n5 _ (by omega) (by omega)
    · rw [no 506 (by decide), h6]
      exact b3.at (by omega) (fun k k1 k2 => by rw [no k (by omega), m2o k (by omega)]) (fun _ _ _ => rfl)
    · rw [no 506 (by decide), h6]
      refine b4.at (by omega) (by rw [no 269 (by decide), m2o 269 (by omega)]) (by rw [no 270 (by decide), m2o 270 (by omega)]) (fun i i1 i2 k k1 k2 => ?_) (fun _ _ => rfl)
      have := b5 i i1 (by omega)
      rw [no k (by omega), m2o k (by omega)]
    · rw [no 270 (by decide), m2o 270 (by omega)]; exact b5
    · intro q hq x hx
      rcases hq with q1 | rfl | ⟨i, hi, rfl⟩
      · have := isB_rng q1
        rw [no _ (by omega)]
        exact m2z q q1 x hx
      · rw [no _ (by omega), m2o _ (by omega)]; exact b6 255 (Or.inr (Or.inl rfl)) x hx
      · rw [no _ (by omega), m2o _ (by omega)]; exact b6 _ (Or.inr (Or.inr ⟨i, hi, rfl⟩)) x hx
    · exact b7.at (fun k k1 k2 => by rw [no k (by omega), m2o k (by omega)]) (by rw [no 504 (by decide), m2o 504 (by omega)]) (by rw [no 504 (by decide), m2o 504 (by omega)]) (fun k k1 k2 => by rw [no k (by omega), m2o k (by omega)])
  obtain ⟨A, c, hR, hJ, hP⟩ := hGN.sr
  obtain ⟨u1, u2, u3⟩ := hJ.un
  refine ⟨am_i (nz (M2 7) 12), M2, N, ?_, ?_, hGN, fun k hk => by rw [no k (by omega), m2o k (by omega)]⟩
  · rw [hX, E_Tv_back_0]
    simp only [Nat.reduceAdd]
    rw [S_St_copyFrom (d + 17) M (by omega) b3.fl, bV_some, ← hM1, p1, bV_some, ← hM2, S_St_volumes (d + 18), bI_some]
  · rw [hY, E_Md_back_0]
    simp only [Nat.reduceAdd]
    rw [S_Md_copy (d + 18) (by decide), bV_some, ← hN, A_volumes (d + 16) u3 hR, bI_some, no 7 (by decide)]
