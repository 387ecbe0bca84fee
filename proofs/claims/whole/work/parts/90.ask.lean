/-! TOLD: counted, children, hottest; STAGED one more; is -/
theorem A_cnt {M : am_M} {A c : Int → Int} (hR : M 505 = wc A (M 4)) (hP : SP M c) {b : Int} (hb : 0 ≤ b ∧ b < 96) : M 505 (5 + 2 * b) = M 4 b := by
  have := hP.2.1 b hb.1 hb.2
  rw [hR, wc_b _ _ hb, if_neg (by omega)]
theorem J_counted (d : Nat) {M : am_M} {n : Int} (hG : GR M n) (x : Int) : AG M (n + 1) (am_m am_P (d + 20) j_Tv_counted [am_r 5 0, am_i x] M) (am_m am_P (d + 20) j_Md_counted [am_r 6 504, am_i x]) := by
  have hX : am_m am_P (d + 20) j_Tv_counted [am_r 5 0, am_i x] M = am_at am_P (d + 19) j_Tv_counted 0 [am_r 5 0, am_i x, am_u, am_u] [] M := rfl
  have hY : am_m am_P (d + 20) j_Md_counted [am_r 6 504, am_i x] M = am_at am_P (d + 19) j_Md_counted 0 [am_r 6 504, am_i x, am_u, am_u] [] M := rfl
  obtain ⟨A, c, hR, hJ, hP⟩ := hG.sr
  by_cases h1 : x < 1
  · refine AG.same hG (a := am_i (-1)) ?_ ?_
    · rw [hX, E_Tv_counted_0, if_pos h1]
    · rw [hY, E_Md_counted_0, if_pos h1]
  · refine AG.same hG (a := am_i (sm (fun b => if M 4 b = x then 1 else 0) 96)) ?_ ?_
    · rw [hX, E_Tv_counted_0, if_neg h1, v_eq, v_eq]
      refine lp_sum (F := fun s i => am_at am_P (d + 19) j_Tv_counted 11 [am_r 5 0, am_i x, am_i s, am_i i] [] M) (f := fun b => if M 4 b = x then 1 else 0) (n := 96) ?_ ?_
      · try dsimp only
        rw [E_Tv_counted_11, if_neg (by omega)]
      · intro i hi
        try dsimp only
        have hb := sm_bd (f := fun b => if M 4 b = x then 1 else 0) (c := 1) i (fun k _ => by (try dsimp only); split <;> omega)
        rw [E_Tv_counted_11, if_pos (by omega), if_t (by omega)]
        simp only [Nat.reduceAdd]
        generalize sm (fun b => if M 4 b = x then 1 else 0) i = s at hb ⊢
        by_cases h : M 4 i = x
        · rw [if_pos h, if_pos h, v_eq, v_eq, wr_id (by omega) (by omega), wr_id (by omega) (by omega)]
        · rw [if_neg h, if_neg h, v_eq, wr_id (by omega) (by omega), Int.add_zero]
    · rw [hY, E_Md_counted_0, if_neg h1, v_eq, v_eq]
      refine lp_sum (F := fun s i => am_at am_P (d + 19) j_Md_counted 11 [am_r 6 504, am_i x, am_i s, am_i i] [] M) (f := fun b => if M 4 b = x then 1 else 0) (n := 96) ?_ ?_
      · try dsimp only
        rw [E_Md_counted_11, if_neg (by omega)]
      · intro i hi
        try dsimp only
        have hb := sm_bd (f := fun b => if M 4 b = x then 1 else 0) (c := 1) i (fun k _ => by (try dsimp only); split <;> omega)
        rw [E_Md_counted_11, if_pos (by omega), S_Md_blockCount (d + 18) (by omega), bI_some, A_cnt hR hP (by omega)]
        generalize sm (fun b => if M 4 b = x then 1 else 0) i = s at hb ⊢
        by_cases h : M 4 i = x
        · rw [if_pos h, if_pos h, v_eq, v_eq, wr_id (by omega) (by omega), wr_id (by omega) (by omega)]
        · rw [if_neg h, if_neg h, v_eq, v_eq, wr_id (by omega) (by omega), wr_id (by omega) (by omega)]
theorem J_children (d : Nat) {M : am_M} {n : Int} (hG : GR M n) (v : Int) : AG M (n + 1) (am_m am_P (d + 20) j_Tv_children [am_r 5 0, am_i v] M) (am_m am_P (d + 20) j_Md_children [am_r 6 504, am_i v]) := by
  have hX : am_m am_P (d + 20) j_Tv_children [am_r 5 0, am_i v] M = am_at am_P (d + 19) j_Tv_children 0 [am_r 5 0, am_i v, am_u, am_u] [] M := rfl
  have hY : am_m am_P (d + 20) j_Md_children [am_r 6 504, am_i v] M = am_at am_P (d + 19) j_Md_children 0 [am_r 6 504, am_i v, am_u, am_u] [] M := rfl
  obtain ⟨A, c, hR, hJ, hP⟩ := hG.sr
  obtain ⟨u1, u2, u3⟩ := hJ.un
  by_cases hv : thS M v
  · refine AG.same hG (a := am_i (itS (fun w s => if thS M w ∧ M 13 w = v then am_or s (am_shl 1 w) else s) 12 0 0)) ?_ ?_
    · rw [hX, E_Tv_children_0]
      simp only [Nat.reduceAdd]
      rw [S_St_isThere, bI_some, b2_t hv, if_neg (by decide), v_eq, v_eq]
      refine lp_it (σ := Int) (F := fun i s => am_at am_P (d + 19) j_Tv_children 17 [am_r 5 0, am_i v, am_i s, am_i i] [] M) (b := fun w s => if thS M w ∧ M 13 w = v then am_or s (am_shl 1 w) else s) (r := fun s => some (some (am_i s), M)) 12 0 0 (fun s => ?_) (fun i s h1 h2 => ?_)
      · try dsimp only
        rw [E_Tv_children_17, if_neg (by omega)]
      · try dsimp only
        rw [E_Tv_children_17, if_pos (by omega)]
        simp only [Nat.reduceAdd]
        rw [S_St_isThere, bI_some]
        by_cases hw : thS M i
        · rw [b2_t hw, if_neg (by decide), if_t (by omega)]
          by_cases h13 : M 13 i = v
          · rw [if_pos h13, if_pos ⟨hw, h13⟩, v_eq, v_eq, wr_id (by omega) (by omega)]
          · rw [if_neg h13, if_neg (fun q => h13 q.2), v_eq, wr_id (by omega) (by omega)]
        · rw [b2_f hw, if_pos rfl, if_neg (fun q => hw q.1), v_eq, wr_id (by omega) (by omega)]
    · rw [hY, E_Md_children_0, R_isVol (d + 17) u3 hR, bI_some, b2_t hv, if_neg (by decide), v_eq, v_eq]
      refine lp_it (σ := Int) (F := fun i s => am_at am_P (d + 19) j_Md_children 14 [am_r 6 504, am_i v, am_i s, am_i i] [] M) (b := fun w s => if thS M w ∧ M 13 w = v then am_or s (am_shl 1 w) else s) (r := fun s => some (some (am_i s), M)) 12 0 0 (fun s => ?_) (fun i s h1 h2 => ?_)
      · try dsimp only
        rw [E_Md_children_14, if_neg (by omega)]
      · try dsimp only
        rw [E_Md_children_14, if_pos (by omega), R_isVol (d + 17) u3 hR, bI_some]
        by_cases hw : thS M i
        · rw [b2_t hw, if_neg (by decide), R_got (d + 18) (by omega) (by omega) hR, bI_some, show 1796 + 9 * i + 7 = 1803 + 9 * i by omega, (u3.vd hw).2.2.2.2.2.1]
          by_cases h13 : M 13 i = v
          · rw [if_pos h13, if_pos ⟨hw, h13⟩, v_eq, v_eq, wr_id (by omega) (by omega)]
          · rw [if_neg h13, if_neg (fun q => h13 q.2), v_eq, wr_id (by omega) (by omega)]
        · rw [b2_f hw, if_pos rfl, if_neg (fun q => hw q.1), v_eq, wr_id (by omega) (by omega)]
  · refine AG.same hG (a := am_i (-1)) ?_ ?_
    · rw [hX, E_Tv_children_0]
      simp only [Nat.reduceAdd]
      rw [S_St_isThere, bI_some, b2_f hv, if_pos rfl]
    · rw [hY, E_Md_children_0, R_isVol (d + 17) u3 hR, bI_some, b2_f hv, if_pos rfl]
theorem J_hottest (d : Nat) {M : am_M} {n : Int} (hG : GR M n) : AG M (n + 1) (am_m am_P (d + 20) j_Tv_hottest [am_r 5 0] M) (am_m am_P (d + 20) j_Md_hottest [am_r 6 504]) := by
  have hX : am_m am_P (d + 20) j_Tv_hottest [am_r 5 0] M = am_at am_P (d + 19) j_Tv_hottest 0 [am_r 5 0] [] M := rfl
  have hY : am_m am_P (d + 20) j_Md_hottest [am_r 6 504] M = am_at am_P (d + 19) j_Md_hottest 0 [am_r 6 504, am_u, am_u] [] M := rfl
  obtain ⟨A, c, hR, hJ, hP⟩ := hG.sr
  refine AG.same hG (a := am_i (mcS M)) ?_ ?_
  · rw [hX, E_Tv_hottest_0]
    simp only [Nat.reduceAdd]
    rw [S_Po_mostCounted (d + 16), bI_some]
  · rw [hY, E_Md_hottest_0, v_eq, v_eq]
    refine (lp_itP (σ := Int) (F := fun i s => am_at am_P (d + 19) j_Md_hottest 4 [am_r 6 504, am_i s, am_i i] [] M) (b := fun b s => if cntS (M 4) s < M 4 b then b else s) (r := fun s => some (some (am_i s), M)) (fun _ s => s = -1 ∨ (0 ≤ s ∧ s < 96)) 96 0 (-1) (Or.inl rfl) (fun s _ => ?_) (fun i s h1 h2 hs => ?_)).1
    · try dsimp only
      rw [E_Md_hottest_4, if_neg (by omega)]
    · have hi : 0 ≤ i ∧ i < 96 := by omega
      have hpi := hP.2.1 i hi.1 hi.2
      refine ⟨?_, ?_⟩
      · try dsimp only
        rw [E_Md_hottest_4, if_pos (by omega), S_Md_isBlock, bI_some, A_cnt hR hP hi]
        by_cases h0 : M 4 i = 0
        · rw [b2_f (fun q => q.2.2 h0), if_pos rfl, v_eq, wr_id (by omega) (by omega), if_neg]
          rcases hs with rfl | hs
          · unfold cntS; rw [if_neg (by omega)]; omega
          · have := hP.2.1 s hs.1 hs.2
            unfold cntS; rw [if_pos (by omega)]; omega
        · rw [b2_t ⟨hi.1, hi.2, h0⟩, if_neg (by decide)]
          rcases hs with rfl | hs
          · rw [if_pos rfl, v_eq, v_eq, wr_id (by omega) (by omega), if_pos]
            unfold cntS; rw [if_neg (by omega)]; omega
          · have e : cntS (M 4) s = M 4 s := if_pos ⟨hs.1, by omega⟩
            rw [if_neg (by omega), S_Md_blockCount (d + 18) hi, bI_some, S_Md_blockCount (d + 18) hs, bI_some, A_cnt hR hP hi, A_cnt hR hP hs, e]
            by_cases hl : M 4 s < M 4 i
            · rw [if_pos hl, if_pos hl, v_eq, v_eq, wr_id (by omega) (by omega)]
            · rw [if_neg hl, if_neg hl, v_eq, wr_id (by omega) (by omega)]
      · (try dsimp only)
        split
        · exact Or.inr hi
        · exact hs
theorem GR.gx {M : am_M} {n : Int} (h : GR M n) : GX M n := by
  obtain ⟨⟨b1, b2, b3, b4, b5, b6, -⟩, b8⟩ := h
  exact ⟨b1, b2, b3, b4, b5, b6, b8⟩
theorem GX.at {M N : am_M} {n n' : Int} (hn : n ≤ n') (h : GX M n) (hM : ∀ k : Nat, k ≤ 494 → N k = M k) (h5 : N 505 = M 505) (h6 : N 506 = M 506) : GX N n' := by
  obtain ⟨g1, g2, g3, g4, g5, g6, g7⟩ := h
  refine ⟨?_, ?_, ?_, ?_, ?_, ?_, ?_⟩
  · unfold BQ; rw [hM 0 (by omega), hM 30 (by omega)]; exact g1
  · rw [h5]
    refine g2.at hn (by rw [hM 29 (by omega)]) (hM 30 (by omega)) (fun i i1 i2 k k1 k2 => ?_) (fun _ _ => rfl)
    have := isB_rng (g1.2.1 i i1 (by have := g2.1.2; omega)).1
    exact hM k (by omega)
  · rw [h6]
    exact g3.at hn (fun k k1 k2 => hM k (by omega)) (fun _ _ _ => rfl)
  · rw [h6]
    refine g4.at hn (by rw [hM 269 (by omega)]) (hM 270 (by omega)) (fun i i1 i2 k k1 k2 => ?_) (fun _ _ => rfl)
    have := g4.1
    have := g5 i i1 (by omega)
    exact hM k (by omega)
  · rw [hM 270 (by omega)]; exact g5
  · intro q hq x hx
    have hq2 : q + 3 ≤ 494 := by
      rcases hq with q1 | rfl | ⟨i, hi, rfl⟩
      · have := isB_rng q1; omega
      · omega
      · omega
    rw [hM _ (by omega)]
    exact g6 q hq x hx
  · rw [h5]
    exact g7.congr hn (EQ_of (fun k k1 k2 => hM k (by omega))) (fun x hx => by rw [hM 4 (by omega)]; exact g7.zo x hx) (fun _ _ _ => rfl)
theorem J_stage (d : Nat) {M : am_M} {n : Int} (hG : GR M n) (a x : Int) : AG M (n + 1) (am_m am_P (d + 20) j_Tv_stage [am_r 5 0, am_i a, am_i x] M) (am_m am_P (d + 20) j_Md_stage [am_r 6 504, am_i a, am_i x]) := by
  have hX : am_m am_P (d + 20) j_Tv_stage [am_r 5 0, am_i a, am_i x] M = am_at am_P (d + 19) j_Tv_stage 0 [am_r 5 0, am_i a, am_i x] [] M := rfl
  have hY : ∀ N, am_m am_P (d + 20) j_Md_stage [am_r 6 504, am_i a, am_i x] N = am_at am_P (d + 19) j_Md_stage 0 [am_r 6 504, am_i a, am_i x] [] N := fun _ => rfl
  obtain ⟨hs1, h1, h2, h3⟩ := hG.1.2.2.2.2.2.2
  by_cases hok : (0 ≤ a ∧ a ≤ 511) ∧ (-1 ≤ x ∧ x ≤ 999999) ∧ M 498 2 < 16
  · obtain ⟨ha, hx, hc⟩ := hok
    have hcls : am_m am_P (d + 20) j_Tv_stage [am_r 5 0, am_i a, am_i x] M = some (some (am_i (M 498 2 + 1)), adS 498 M a x) := by
      have e2 : adS 498 M a x 498 2 = M 498 2 + 1 := by unfold adS; rw [set_eq, up_eq, wr_id (by omega) (by omega)]
      rw [hX, E_Tv_stage_0, if_neg (by omega), if_pos (by omega)]
      simp only [Nat.reduceAdd]
      by_cases hm : x = -1
      · rw [if_pos hm, S_Ro_add7 (d + 18) 498 a x M h1.1, if_pos hc, bI_some, if_neg (by decide), e2]
      · rw [if_neg hm, S_Tv_isValue, bI_some, b2_t (by omega), if_neg (by decide), S_Ro_add7 (d + 18) 498 a x M h1.1, if_pos hc, bI_some, if_neg (by decide), e2]
    have m498 : adS 498 M a x 498 2 = M 498 2 + 1 := by unfold adS; rw [set_eq, up_eq, wr_id (by omega) (by omega)]
    have m499 : adS 498 M a x 499 = am_up (M 499) (M 498 2) a := by unfold adS; rw [set_ne _ _ _ (by decide), set_ne _ _ _ (by decide), set_eq]
    have m500 : adS 498 M a x 500 = am_up (M 500) (M 498 2) x := by unfold adS; rw [set_ne _ _ _ (by decide), set_eq, set_ne _ _ _ (by decide)]
    have mo : ∀ k : Nat, k ≠ 498 → k ≠ 499 → k ≠ 500 → adS 498 M a x k = M k := fun k k1 k2 k3 => by unfold adS; rw [set_ne _ _ _ k1, set_ne _ _ _ k3, set_ne _ _ _ k2]
    generalize adS 498 M a x = M1 at hcls m498 m499 m500 mo
    have h16 : M1 504 16 = M 498 2 := by rw [mo 504 (by decide) (by decide) (by decide)]; exact h2
    refine ⟨_, M1, am_set (am_set (am_set M1 515 (M 498 2) a) 516 (M 498 2) x) 504 16 (M 498 2 + 1), hcls, ?_, ?_, fun k hk => by rw [set_ne _ _ _ (by omega), set_ne _ _ _ (by omega), set_ne _ _ _ (by omega), mo k (by omega) (by omega) (by omega)]⟩
    · rw [hY, E_Md_stage_0, S_Md_isIn, bI_some, b2_t ha, if_neg (by decide), S_Md_isIn, bI_some, b2_t hx, if_neg (by decide), h16, if_neg (by omega), if_t (by omega), w_eq]
      simp only [Nat.reduceAdd]
      rw [set_ne _ _ _ (show (504 : Nat) ≠ 515 by decide), h16, if_t (by omega), w_eq, set_ne _ _ _ (show (504 : Nat) ≠ 516 by decide), set_ne _ _ _ (show (504 : Nat) ≠ 515 by decide), h16, wr_id (by omega) (by omega), w_eq, set_eq, up_eq]
    · have ho : ∀ k : Nat, k ≠ 504 → k ≠ 515 → k ≠ 516 → am_set (am_set (am_set M1 515 (M 498 2) a) 516 (M 498 2) x) 504 16 (M 498 2 + 1) k = M1 k := fun k k1 k2 k3 => by rw [set_ne _ _ _ k1, set_ne _ _ _ k3, set_ne _ _ _ k2]
      have f504 : ∀ j : Int, j ≠ 16 → am_set (am_set (am_set M1 515 (M 498 2) a) 516 (M 498 2) x) 504 16 (M 498 2 + 1) 504 j = M 504 j := fun j hj => by rw [set_eq, up_ne _ _ hj, set_ne _ _ _ (by decide), set_ne _ _ _ (by decide), mo 504 (by decide) (by decide) (by decide)]
      have f504' : am_set (am_set (am_set M1 515 (M 498 2) a) 516 (M 498 2) x) 504 16 (M 498 2 + 1) 504 16 = M 498 2 + 1 := by rw [set_eq, up_eq]
      have f515 : am_set (am_set (am_set M1 515 (M 498 2) a) 516 (M 498 2) x) 504 16 (M 498 2 + 1) 515 = am_up (M 515) (M 498 2) a := by rw [set_ne _ _ _ (by decide), set_ne _ _ _ (by decide), set_eq, mo 515 (by decide) (by decide) (by decide)]
      have f516 : am_set (am_set (am_set M1 515 (M 498 2) a) 516 (M 498 2) x) 504 16 (M 498 2 + 1) 516 = am_up (M 516) (M 498 2) x := by rw [set_ne _ _ _ (by decide), set_eq, set_ne _ _ _ (by decide), mo 516 (by decide) (by decide) (by decide)]
      generalize am_set (am_set (am_set M1 515 (M 498 2) a) 516 (M 498 2) x) 504 16 (M 498 2 + 1) = N at ho f504 f504' f515 f516
      have hNM : ∀ k : Nat, k ≠ 498 → k ≠ 499 → k ≠ 500 → k ≠ 504 → k ≠ 515 → k ≠ 516 → N k = M k := fun k a1 a2 a3 a4 a5 a6 => by rw [ho k a4 a5 a6, mo k a1 a2 a3]
      refine (hG.gx.at (show n ≤ n + 1 by omega) (fun k hk => hNM k (by omega) (by omega) (by omega) (by omega) (by omega) (by omega)) (hNM 505 (by decide) (by decide) (by decide) (by decide) (by decide) (by decide)) (hNM 506 (by decide) (by decide) (by decide) (by decide) (by decide) (by decide))).gr ⟨?_, ?_⟩
      · rw [hNM 495 (by decide) (by decide) (by decide) (by decide) (by decide) (by decide), hNM 496 (by decide) (by decide) (by decide) (by decide) (by decide) (by decide), hNM 497 (by decide) (by decide) (by decide) (by decide) (by decide) (by decide), hNM 513 (by decide) (by decide) (by decide) (by decide) (by decide) (by decide), hNM 514 (by decide) (by decide) (by decide) (by decide) (by decide) (by decide), f504 13 (by decide)]
        exact hs1
      · rw [ho 498 (by decide) (by decide) (by decide), ho 499 (by decide) (by decide) (by decide), ho 500 (by decide) (by decide) (by decide), m498, m499, m500, f504', f515, f516]
        refine ⟨by omega, rfl, fun i i1 i2 => ?_⟩
        by_cases e : i = M 498 2
        · rw [e, up_eq, up_eq, up_eq, up_eq]
          exact ⟨rfl, rfl, by omega, by omega⟩
        · rw [up_ne _ _ e, up_ne _ _ e, up_ne _ _ e, up_ne _ _ e]
          exact h3 i i1 (by omega)
  · refine AG.same hG (a := am_i (-1)) ?_ ?_
    · rw [hX, E_Tv_stage_0]
      simp only [Nat.reduceAdd]
      by_cases h0 : a < 0
      · rw [if_pos h0]
      · rw [if_neg h0]
        by_cases h5 : a < 512
        · rw [if_pos h5]
          by_cases hm : x = -1
          · rw [if_pos hm, S_Ro_add7 (d + 18) 498 a x M h1.1, if_neg (fun q => hok ⟨by omega, by omega, q⟩), bI_some, if_pos rfl]
          · rw [if_neg hm, S_Tv_isValue, bI_some]
            by_cases hv : 0 ≤ x ∧ x < 1000000
            · rw [b2_t hv, if_neg (by decide), S_Ro_add7 (d + 18) 498 a x M h1.1, if_neg (fun q => hok ⟨by omega, by omega, q⟩), bI_some, if_pos rfl]
            · rw [b2_f hv, if_pos rfl]
        · rw [if_neg h5]
    · rw [hY, E_Md_stage_0, S_Md_isIn, bI_some]
      by_cases ha : 0 ≤ a ∧ a ≤ 511
      · rw [b2_t ha, if_neg (by decide), S_Md_isIn, bI_some]
        by_cases hx : -1 ≤ x ∧ x ≤ 999999
        · rw [b2_t hx, if_neg (by decide), h2, if_pos (by have : ¬ M 498 2 < 16 := fun q => hok ⟨ha, hx, q⟩; omega)]
        · rw [b2_f hx, if_pos rfl]
      · rw [b2_f ha, if_pos rfl]
