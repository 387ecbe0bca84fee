/-! TOLD: is -/
theorem A_volumes (d : Nat) {M : am_M} {A c' : Int → Int} (hM : MV M A) {N : am_M} (hN : N 505 = wc A c') : am_m am_P (d + 3) j_Md_volumes [am_r 6 504] N = some (some (am_i (nz (M 7) 12)), N) := by
  show am_at am_P (d + 2) j_Md_volumes 0 [am_r 6 504, am_u, am_u] [] N = _
  rw [E_Md_volumes_0, v_eq, v_eq]
  unfold nz
  refine lp_sum (F := fun s i => am_at am_P (d + 2) j_Md_volumes 4 [am_r 6 504, am_i s, am_i i] [] N) (f := fun b => if 0 < M 7 b then 1 else 0) (n := 12) ?_ ?_
  · try dsimp only
    rw [E_Md_volumes_4, if_neg (by omega)]
  · intro i hi
    try dsimp only
    have hb := sm_bd (f := fun b => if 0 < M 7 b then 1 else 0) (c := 1) i (fun k _ => by (try dsimp only); split <;> omega)
    rw [E_Md_volumes_4, if_pos (by omega), R_isVol d hM hN, bI_some]
    generalize sm (fun b => if 0 < M 7 b then 1 else 0) i = s at hb ⊢
    by_cases h : 0 < M 7 i
    · rw [b2_t ⟨by omega, by omega, h⟩, if_neg (by decide), if_pos h, v_eq, v_eq, wr_id (by omega) (by omega), wr_id (by omega) (by omega)]
    · rw [b2_f (fun q => h q.2.2), if_pos rfl, if_neg h, v_eq, v_eq, wr_id (by omega) (by omega), wr_id (by omega) (by omega)]
theorem A_mapped (d : Nat) {M : am_M} {A c : Int → Int} {n : Int} (hR : M 505 = wc A (M 4)) (hJ : JX (am_st M 4 c) A n) : am_m am_P (d + 5) j_Md_mapped [am_r 6 504] M = some (some (am_i (sm (usS M) 12)), M) := by
  show am_at am_P (d + 4) j_Md_mapped 0 [am_r 6 504, am_u, am_u] [] M = _
  obtain ⟨u1, u2, u3⟩ := hJ.un
  rw [E_Md_mapped_0, v_eq, v_eq]
  refine lp_sum (F := fun s i => am_at am_P (d + 4) j_Md_mapped 4 [am_r 6 504, am_i s, am_i i] [] M) (f := usS M) (n := 12) ?_ ?_
  · try dsimp only
    rw [E_Md_mapped_4, if_neg (by omega)]
  · intro i hi
    try dsimp only
    have hb := sm_bd (f := usS M) (c := 512) i (fun k _ => usS_bd M k)
    have hq := usS_bd M i
    rw [E_Md_mapped_4, if_pos (by omega), R_isVol (d + 2) u3 hR, bI_some]
    by_cases h : thS M i
    · rw [b2_t h, if_neg (by decide), A_used d hR hJ h, bI_some, v_eq, v_eq, wr_id (by omega) (by omega), wr_id (by omega) (by omega)]
    · have e : usS M i = 0 := if_neg h
      rw [b2_f h, if_pos rfl, v_eq, v_eq, e, wr_id (by omega) (by omega), wr_id (by omega) (by omega)]
theorem A_counts (d : Nat) {M : am_M} {A c : Int → Int} (hR : M 505 = wc A (M 4)) (hP : SP M c) (m : Int) : am_m am_P (d + 2) j_Md_counts [am_r 6 504, am_i m] M = some (some (am_i (if m = 0 then sm (M 4) 96 else cntS (M 4) (mcS M))), M) := by
  show am_at am_P (d + 1) j_Md_counts 0 [am_r 6 504, am_i m, am_u, am_u, am_u] [] M = _
  rw [E_Md_counts_0, v_eq, v_eq, v_eq]
  have key := lp_itP (σ := Int × Int) (F := fun i s => am_at am_P (d + 1) j_Md_counts 7 [am_r 6 504, am_i m, am_i s.1, am_i (cntS (M 4) s.2), am_i i] [] M) (b := fun b s => (s.1 + M 4 b, if cntS (M 4) s.2 < M 4 b then b else s.2)) (r := fun s => some (some (am_i (if m = 0 then s.1 else cntS (M 4) s.2)), M)) (fun i s => ∃ j : Nat, i = (j : Int) ∧ s.1 = sm (M 4) j ∧ (s.2 = -1 ∨ (0 ≤ s.2 ∧ s.2 < 96))) 96 0 (0, -1) ⟨0, rfl, rfl, Or.inl rfl⟩ (fun s _ => by
    try dsimp only
    rw [E_Md_counts_7, if_neg (by omega)]
    by_cases h : m = 0
    · rw [if_pos h, if_pos h]
    · rw [if_neg h, if_neg h]) (fun i s h1 h2 hs => by
    obtain ⟨j, rfl, hs1, hs2⟩ := hs
    have hi : 0 ≤ (j : Int) ∧ (j : Int) < 96 := by omega
    have hb := sm_bd (f := M 4) (c := 2292) j (fun k hk => ⟨(hP.2.1 k (by omega) (by omega)).1, (hP.2.1 k (by omega) (by omega)).2.1⟩)
    have hpi := hP.2.1 j hi.1 hi.2
    refine ⟨?_, j + 1, by omega, by (try dsimp only); rw [hs1]; rfl, ?_⟩
    · try dsimp only
      rw [E_Md_counts_7, if_pos (by omega), S_Md_blockCount d hi, bI_some, A_cnt hR hP hi, v_eq, S_Md_blockCount d hi, bI_some, A_cnt hR hP hi, wr_id (z := s.1 + M 4 j) (by omega) (by omega)]
      by_cases hl : cntS (M 4) s.2 < M 4 j
      · have e : cntS (M 4) (j : Int) = M 4 j := if_pos ⟨hi.1, by omega⟩
        rw [if_pos hl, if_pos hl, S_Md_blockCount d hi, bI_some, A_cnt hR hP hi, v_eq, v_eq, wr_id (by omega) (by omega), e]
      · rw [if_neg hl, if_neg hl, v_eq, v_eq, wr_id (by omega) (by omega)]
    · (try dsimp only)
      split
      · exact Or.inr hi
      · exact hs2)
  have e0 : cntS (M 4) (-1) = 0 := if_neg (by omega)
  have k1 := key.1
  (try dsimp only at k1)
  rw [e0] at k1
  rw [k1]
  have hpair : ∀ (k : Nat) (a : Int) (s : Int × Int), itS (fun b (s : Int × Int) => (s.1 + M 4 b, if cntS (M 4) s.2 < M 4 b then b else s.2)) k a s = (itS (fun b t => t + M 4 b) k a s.1, itS (fun b t => if cntS (M 4) t < M 4 b then b else t) k a s.2) := by
    intro k
    induction k with
    | zero => intro a s; rfl
    | succ k ih => intro a s; exact ih (a + 1) _
  obtain ⟨j, hj, k2, -⟩ := key.2
  have : j = 96 := by omega
  subst this
  rw [hpair] at k2 ⊢
  (try dsimp only at k2 ⊢)
  rw [k2]
  rfl
theorem J_is (d : Nat) {M : am_M} {n : Int} (hG : GR M n) (x : Int) : AG M (n + 1) (am_m am_P (d + 20) j_Tv_is [am_r 5 0, am_i x] M) (am_m am_P (d + 20) j_Md_is [am_r 6 504, am_i x]) := by
  have hX : am_m am_P (d + 20) j_Tv_is [am_r 5 0, am_i x] M = am_at am_P (d + 19) j_Tv_is 0 [am_r 5 0, am_i x] [] M := rfl
  have hY : am_m am_P (d + 20) j_Md_is [am_r 6 504, am_i x] M = am_at am_P (d + 19) j_Md_is 0 [am_r 6 504, am_i x] [] M := rfl
  obtain ⟨A, c, hR, hJ, hP⟩ := hG.sr
  obtain ⟨u1, u2, u3⟩ := hJ.un
  obtain ⟨⟨-, r1, -⟩, -, r2, -⟩ := hG.1.2.2.2.2.2.2
  have hres : am_m am_P (d + 19) j_Md_reserves [am_r 6 504] M = some (some (am_i (sm (hfS M) 12)), M) := by
    have := S_Md_reserves (d + 14) (c' := M 4) hJ.1.pi hJ.1.rv hJ.1.mv M
    rw [← hR, st_self] at this
    rw [this]
    have e : sm (hfS (am_st M 4 c)) 12 = sm (hfS M) 12 := sm_congr 12 (fun v _ => by
      unfold hfS thS
      rw [us_st, st_ne _ _ (by decide), st_ne _ _ (by decide)])
    rw [e]
  have hbl : sm (fun b => if M 505 (5 + 2 * b) = 0 then 0 else 1) 96 = nz (M 4) 96 := by
    unfold nz
    refine sm_congr 96 (fun b hb => ?_)
    (try dsimp only)
    have := hP.2.1 b (by omega) (by omega)
    rw [A_cnt hR hP (by omega)]
    by_cases h : M 4 b = 0
    · rw [if_pos h, if_neg (by omega)]
    · rw [if_neg h, if_pos (by omega)]
  have hpc : ∀ p : Nat, p < 160 → M 505 (197 + 10 * (p : Int)) = M 4 ((p : Int) + 96) ∧ 0 ≤ M 4 ((p : Int) + 96) := fun p hp => by
    have := (u1.bd ((p : Int) + 96)).1
    rw [← hP.1 _ (by omega)] at this
    exact ⟨by rw [hR, wc_p _ _ (by omega)], this⟩
  have hpa : sm (fun p => if ¬ M 505 (197 + 10 * p) = 0 ∧ ((-1 : Int) = -1 ∨ M 505 (196 + 10 * p) = -1) then 1 else 0) 160 = nz (fun i => M 4 (i + 96)) 160 := by
    unfold nz
    refine sm_congr 160 (fun p hp => ?_)
    (try dsimp only)
    obtain ⟨e, h0⟩ := hpc p hp
    rw [e]
    by_cases h : M 4 ((p : Int) + 96) = 0
    · rw [if_neg (fun q => q.1 h), if_neg (by omega)]
    · rw [if_pos ⟨h, Or.inl rfl⟩, if_pos (by omega)]
  have hpl : sm (fun p => if ¬ M 505 (197 + 10 * p) = 0 ∧ ((0 : Int) = -1 ∨ M 505 (196 + 10 * p) = 0) then 1 else 0) 160 = sm (fun i => if kndS (M 4) (M 5) (i + 96) = 0 then 1 else 0) 160 := by
    refine sm_congr 160 (fun p hp => ?_)
    (try dsimp only)
    obtain ⟨e, h0⟩ := hpc p hp
    rw [e]
    unfold kndS
    by_cases h : M 4 ((p : Int) + 96) = 0
    · rw [if_neg (fun q => q.1 h), if_neg (show ¬ (96 ≤ (p : Int) + 96 ∧ (p : Int) + 96 < 256 ∧ 0 < M 4 ((p : Int) + 96)) from fun q => by have := q.2.2; omega), if_neg (by decide)]
    · have hk := (u1.co p hp (by rw [← hP.1 _ (by omega)]; exact h)).1
      rw [if_pos (show 96 ≤ (p : Int) + 96 ∧ (p : Int) + 96 < 256 ∧ 0 < M 4 ((p : Int) + 96) from ⟨by omega, by omega, by omega⟩), hR, wc_k _ _ (by omega), hk, show (p : Int) + 96 - 96 = p by omega]
      by_cases hz : M 5 p = 0
      · rw [if_pos ⟨h, Or.inr hz⟩, if_pos hz]
      · rw [if_neg (fun q => q.2.elim (by decide) hz), if_neg hz]
  have hc4 : ∀ i : Nat, i < 96 → 0 ≤ M 4 i ∧ M 4 i ≤ (1000000 : Nat) := fun i hi => by have := hP.2.1 i (by omega) (by omega); omega
  rcases (show x = 0 ∨ x = 1 ∨ x = 2 ∨ x = 3 ∨ x = 4 ∨ x = 5 ∨ x = 6 ∨ x = 7 ∨ x = 8 ∨ x = 9 ∨ x = 10 ∨ x = 11 ∨ (x ≠ 0 ∧ x ≠ 1 ∧ x ≠ 2 ∧ x ≠ 3 ∧ x ≠ 4 ∧ x ≠ 5 ∧ x ≠ 6 ∧ x ≠ 7 ∧ x ≠ 8 ∧ x ≠ 9 ∧ x ≠ 10 ∧ x ≠ 11) by omega) with rfl | rfl | rfl | rfl | rfl | rfl | rfl | rfl | rfl | rfl | rfl | rfl | ⟨q0, q1, q2, q3, q4, q5, q6, q7, q8, q9, q10, q11⟩
  · exact AG.same hG (a := am_i (nz (M 7) 12)) (by rw [hX, E_Tv_is_0, if_pos rfl]; simp only [Nat.reduceAdd]; rw [S_St_volumes (d + 18), bI_some]) (by rw [hY, E_Md_is_0, if_pos rfl, A_volumes (d + 16) u3 hR, bI_some])
  · exact AG.same hG (a := am_i (nz (M 4) 96)) (by rw [hX, E_Tv_is_0, if_neg (by decide), if_pos rfl]; simp only [Nat.reduceAdd]; rw [S_Po_usedBlocks (d + 18), bI_some]) (by rw [hY, E_Md_is_0, if_neg (by decide), if_pos rfl, S_Md_blocks (d + 17), bI_some, hbl])
  · exact AG.same hG (a := am_i (nz (fun i => M 4 (i + 96)) 160)) (by rw [hX, E_Tv_is_0, if_neg (by decide), if_neg (by decide), if_pos rfl]; simp only [Nat.reduceAdd]; rw [S_Po_usedParts (d + 18), bI_some]) (by rw [hY, E_Md_is_0, if_neg (by decide), if_neg (by decide), if_pos rfl, S_Md_partsOf (d + 17), bI_some, hpa])
  · exact AG.same hG (a := am_i (sm (usS M) 12)) (by rw [hX, E_Tv_is_0, if_neg (by decide), if_neg (by decide), if_neg (by decide), if_pos rfl]; simp only [Nat.reduceAdd]; rw [S_St_mappedInAll (d + 12), bI_some]) (by rw [hY, E_Md_is_0, if_neg (by decide), if_neg (by decide), if_neg (by decide), if_pos rfl, A_mapped (d + 14) hR hJ, bI_some])
  · exact AG.same hG (a := am_i (M 1 9)) (by rw [hX, E_Tv_is_0, if_neg (by decide), if_neg (by decide), if_neg (by decide), if_neg (by decide), if_pos rfl]) (by rw [hY, E_Md_is_0, if_neg (by decide), if_neg (by decide), if_neg (by decide), if_neg (by decide), if_pos rfl, if_t (by decide)]; simp only [Nat.reduceAdd]; rw [hR, wc_o _ _ (by omega), u3.1.1])
  · exact AG.same hG (a := am_i (sm (fun i => if kndS (M 4) (M 5) (i + 96) = 0 then 1 else 0) 160)) (by rw [hX, E_Tv_is_0, if_neg (by decide), if_neg (by decide), if_neg (by decide), if_neg (by decide), if_neg (by decide), if_pos rfl]; simp only [Nat.reduceAdd]; rw [S_Po_usedLeaves (d + 16), bI_some]) (by rw [hY, E_Md_is_0, if_neg (by decide), if_neg (by decide), if_neg (by decide), if_neg (by decide), if_neg (by decide), if_pos rfl, S_Md_partsOf (d + 17), bI_some, hpl])
  · exact AG.same hG (a := am_i (sm (M 4) 96)) (by rw [hX, E_Tv_is_0, if_neg (by decide), if_neg (by decide), if_neg (by decide), if_neg (by decide), if_neg (by decide), if_neg (by decide), if_pos rfl]; simp only [Nat.reduceAdd]; rw [S_Po_countsTogether (d + 18) M hc4, bI_some]) (by rw [hY, E_Md_is_0, if_neg (by decide), if_neg (by decide), if_neg (by decide), if_neg (by decide), if_neg (by decide), if_neg (by decide), if_pos rfl, A_counts (d + 17) hR hP, bI_some, if_pos rfl])
  · exact AG.same hG (a := am_i (cntS (M 4) (mcS M))) (by rw [hX, E_Tv_is_0, if_neg (by decide), if_neg (by decide), if_neg (by decide), if_neg (by decide), if_neg (by decide), if_neg (by decide), if_neg (by decide), if_pos rfl]; simp only [Nat.reduceAdd]; rw [S_Po_mostCounted (d + 16), bI_some, S_Po_countOf (d + 17), bI_some]) (by rw [hY, E_Md_is_0, if_neg (by decide), if_neg (by decide), if_neg (by decide), if_neg (by decide), if_neg (by decide), if_neg (by decide), if_neg (by decide), if_pos rfl, A_counts (d + 17) hR hP, bI_some, if_neg (by decide)])
  · exact AG.same hG (a := am_i (M 1 10)) (by rw [hX, E_Tv_is_0, if_neg (by decide), if_neg (by decide), if_neg (by decide), if_neg (by decide), if_neg (by decide), if_neg (by decide), if_neg (by decide), if_neg (by decide), if_pos rfl]) (by rw [hY, E_Md_is_0, if_neg (by decide), if_neg (by decide), if_neg (by decide), if_neg (by decide), if_neg (by decide), if_neg (by decide), if_neg (by decide), if_neg (by decide), if_pos rfl, if_t (by decide)]; simp only [Nat.reduceAdd]; rw [hR, wc_o _ _ (by omega), u3.1.2.1])
  · exact AG.same hG (a := am_i (sm (hfS M) 12)) (by rw [hX, E_Tv_is_0, if_neg (by decide), if_neg (by decide), if_neg (by decide), if_neg (by decide), if_neg (by decide), if_neg (by decide), if_neg (by decide), if_neg (by decide), if_neg (by decide), if_pos rfl]; simp only [Nat.reduceAdd]; rw [S_St_heldFree (d + 12) M (fun v hv => (u3.vd hv).2.2.2.2.2.2.2.2.2.1), bI_some]) (by rw [hY, E_Md_is_0, if_neg (by decide), if_neg (by decide), if_neg (by decide), if_neg (by decide), if_neg (by decide), if_neg (by decide), if_neg (by decide), if_neg (by decide), if_neg (by decide), if_pos rfl, hres, bI_some])
  · exact AG.same hG (a := am_i (M 495 2)) (by rw [hX, E_Tv_is_0, if_neg (by decide), if_neg (by decide), if_neg (by decide), if_neg (by decide), if_neg (by decide), if_neg (by decide), if_neg (by decide), if_neg (by decide), if_neg (by decide), if_neg (by decide), if_pos rfl]) (by rw [hY, E_Md_is_0, if_neg (by decide), if_neg (by decide), if_neg (by decide), if_neg (by decide), if_neg (by decide), if_neg (by decide), if_neg (by decide), if_neg (by decide), if_neg (by decide), if_neg (by decide), if_pos rfl, r1])
  · exact AG.same hG (a := am_i (M 498 2)) (by rw [hX, E_Tv_is_0, if_neg (by decide), if_neg (by decide), if_neg (by decide), if_neg (by decide), if_neg (by decide), if_neg (by decide), if_neg (by decide), if_neg (by decide), if_neg (by decide), if_neg (by decide), if_neg (by decide), if_pos rfl]) (by rw [hY, E_Md_is_0, if_neg (by decide), if_neg (by decide), if_neg (by decide), if_neg (by decide), if_neg (by decide), if_neg (by decide), if_neg (by decide), if_neg (by decide), if_neg (by decide), if_neg (by decide), if_neg (by decide), if_pos rfl, r2])
  · exact AG.same hG (a := am_i (-1)) (by rw [hX, E_Tv_is_0, if_neg q0, if_neg q1, if_neg q2, if_neg q3, if_neg q4, if_neg q5, if_neg q6, if_neg q7, if_neg q8, if_neg q9, if_neg q10, if_neg q11]) (by rw [hY, E_Md_is_0, if_neg q0, if_neg q1, if_neg q2, if_neg q3, if_neg q4, if_neg q5, if_neg q6, if_neg q7, if_neg q8, if_neg q9, if_neg q10, if_neg q11])
