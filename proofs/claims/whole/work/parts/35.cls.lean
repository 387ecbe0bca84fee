/-! THE CLASS: rows taken in, steps, soundness, what would be freed, laid close -/
def tiS (r n : Nat) (v : Int) : Nat → Int → am_M → Int × am_M
  | 0, i, M => if i < M r 2 then (0, M) else (1, M)
  | k + 1, i, M => if i < M r 2 then
      (if 0 ≤ tlS r n M i 0 ∧ tlS r n M i 0 < M 7 v then
        (if tlS r n M i 1 = -1 then (if (clS M v (tlS r n M i 0)).1 = 0 then (0, (clS M v (tlS r n M i 0)).2) else tiS r n v k (i + 1) (clS M v (tlS r n M i 0)).2)
         else (if (puS M v (tlS r n M i 0) (tlS r n M i 1)).1 = 0 then (0, (puS M v (tlS r n M i 0) (tlS r n M i 1)).2) else tiS r n v k (i + 1) (puS M v (tlS r n M i 0) (tlS r n M i 1)).2))
       else (0, M))
      else (1, M)
theorem tl_end (r n : Nat) (M : am_M) (w : Int) : tlS r n M (n : Int) w = -2 := by
  unfold tlS
  rw [if_neg (by omega)]
theorem ti_loop3 (d r : Nat) (v : Int) (hv : 0 ≤ v ∧ v < 12) : ∀ (k : Nat), k ≤ 512 → ∀ (M : am_M), am_at am_P (d + 9) j_St_takeIn 12 [am_r 4 1, am_i v, am_r 3 r, am_i (512 - (k : Int)), am_u, am_u, am_u] [] M = some (some (am_i (tiS r 512 v k (512 - (k : Int)) M).1), (tiS r 512 v k (512 - (k : Int)) M).2)
  | 0, _, M => by
    unfold tiS
    rw [E_St_takeIn_12_t3]
    by_cases h : 512 - ((0 : Nat) : Int) < M r 2
    · have e : (512 : Int) - ((0 : Nat) : Int) = ((512 : Nat) : Int) := by omega
      rw [if_pos h, if_pos h, S_Ro_told3, bI_some, v_eq, S_Ro_told3, bI_some, v_eq, e, tl_end, if_pos (by omega), if_b0]
    · rw [if_neg h, if_neg h, if_b1]
  | k + 1, hk, M => by
    unfold tiS
    have e : am_wr (512 - ((k + 1 : Nat) : Int) + 1) = 512 - (k : Int) := by rw [wr_id (by omega) (by omega)]; omega
    have e2 : (512 : Int) - ((k + 1 : Nat) : Int) + 1 = 512 - (k : Int) := by omega
    rw [E_St_takeIn_12_t3]
    generalize hi : (512 : Int) - ((k + 1 : Nat) : Int) = i at e e2 ⊢
    by_cases h : i < M r 2
    · rw [if_pos h, if_pos h, S_Ro_told3, bI_some, v_eq, S_Ro_told3, bI_some, v_eq]
      generalize tlS r 512 M i 0 = a
      generalize tlS r 512 M i 1 = x
      by_cases h0 : a < 0
      · rw [if_pos h0, if_neg (by omega), if_b0]
      · rw [if_neg h0, if_t hv]
        simp only [Nat.reduceAdd]
        by_cases h1 : a < M 7 v
        · rw [if_pos h1, if_pos (show 0 ≤ a ∧ a < M 7 v from ⟨by omega, h1⟩)]
          by_cases h2 : x = -1
          · rw [if_pos h2, if_pos h2, S_St_clear, bI_some, v_eq]
            by_cases h3 : (clS M v a).1 = 0
            · rw [if_pos h3, if_pos h3, if_ot]
            · rw [if_neg h3, if_neg h3, v_eq, e, e2]
              exact ti_loop3 d r v hv k (by omega) _
          · rw [if_neg h2, if_neg h2, S_St_put, bI_some, v_eq]
            by_cases h3 : (puS M v a x).1 = 0
            · rw [if_pos h3, if_pos h3, if_ot]
            · rw [if_neg h3, if_neg h3, v_eq, e, e2]
              exact ti_loop3 d r v hv k (by omega) _
        · rw [if_neg h1, if_neg (fun q => h1 q.2), if_ot]
    · rw [if_neg h, if_neg h, if_b1]
theorem S_St_takeIn3 (d r : Nat) {v : Int} (M : am_M) (hv : thS M v) : am_m am_P (d + 10) j_St_takeIn [am_r 4 1, am_i v, am_r 3 r] M = some (some (am_i (tiS r 512 v 512 0 M).1), (tiS r 512 v 512 0 M).2) := by
  show am_at am_P (d + 9) j_St_takeIn 0 [am_r 4 1, am_i v, am_r 3 r, am_u, am_u, am_u, am_u] [] M = _
  rw [E_St_takeIn_0_t3, S_St_isThere, bI_some, if_neg (by rw [b2_t hv]; omega), v_eq]
  have := ti_loop3 d r v ⟨hv.1, hv.2.1⟩ 512 (Nat.le_refl _) M
  rw [show (512 : Int) - ((512 : Nat) : Int) = 0 by omega] at this
  exact this
theorem ti_loop7 (d r : Nat) (v : Int) (hv : 0 ≤ v ∧ v < 12) : ∀ (k : Nat), k ≤ 16 → ∀ (M : am_M), am_at am_P (d + 9) j_St_takeIn 12 [am_r 4 1, am_i v, am_r 7 r, am_i (16 - (k : Int)), am_u, am_u, am_u] [] M = some (some (am_i (tiS r 16 v k (16 - (k : Int)) M).1), (tiS r 16 v k (16 - (k : Int)) M).2)
  | 0, _, M => by
    unfold tiS
    rw [E_St_takeIn_12_t7]
    by_cases h : 16 - ((0 : Nat) : Int) < M r 2
    · have e : (16 : Int) - ((0 : Nat) : Int) = ((16 : Nat) : Int) := by omega
      rw [if_pos h, if_pos h, S_Ro_told7, bI_some, v_eq, S_Ro_told7, bI_some, v_eq, e, tl_end, if_pos (by omega), if_b0]
    · rw [if_neg h, if_neg h, if_b1]
  | k + 1, hk, M => by
    unfold tiS
    have e : am_wr (16 - ((k + 1 : Nat) : Int) + 1) = 16 - (k : Int) := by rw [wr_id (by omega) (by omega)]; omega
    have e2 : (16 : Int) - ((k + 1 : Nat) : Int) + 1 = 16 - (k : Int) := by omega
    rw [E_St_takeIn_12_t7]
    generalize hi : (16 : Int) - ((k + 1 : Nat) : Int) = i at e e2 ⊢
    by_cases h : i < M r 2
    · rw [if_pos h, if_pos h, S_Ro_told7, bI_some, v_eq, S_Ro_told7, bI_some, v_eq]
      generalize tlS r 16 M i 0 = a
      generalize tlS r 16 M i 1 = x
      by_cases h0 : a < 0
      · rw [if_pos h0, if_neg (by omega), if_b0]
      · rw [if_neg h0, if_t hv]
        simp only [Nat.reduceAdd]
        by_cases h1 : a < M 7 v
        · rw [if_pos h1, if_pos (show 0 ≤ a ∧ a < M 7 v from ⟨by omega, h1⟩)]
          by_cases h2 : x = -1
          · rw [if_pos h2, if_pos h2, S_St_clear, bI_some, v_eq]
            by_cases h3 : (clS M v a).1 = 0
            · rw [if_pos h3, if_pos h3, if_ot]
            · rw [if_neg h3, if_neg h3, v_eq, e, e2]
              exact ti_loop7 d r v hv k (by omega) _
          · rw [if_neg h2, if_neg h2, S_St_put, bI_some, v_eq]
            by_cases h3 : (puS M v a x).1 = 0
            · rw [if_pos h3, if_pos h3, if_ot]
            · rw [if_neg h3, if_neg h3, v_eq, e, e2]
              exact ti_loop7 d r v hv k (by omega) _
        · rw [if_neg h1, if_neg (fun q => h1 q.2), if_ot]
    · rw [if_neg h, if_neg h, if_b1]
theorem S_St_takeIn7 (d r : Nat) {v : Int} (M : am_M) (hv : thS M v) : am_m am_P (d + 10) j_St_takeIn [am_r 4 1, am_i v, am_r 7 r] M = some (some (am_i (tiS r 16 v 16 0 M).1), (tiS r 16 v 16 0 M).2) := by
  show am_at am_P (d + 9) j_St_takeIn 0 [am_r 4 1, am_i v, am_r 7 r, am_u, am_u, am_u, am_u] [] M = _
  rw [E_St_takeIn_0_t7, S_St_isThere, bI_some, if_neg (by rw [b2_t hv]; omega), v_eq]
  have := ti_loop7 d r v ⟨hv.1, hv.2.1⟩ 16 (Nat.le_refl _) M
  rw [show (16 : Int) - ((16 : Nat) : Int) = 0 by omega] at this
  exact this
/-- a step kept: the state that is spare then, and the memory -/
def keS (r : Nat) (M : am_M) : Nat × am_M := if M 29 1 < 16 then ((M 30 (M 29 1)).toNat, am_set (am_set M 30 (M 29 1) (r : Int)) 29 1 (am_wr (M 29 1 + 1))) else ((M 30 0).toNat, am_set (itS (fun i N => am_set N 30 (i - 1) ((N 30 i).toNat : Int)) 15 1 M) 30 15 (r : Int))
theorem S_Pa_keep (d r : Nat) (M : am_M) (h0 : 0 ≤ M 29 1) : am_m am_P (d + 1) j_Pa_keep [am_r 1 29, am_r 4 r] M = some (some (am_r 4 (keS r M).1), (keS r M).2) := by
  show am_at am_P d j_Pa_keep 0 [am_r 1 29, am_r 4 r, am_u, am_u] [] M = _
  rw [E_Pa_keep_0, if_neg (by omega)]
  unfold keS
  simp only [Nat.reduceAdd]
  by_cases h : M 29 1 < 16
  · rw [if_pos h, if_pos h, if_t ⟨h0, h⟩, if_t ⟨⟨h0, h⟩, trivial⟩, w_eq, w_eq, if_t ⟨trivial, trivial⟩, set_ne _ _ _ (show (29 : Nat) ≠ 30 by decide)]
  · rw [if_neg h, if_neg h, if_t (by decide), v_eq]
    refine lp_it (σ := am_M) (F := fun i N => am_at am_P d j_Pa_keep 57 [am_r 1 29, am_r 4 r, am_r 4 (M 30 0).toNat, am_i i] [] N) (b := fun i N => am_set N 30 (i - 1) ((N 30 i).toNat : Int)) (r := fun N => some (some (am_r 4 (M 30 0).toNat), am_set N 30 15 (r : Int))) 15 1 M (fun s => ?_) (fun i s h1 h2 => ?_)
    · try dsimp only
      rw [E_Pa_keep_57, if_neg (by omega), if_t ⟨by decide, rfl⟩, w_eq, if_t ⟨rfl, rfl⟩]
    · try dsimp only
      rw [E_Pa_keep_57, if_pos (by omega), if_t (by omega), wr_id (z := i - 1) (by omega) (by omega), if_t ⟨by omega, rfl⟩, w_eq, v_eq, wr_id (z := i + 1) (by omega) (by omega)]
theorem S_Pa_takeLatest (d : Nat) (M : am_M) (h1 : 1 ≤ M 29 1) (h2 : M 29 1 ≤ 16) {q : Nat} (hq : M 30 (M 29 1 - 1) = (q : Int)) (hq2 : 14 < q) (hb : M q 11 = 0 ∨ M q 11 = 1) (hq3 : q ≠ 29) : am_m am_P (d + 3) j_Pa_takeLatest [am_r 1 29, am_r 4 1] M = some (none, csS 1 q (am_set M 29 1 (M 29 1 - 1))) := by
  show am_at am_P (d + 2) j_Pa_takeLatest 0 [am_r 1 29, am_r 4 1] [] M = _
  rw [E_Pa_takeLatest_0, if_neg (by omega), if_neg (by omega), w_eq, wr_id (by omega) (by omega), set_eq, up_eq, if_t (by omega)]
  simp only [Nat.reduceAdd]
  rw [set_ne _ _ _ (show (30 : Nat) ≠ 29 by decide), hq, show ((q : Nat) : Int).toNat = q from Int.toNat_natCast q, S_St_copyFrom d _ (by omega) (by rw [set_ne _ _ _ hq3]; exact hb), bV_some]
theorem S_Tv_isSound (d : Nat) (M : am_M) : am_m am_P (d + 5) j_Tv_isSound [am_r 5 0] M = if M 1 11 = 0 then some (some (am_i 1), M) else some (some (am_i (b2 (fwrS 503 (cpS 503 M) = -1))), cpS 503 M) := by
  show am_at am_P (d + 4) j_Tv_isSound 0 [am_r 5 0] [] M = _
  rw [E_Tv_isSound_0, if_b1]
  simp only [Nat.reduceAdd]
  by_cases h : M 1 11 = 0
  · rw [if_pos h, if_pos h]
  · rw [if_neg h, if_neg h, S_St_firstWrong, bI_some]
    by_cases h2 : fwrS 503 (cpS 503 M) = -1
    · rw [if_pos h2, b2_t h2]
      try rw [if_to]
    · rw [if_neg h2, b2_f h2]
      try rw [if_ot]
/-- whether all is sound, and the memory behind the look -/
def sdS (M : am_M) : Int × am_M := if M 1 11 = 0 then (1, M) else (b2 (fwrS 503 (cpS 503 M) = -1), cpS 503 M)
theorem S_Tv_sound (d : Nat) (M : am_M) : am_m am_P (d + 5) j_Tv_isSound [am_r 5 0] M = some (some (am_i (sdS M).1), (sdS M).2) := by
  rw [S_Tv_isSound]
  unfold sdS
  by_cases h : M 1 11 = 0
  · rw [if_pos h, if_pos h]
  · rw [if_neg h, if_neg h]
theorem S_Tv_isOpenToHand (d : Nat) (v : Int) (M : am_M) : am_m am_P (d + 6) j_Tv_isOpenToHand [am_r 5 0, am_i v] M = if thS M v ∧ M 9 v = 0 then (if (sdS M).1 = 0 then some (some (am_i 0), (sdS M).2) else some (some (am_i 1), (sdS M).2)) else some (some (am_i 0), M) := by
  show am_at am_P (d + 5) j_Tv_isOpenToHand 0 [am_r 5 0, am_i v] [] M = _
  rw [E_Tv_isOpenToHand_0]
  simp only [Nat.reduceAdd]
  rw [S_St_isThere, bI_some]
  by_cases hv : thS M v
  · rw [if_neg (by rw [b2_t hv]; omega), if_t ⟨hv.1, hv.2.1⟩]
    by_cases h9 : M 9 v = 0
    · rw [if_pos h9, if_pos ⟨hv, h9⟩, S_Tv_sound, bI_some]
      by_cases h : (sdS M).1 = 0
      · rw [if_pos h, if_pos h]
        try rw [if_ot]
      · rw [if_neg h, if_neg h]
        try rw [if_to]
    · rw [if_neg h9, if_neg (fun q => h9 q.2)]
      try rw [if_ot]
  · rw [if_pos (b2_f hv), if_neg (fun q => hv q.1)]
    try rw [if_ot]
theorem S_Tv_begin (d : Nat) (M : am_M) {q : Nat} (hq : M 0 1 = (q : Int)) (hq2 : 14 < q) (hb : M 1 11 = 0 ∨ M 1 11 = 1) : am_m am_P (d + 3) j_Tv_begin [am_r 5 0] M = some (none, csS q 1 M) := by
  show am_at am_P (d + 2) j_Tv_begin 0 [am_r 5 0] [] M = _
  rw [E_Tv_begin_0, hq, show ((q : Nat) : Int).toNat = q from Int.toNat_natCast q]
  simp only [Nat.reduceAdd]
  rw [S_St_copyFrom d _ (by omega) hb, bV_some]
def ksS (M : am_M) : am_M := am_set (keS (M 0 1).toNat M).2 0 1 ((keS (M 0 1).toNat M).1 : Int)
theorem S_Tv_keepStep (d : Nat) (M : am_M) (h0 : 0 ≤ M 29 1) : am_m am_P (d + 2) j_Tv_keepStep [am_r 5 0] M = some (none, ksS M) := by
  show am_at am_P (d + 1) j_Tv_keepStep 0 [am_r 5 0] [] M = _
  rw [E_Tv_keepStep_0]
  simp only [Nat.reduceAdd]
  rw [S_Pa_keep _ _ _ h0, bR_some, if_t trivial, w_eq]
  rfl
def fbS (m : Int) (M : am_M) : Int × am_M := itS (fun v s => if am_and (am_shr m v) 1 = 0 then s else (am_wr (s.1 + (LG 503 4 s.2 (s.2 10 v)).1), (LG 503 4 s.2 (s.2 10 v)).2)) 12 0 (0, am_cp M 503 4 256)
theorem S_Tv_freedBy (d : Nat) (m : Int) (M : am_M) : am_m am_P (d + 7) j_Tv_freedBy [am_r 5 0, am_i m] M = some (some (am_i (fbS m M).1), (fbS m M).2) := by
  show am_at am_P (d + 6) j_Tv_freedBy 0 [am_r 5 0, am_i m, am_u, am_u] [] M = _
  rw [E_Tv_freedBy_0, if_t (by decide), w_eq, v_eq, v_eq]
  unfold fbS
  simp only [Nat.reduceAdd]
  generalize am_cp M 503 4 256 = N
  refine lp_it (σ := Int × am_M) (F := fun v s => am_at am_P (d + 6) j_Tv_freedBy 26 [am_r 5 0, am_i m, am_i s.1, am_i v] [] s.2) (b := fun v s => if am_and (am_shr m v) 1 = 0 then s else (am_wr (s.1 + (LG 503 4 s.2 (s.2 10 v)).1), (LG 503 4 s.2 (s.2 10 v)).2)) (r := fun s => some (some (am_i s.1), s.2)) 12 0 (0, N) (fun s => ?_) (fun v s h1 h2 => ?_)
  · try dsimp only
    rw [E_Tv_freedBy_26, if_neg (by omega)]
  · try dsimp only
    rw [E_Tv_freedBy_26, if_pos (by omega), if_t (by omega), v_eq]
    simp only [Nat.reduceAdd]
    rw [S_letGo3, bI_some, v_eq, v_eq, wr_id (z := v + 1) (by omega) (by omega)]
    by_cases h : am_and (am_shr m v) 1 = 0
    · rw [if_pos h, if_pos h]
    · rw [if_neg h, if_neg h]
