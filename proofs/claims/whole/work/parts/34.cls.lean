/-! THE CLASS: counts of places, numbers when all lie close, marks, copies, rows, differences -/
def flS' (r : Nat) (n : Nat) (x : Int) (M : am_M) : am_M := itS (fun k N => am_set N r k x) n 0 M
theorem S_Ar_fill (d r : Nat) (x : Int) (M : am_M) : am_m am_P (d + 1) j_Ar_fill [am_r 11 r, am_i x] M = some (none, flS' r 256 x M) := by
  show am_at am_P d j_Ar_fill 0 [am_r 11 r, am_i x, am_u, am_u] [] M = _
  rw [E_Ar_fill_0_t11, v_eq, v_eq]
  refine lp_it (σ := am_M) (F := fun k N => am_at am_P d j_Ar_fill 5 [am_r 11 r, am_i x, am_i k, am_i 256] [] N) (b := fun k N => am_set N r k x) (r := fun N => some (none, N)) 256 0 M (fun s => ?_) (fun k s h1 h2 => ?_)
  · try dsimp only
    rw [E_Ar_fill_5_t11, if_neg (by omega)]
  · try dsimp only
    rw [E_Ar_fill_5_t11, if_pos (by omega), if_t (by omega), w_eq, v_eq, wr_id (by omega) (by omega)]
def in1 (r : Nat) (x : Int) (M : am_M) : am_M := if 0 ≤ x ∧ x < 256 then am_set M r x (am_wr (M r x + 1)) else M
def ap1 (r : Nat) (t : Int) (M : am_M) : am_M := itS (fun k N => in1 r (atS (N 6) t k) N) 8 0 M
def apS (r : Nat) (M : am_M) : am_M := itS (fun t N => if N 4 t = 0 then N else ap1 r t N) 160 96 M
theorem S_Po_addPlaces (d r : Nat) (M : am_M) : am_m am_P (d + 2) j_Po_addPlaces [am_r 2 2, am_r 11 r] M = some (none, apS r M) := by
  show am_at am_P (d + 1) j_Po_addPlaces 0 [am_r 2 2, am_r 11 r, am_u, am_u, am_u] [] M = _
  rw [E_Po_addPlaces_0, v_eq]
  refine lp_it (σ := am_M) (F := fun t N => am_at am_P (d + 1) j_Po_addPlaces 3 [am_r 2 2, am_r 11 r, am_i t, am_u, am_u] [] N) (b := fun t N => if N 4 t = 0 then N else ap1 r t N) (r := fun N => some (none, N)) 160 96 M (fun s => ?_) (fun t s h1 h2 => ?_)
  · try dsimp only
    rw [E_Po_addPlaces_3, if_neg (by omega)]
  · try dsimp only
    rw [E_Po_addPlaces_3, if_pos (by omega), if_t (by omega)]
    simp only [Nat.reduceAdd]
    by_cases h : s 4 t = 0
    · rw [if_pos h, if_pos h, v_eq, wr_id (by omega) (by omega)]
    · rw [if_neg h, if_neg h, v_eq]
      refine lp_it (σ := am_M) (F := fun k N => am_at am_P (d + 1) j_Po_addPlaces 24 [am_r 2 2, am_r 11 r, am_i t, am_i k, am_u] [] N) (b := fun k N => in1 r (atS (N 6) t k) N) (r := fun N => am_at am_P (d + 1) j_Po_addPlaces 3 [am_r 2 2, am_r 11 r, am_i (t + 1), am_u, am_u] [] N) 8 0 s (fun s => ?_) (fun k s h3 h4 => ?_)
      · try dsimp only
        rw [E_Po_addPlaces_24, if_neg (by omega), v_eq, wr_id (by omega) (by omega)]
      · try dsimp only
        rw [E_Po_addPlaces_24, if_pos (by omega), S_Po_at, bI_some, v_eq, S_Tv_isThing, bI_some, v_eq, wr_id (z := k + 1) (by omega) (by omega)]
        unfold in1
        by_cases hx : 0 ≤ atS (s 6) t k ∧ atS (s 6) t k < 256
        · rw [if_neg (by rw [b2_t hx]; omega), if_pos hx.2, if_t hx, if_t hx, w_eq, v_eq, if_pos hx]
        · rw [if_pos (b2_f hx), if_neg hx]
def cpS (r : Nat) (M : am_M) : am_M := itS (fun v N => in1 r (N 10 v) N) 12 0 (apS r (flS' r 256 0 M))
theorem S_St_countPlaces (d r : Nat) (M : am_M) : am_m am_P (d + 3) j_St_countPlaces [am_r 4 1, am_r 11 r] M = some (none, cpS r M) := by
  show am_at am_P (d + 2) j_St_countPlaces 0 [am_r 4 1, am_r 11 r, am_u, am_u] [] M = _
  rw [E_St_countPlaces_0, S_Ar_fill, bV_some]
  simp only [Nat.reduceAdd]
  rw [S_Po_addPlaces, bV_some, v_eq]
  refine lp_it (σ := am_M) (F := fun v N => am_at am_P (d + 2) j_St_countPlaces 15 [am_r 4 1, am_r 11 r, am_i v, am_u] [] N) (b := fun v N => in1 r (N 10 v) N) (r := fun N => some (none, N)) 12 0 _ (fun s => ?_) (fun v s h1 h2 => ?_)
  · try dsimp only
    rw [E_St_countPlaces_15, if_neg (by omega)]
  · try dsimp only
    rw [E_St_countPlaces_15, if_pos (by omega), if_t (by omega), v_eq]
    simp only [Nat.reduceAdd]
    rw [S_Tv_isThing, bI_some, v_eq, wr_id (z := v + 1) (by omega) (by omega)]
    unfold in1
    by_cases hx : 0 ≤ s 10 v ∧ s 10 v < 256
    · rw [if_neg (by rw [b2_t hx]; omega), if_pos hx.2, if_t hx, if_t hx, w_eq, v_eq, if_pos hx]
    · rw [if_pos (b2_f hx), if_neg hx]
def fwrS (r : Nat) (M : am_M) : Int := fd (fun t => ¬ M 4 t = M r t) (fun _ => inferInstance) 0 256
theorem S_St_firstWrong (d r : Nat) (M : am_M) : am_m am_P (d + 4) j_St_firstWrong [am_r 4 1, am_r 11 r] M = some (some (am_i (fwrS r (cpS r M))), cpS r M) := by
  show am_at am_P (d + 3) j_St_firstWrong 0 [am_r 4 1, am_r 11 r, am_u] [] M = _
  rw [E_St_firstWrong_0, S_St_countPlaces, bV_some, v_eq]
  refine lp_fd (F := fun t => am_at am_P (d + 3) j_St_firstWrong 7 [am_r 4 1, am_r 11 r, am_i t] [] (cpS r M)) (r := fun t => some (some (am_i t), cpS r M)) ?_ ?_
  · try dsimp only
    rw [E_St_firstWrong_7, if_neg (by omega)]
  · intro t h1 h2
    try dsimp only
    rw [E_St_firstWrong_7, if_pos (by omega), if_pos (by omega), if_t (by omega), if_t (by omega), v_eq, wr_id (by omega) (by omega)]
    simp only [Nat.reduceAdd]
    by_cases h : cpS r M 4 t = cpS r M r t
    · rw [if_pos h, if_neg (fun q => q h)]
    · rw [if_neg h, if_pos h]
def meS (r : Nat) (M : am_M) : Int × am_M := itS (fun t s => (if s.2 4 t = s.2 r t then s.1 else s.1 + 1, am_set s.2 4 t (s.2 r t))) 256 0 (0, cpS r M)
theorem S_St_mendCounts (d r : Nat) (M : am_M) : am_m am_P (d + 4) j_St_mendCounts [am_r 4 1, am_r 11 r] M = some (some (am_i (meS r M).1), (meS r M).2) := by
  show am_at am_P (d + 3) j_St_mendCounts 0 [am_r 4 1, am_r 11 r, am_u, am_u] [] M = _
  rw [E_St_mendCounts_0, S_St_countPlaces, bV_some, v_eq, v_eq]
  obtain ⟨n, hn⟩ : ∃ n : Nat, n = 256 := ⟨_, rfl⟩
  unfold meS
  rw [← hn]
  generalize cpS r M = N
  refine (lp_itP (σ := Int × am_M) (F := fun t s => am_at am_P (d + 3) j_St_mendCounts 9 [am_r 4 1, am_r 11 r, am_i s.1, am_i t] [] s.2) (b := fun t s => (if s.2 4 t = s.2 r t then s.1 else s.1 + 1, am_set s.2 4 t (s.2 r t))) (r := fun s => some (some (am_i s.1), s.2)) (fun t s => 0 ≤ s.1 ∧ s.1 ≤ t) n 0 (0, N) ⟨Int.le_refl _, Int.le_refl _⟩ (fun s _ => ?_) (fun t s h1 h2 hs => ?_)).1
  · try dsimp only
    rw [E_St_mendCounts_9, if_neg (by omega)]
  · have e : am_wr (t + 1) = t + 1 := wr_id (by omega) (by omega)
    (try dsimp only)
    rw [E_St_mendCounts_9, if_pos (by omega), if_pos (by omega), if_t (by omega), if_t (by omega), if_t (by omega), if_t (by omega), w_eq, v_eq, v_eq, w_eq, v_eq, e]
    simp only [Nat.reduceAdd]
    by_cases h : s.2 4 t = s.2 r t
    · rw [if_pos h, if_pos h]
      exact ⟨rfl, by omega⟩
    · rw [if_neg h, if_neg h, if_t (by omega), if_t (by omega), wr_id (by omega) (by omega)]
      exact ⟨rfl, by omega⟩
def mkS (r : Nat) : Nat → am_M → Int → am_M
  | 0, M, _ => M
  | n + 1, M, t => if 96 ≤ t ∧ t < 256 then (if n = 0 then am_set M r t 1 else itS (fun k N => mkS r n N (atS (N 6) t k)) 8 0 (am_set M r t 1)) else M
theorem S_Po_markUnder (d r : Nat) : ∀ (n : Nat), n < 1000 → ∀ (t : Int) (M : am_M), am_m am_P (d + n + 2) j_Po_markUnder [am_r 2 2, am_i t, am_i ((n : Int) - 1), am_r 11 r] M = some (none, mkS r n M t)
  | 0, _, t, M => by
    show am_at am_P (d + 0 + 1) j_Po_markUnder 0 [am_r 2 2, am_i t, am_i (((0 : Nat) : Int) - 1), am_r 11 r, am_u] [] M = _
    rw [E_Po_markUnder_0, if_pos (by omega)]
    rfl
  | n + 1, hn, t, M => by
    show am_at am_P (d + (n + 1) + 1) j_Po_markUnder 0 [am_r 2 2, am_i t, am_i (((n + 1 : Nat) : Int) - 1), am_r 11 r, am_u] [] M = _
    rw [E_Po_markUnder_0, if_neg (by omega), S_Tv_isPart, bI_some]
    unfold mkS
    by_cases ht : 96 ≤ t ∧ t < 256
    · rw [if_neg (by rw [b2_t ht]; omega), if_pos ht.2, if_t (by omega), w_eq, v_eq, if_pos ht]
      by_cases h0 : n = 0
      · rw [if_pos h0, E_Po_markUnder_25, if_pos (by omega), if_neg (by omega)]
      · rw [if_neg h0]
        refine lp_it (σ := am_M) (F := fun k N => am_at am_P (d + (n + 1) + 1) j_Po_markUnder 25 [am_r 2 2, am_i t, am_i (((n + 1 : Nat) : Int) - 1), am_r 11 r, am_i k] [] N) (b := fun k N => mkS r n N (atS (N 6) t k)) (r := fun N => some (none, N)) 8 0 _ (fun s => ?_) (fun k s h1 h2 => ?_)
        · try dsimp only
          rw [E_Po_markUnder_25, if_neg (by omega)]
        · try dsimp only
          rw [E_Po_markUnder_25, if_pos (by omega), if_pos (by omega), S_Po_at, bI_some, wr_id (z := ((n + 1 : Nat) : Int) - 1 - 1) (by omega) (by omega), show ((n + 1 : Nat) : Int) - 1 - 1 = (n : Int) - 1 by omega]
          rw [show d + (n + 1) + 1 = d + n + 2 by omega, S_Po_markUnder d r n (by omega), bV_some, v_eq, wr_id (by omega) (by omega)]
    · rw [if_pos (b2_f ht), if_neg ht]
/-- a state as another -/
def csP (r0 r1 : Nat) (M : am_M) : am_M := am_cp (am_cp (am_cp (am_cp M (r0 + 1) (r1 + 1) 96) (r0 + 2) (r1 + 2) 256) (r0 + 3) (r1 + 3) 160) (r0 + 4) (r1 + 4) 1280
theorem S_Po_copyFrom (d r0 r1 : Nat) (M : am_M) : am_m am_P (d + 1) j_Po_copyFrom [am_r 2 r0, am_r 2 r1] M = some (none, csP r0 r1 M) := by
  show am_at am_P d j_Po_copyFrom 0 [am_r 2 r0, am_r 2 r1] [] M = _
  rw [E_Po_copyFrom_0, if_t (by decide), w_eq, if_t (by decide), w_eq, if_t (by decide), w_eq, if_t (by decide), w_eq]
  rfl
def cs8 (r0 r1 : Nat) (M : am_M) : am_M := am_cp (am_cp (am_cp (am_cp (am_cp (am_cp (am_cp (am_cp M (r0 + 6) (r1 + 6) 12) (r0 + 7) (r1 + 7) 12) (r0 + 8) (r1 + 8) 12) (r0 + 9) (r1 + 9) 12) (r0 + 10) (r1 + 10) 12) (r0 + 11) (r1 + 11) 12) (r0 + 12) (r1 + 12) 12) (r0 + 13) (r1 + 13) 12
def cs3 (r0 r1 : Nat) (M : am_M) : am_M := am_set (am_set (am_set M r0 9 (M r1 9)) r0 10 (am_set M r0 9 (M r1 9) r1 10)) r0 11 (am_set (am_set M r0 9 (M r1 9)) r0 10 (am_set M r0 9 (M r1 9) r1 10) r1 11)
def csS (r0 r1 : Nat) (M : am_M) : am_M := cs3 r0 r1 (cs8 r0 r1 (csP (r0 + 1) (r1 + 1) M))
theorem cp_off (M : am_M) {i j k : Nat} (n : Int) (h : k ≠ i) : am_cp M i j n k = M k := st_ne _ _ h
theorem csP_off (r0 r1 : Nat) (M : am_M) {k : Nat} (h : k < r0 + 1 ∨ r0 + 4 < k) : csP r0 r1 M k = M k := by
  unfold csP
  rw [cp_off _ _ (by omega), cp_off _ _ (by omega), cp_off _ _ (by omega), cp_off _ _ (by omega)]
theorem cs8_off (r0 r1 : Nat) (M : am_M) {k : Nat} (h : k < r0 + 6 ∨ r0 + 13 < k) : cs8 r0 r1 M k = M k := by
  unfold cs8
  rw [cp_off _ _ (by omega), cp_off _ _ (by omega), cp_off _ _ (by omega), cp_off _ _ (by omega), cp_off _ _ (by omega), cp_off _ _ (by omega), cp_off _ _ (by omega), cp_off _ _ (by omega)]
theorem S_St_copyFrom (d : Nat) {r0 r1 : Nat} (M : am_M) (hr : r1 + 13 < r0 ∨ r0 + 13 < r1) (hb : M r1 11 = 0 ∨ M r1 11 = 1) : am_m am_P (d + 2) j_St_copyFrom [am_r 4 r0, am_r 4 r1] M = some (none, csS r0 r1 M) := by
  show am_at am_P (d + 1) j_St_copyFrom 0 [am_r 4 r0, am_r 4 r1] [] M = _
  rw [E_St_copyFrom_0, S_Po_copyFrom, bV_some, if_t (by decide), w_eq, if_t (by decide), w_eq, if_t (by decide), w_eq, if_t (by decide), w_eq, if_t (by decide), w_eq, if_t (by decide), w_eq, if_t (by decide), w_eq, if_t (by decide), w_eq, w_eq, w_eq, if_t ?_, w_eq]
  · rfl
  · have e : cs8 r0 r1 (csP (r0 + 1) (r1 + 1) M) r1 = M r1 := by rw [cs8_off _ _ _ (by omega), csP_off _ _ _ (by omega)]
    rw [set_ne _ _ _ (by omega), set_ne _ _ _ (by omega)]
    show cs8 r0 r1 (csP (r0 + 1) (r1 + 1) M) r1 11 = 0 ∨ cs8 r0 r1 (csP (r0 + 1) (r1 + 1) M) r1 11 = 1
    rw [e]
    exact hb
/-! rows (the stream at 495, the stage at 498) and the difference at 501 -/
def tlS (r n : Nat) (M : am_M) (i w : Int) : Int := if 0 ≤ i ∧ i < M r 2 ∧ i < n then (if w = 0 then M (r + 1) i else if w = 1 then M (r + 2) i else -2) else -2
theorem S_Ro_told3 (d r : Nat) (i w : Int) (M : am_M) : am_m am_P (d + 1) j_Ro_told [am_r 3 r, am_i i, am_i w] M = some (some (am_i (tlS r 512 M i w)), M) := by
  show am_at am_P d j_Ro_told 0 [am_r 3 r, am_i i, am_i w] [] M = _
  rw [E_Ro_told_0_t3]
  unfold tlS am_if
  repeat' split
  all_goals first | rfl | (exfalso; omega)
theorem S_Ro_told7 (d r : Nat) (i w : Int) (M : am_M) : am_m am_P (d + 1) j_Ro_told [am_r 7 r, am_i i, am_i w] M = some (some (am_i (tlS r 16 M i w)), M) := by
  show am_at am_P d j_Ro_told 0 [am_r 7 r, am_i i, am_i w] [] M = _
  rw [E_Ro_told_0_t7]
  unfold tlS am_if
  repeat' split
  all_goals first | rfl | (exfalso; omega)
def adS (r : Nat) (M : am_M) (a x : Int) : am_M := am_set (am_set (am_set M (r + 1) (M r 2) a) (r + 2) (M r 2) x) r 2 (am_wr (M r 2 + 1))
theorem S_Ro_add3 (d r : Nat) (a x : Int) (M : am_M) (h0 : 0 ≤ M r 2) : am_m am_P (d + 1) j_Ro_add [am_r 3 r, am_i a, am_i x] M = if M r 2 < 512 then some (some (am_i 1), adS r M a x) else some (some (am_i 0), M) := by
  show am_at am_P d j_Ro_add 0 [am_r 3 r, am_i a, am_i x] [] M = _
  rw [E_Ro_add_0_t3, if_neg (by omega)]
  by_cases h : M r 2 < 512
  · rw [if_pos h, if_pos h, if_pos h, if_t ⟨h0, h⟩, w_eq, set_ne _ _ _ (show r ≠ r + 1 by omega), if_t ⟨h0, h⟩, w_eq, w_eq, if_b1, set_ne _ _ _ (show r ≠ r + 2 by omega), set_ne _ _ _ (show r ≠ r + 1 by omega)]
    rfl
  · rw [if_neg h, if_neg h, if_b0]
theorem S_Ro_add7 (d r : Nat) (a x : Int) (M : am_M) (h0 : 0 ≤ M r 2) : am_m am_P (d + 1) j_Ro_add [am_r 7 r, am_i a, am_i x] M = if M r 2 < 16 then some (some (am_i 1), adS r M a x) else some (some (am_i 0), M) := by
  show am_at am_P d j_Ro_add 0 [am_r 7 r, am_i a, am_i x] [] M = _
  rw [E_Ro_add_0_t7, if_neg (by omega)]
  by_cases h : M r 2 < 16
  · rw [if_pos h, if_pos h, if_pos h, if_t ⟨h0, h⟩, w_eq, set_ne _ _ _ (show r ≠ r + 1 by omega), if_t ⟨h0, h⟩, w_eq, w_eq, if_b1, set_ne _ _ _ (show r ≠ r + 2 by omega), set_ne _ _ _ (show r ≠ r + 1 by omega)]
    rfl
  · rw [if_neg h, if_neg h, if_b0]
def aaS (M : am_M) (i : Int) : Int := if 0 ≤ i ∧ i < M 501 1 ∧ i < 512 then M 502 i else -1
theorem S_Df_addressAt (d : Nat) (i : Int) (M : am_M) : am_m am_P (d + 1) j_Df_addressAt [am_r 0 501, am_i i] M = some (some (am_i (aaS M i)), M) := by
  show am_at am_P d j_Df_addressAt 0 [am_r 0 501, am_i i] [] M = _
  rw [E_Df_addressAt_0]
  unfold aaS am_if
  repeat' split
  all_goals first | rfl | (exfalso; omega)
def ntS (M : am_M) (a : Int) : am_M := if 0 ≤ M 501 1 ∧ M 501 1 < 512 then am_set (am_set M 502 (M 501 1) a) 501 1 (am_wr (M 501 1 + 1)) else M
theorem S_Df_note (d : Nat) (a : Int) (M : am_M) : am_m am_P (d + 1) j_Df_note [am_r 0 501, am_i a] M = some (none, ntS M a) := by
  show am_at am_P d j_Df_note 0 [am_r 0 501, am_i a] [] M = _
  rw [E_Df_note_0]
  unfold ntS
  by_cases h0 : M 501 1 < 0
  · rw [if_pos h0, if_neg (by omega)]
  · rw [if_neg h0]
    by_cases h : M 501 1 < 512
    · rw [if_pos h, if_t ⟨by omega, h⟩, w_eq, w_eq, if_pos ⟨by omega, h⟩]
      simp only [Nat.reduceAdd]
      rw [set_ne _ _ _ (show (501 : Nat) ≠ 502 by decide)]
    · rw [if_neg h, if_neg (by omega)]
/-- two parts of kind n - 1 walked -/
def wkS : Nat → am_M → Int → Int → Int → am_M
  | 0, M, _, _, _ => M
  | n + 1, M, s, t, a => if s = t then M else itS (fun k N => if n = 0 then (if atS (N 6) s k = atS (N 6) t k then N else ntS N (am_wr (a + am_shl k (am_wr (3 * (n : Int)))))) else wkS n N (atS (N 6) s k) (atS (N 6) t k) (am_wr (a + am_shl k (am_wr (3 * (n : Int)))))) 8 0 (am_set M 501 2 (am_wr (M 501 2 + 1)))
theorem S_Df_walk (d : Nat) : ∀ (n : Nat), n < 1000 → ∀ (s t a : Int) (M : am_M), am_m am_P (d + n + 2) j_Df_walk [am_r 0 501, am_r 2 2, am_i s, am_i t, am_i ((n : Int) - 1), am_i a] M = some (none, wkS n M s t a)
  | 0, _, s, t, a, M => by
    show am_at am_P (d + 0 + 1) j_Df_walk 0 [am_r 0 501, am_r 2 2, am_i s, am_i t, am_i (((0 : Nat) : Int) - 1), am_i a, am_u, am_u, am_u, am_u] [] M = _
    rw [E_Df_walk_0, if_pos (by omega)]
    rfl
  | n + 1, hn, s, t, a, M => by
    show am_at am_P (d + (n + 1) + 1) j_Df_walk 0 [am_r 0 501, am_r 2 2, am_i s, am_i t, am_i (((n + 1 : Nat) : Int) - 1), am_i a, am_u, am_u, am_u, am_u] [] M = _
    rw [E_Df_walk_0, if_neg (by omega)]
    unfold wkS
    by_cases hst : s = t
    · rw [if_pos hst, if_pos hst]
    · rw [if_neg hst, if_neg hst, w_eq, v_eq, show ((n + 1 : Nat) : Int) - 1 = (n : Int) by omega]
      refine lp_it (σ := am_M) (F := fun k N => am_at am_P (d + (n + 1) + 1) j_Df_walk 24 [am_r 0 501, am_r 2 2, am_i s, am_i t, am_i (n : Int), am_i a, am_i k, am_u, am_u, am_u] [] N) (b := fun k N => if n = 0 then (if atS (N 6) s k = atS (N 6) t k then N else ntS N (am_wr (a + am_shl k (am_wr (3 * (n : Int)))))) else wkS n N (atS (N 6) s k) (atS (N 6) t k) (am_wr (a + am_shl k (am_wr (3 * (n : Int)))))) (r := fun N => some (none, N)) 8 0 _ (fun q => ?_) (fun k q h1 h2 => ?_)
      · try dsimp only
        rw [E_Df_walk_24, if_neg (by omega)]
      · try dsimp only
        rw [E_Df_walk_24, if_pos (by omega), v_eq, S_Po_at, bI_some, v_eq, S_Po_at, bI_some, v_eq]
        by_cases h0 : n = 0
        · rw [if_neg (show ¬ (0 : Int) < (n : Int) by omega), if_pos h0]
          by_cases he : atS (q 6) s k = atS (q 6) t k
          · rw [if_pos he, if_pos he, v_eq, wr_id (z := k + 1) (by omega) (by omega)]
          · rw [if_neg he, if_neg he, S_Df_note, bV_some, v_eq, wr_id (z := k + 1) (by omega) (by omega)]
        · rw [if_pos (show (0 : Int) < (n : Int) by omega), if_neg h0, wr_id (z := (n : Int) - 1) (by omega) (by omega)]
          rw [show d + (n + 1) + 1 = d + n + 2 by omega, S_Df_walk d n (by omega), bV_some, v_eq, wr_id (z := k + 1) (by omega) (by omega)]
def lkdS (M : am_M) (v w : Int) : am_M := wkS 3 (am_set (am_set M 501 1 0) 501 2 0) (M 10 v) (M 10 w) 0
theorem S_Df_look (d : Nat) {v w : Int} (M : am_M) (hv : thS M v) (hw : thS M w) : am_m am_P (d + 6) j_Df_look [am_r 0 501, am_r 4 1, am_i v, am_i w] M = some (none, lkdS M v w) := by
  show am_at am_P (d + 5) j_Df_look 0 [am_r 0 501, am_r 4 1, am_i v, am_i w] [] M = _
  have a1 : 0 ≤ v ∧ v < 12 := ⟨hv.1, hv.2.1⟩
  have a2 : 0 ≤ w ∧ w < 12 := ⟨hw.1, hw.2.1⟩
  have e : ∀ k : Nat, k ≠ 501 → am_set (am_set M 501 1 0) 501 2 0 k = M k := fun k h => by rw [set_ne _ _ _ h, set_ne _ _ _ h]
  have hv' : thS (am_set (am_set M 501 1 0) 501 2 0) v := by
    refine ⟨hv.1, hv.2.1, ?_⟩
    rw [e 7 (by decide)]; exact hv.2.2
  have hw' : thS (am_set (am_set M 501 1 0) 501 2 0) w := by
    refine ⟨hw.1, hw.2.1, ?_⟩
    rw [e 7 (by decide)]; exact hw.2.2
  rw [E_Df_look_0, w_eq, w_eq, S_St_isThere, bI_some, if_neg (by rw [b2_t hv']; omega), S_St_isThere, bI_some, if_neg (by rw [b2_t hw']; omega), if_t a1, if_t a2]
  simp only [Nat.reduceAdd]
  rw [e 10 (by decide)]
  have := S_Df_walk d 3 (by omega) (M 10 v) (M 10 w) 0 (am_set (am_set M 501 1 0) 501 2 0)
  rw [show ((3 : Nat) : Int) - 1 = 2 from rfl] at this
  rw [this, bV_some]
  rfl
