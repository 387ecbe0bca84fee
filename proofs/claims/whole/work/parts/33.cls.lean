/-! THE CLASS: runs, lineage, what is hung instead, grafted, rows -/
abbrev rstS (M : am_M) (v a : Int) : Prop := blkS M v a ≠ -1 ∧ (a = 0 ∨ blkS M v (a - 1) = -1 ∨ am_wr (blkS M v (a - 1) + 1) ≠ blkS M v a)
theorem S_St_isRunStart (d : Nat) (v : Int) {a : Int} (ha : 0 ≤ a ∧ a ≤ 1000) (M : am_M) : am_m am_P (d + 4) j_St_isRunStart [am_r 4 1, am_i v, am_i a] M = some (some (am_i (b2 (rstS M v a))), M) := by
  show am_at am_P (d + 3) j_St_isRunStart 0 [am_r 4 1, am_i v, am_i a, am_u, am_u] [] M = _
  rw [E_St_isRunStart_0, S_St_blockAt, bI_some, v_eq, if_b0, if_b1]
  by_cases hb : blkS M v a = -1
  · rw [if_pos hb, b2_f (fun q => q.1 hb)]
  · rw [if_neg hb]
    by_cases h0 : a = 0
    · rw [if_pos h0, v_eq, if_pos rfl, b2_t ⟨hb, Or.inl h0⟩]
    · rw [if_neg h0, wr_id (z := a - 1) (by omega) (by omega), S_St_blockAt, bI_some, v_eq]
      by_cases h1 : blkS M v (a - 1) = -1
      · rw [if_pos h1, if_b1, b2_t ⟨hb, Or.inr (Or.inl h1)⟩]
      · rw [if_neg h1]
        by_cases h2 : am_wr (blkS M v (a - 1) + 1) = blkS M v a
        · rw [if_pos h2, if_b0, b2_f (fun q => by rcases q.2 with q | q | q; exact h0 q; exact h1 q; exact q h2)]
        · rw [if_neg h2, if_b1, b2_t ⟨hb, Or.inr (Or.inr h2)⟩]
/-- how many runs start below an address -/
def rnS (M : am_M) (v : Int) (n : Nat) : Int := sm (fun a => if rstS M v a then 1 else 0) n
theorem rn_bd (M : am_M) (v : Int) (n : Nat) : 0 ≤ rnS M v n ∧ rnS M v n ≤ n := by
  have := sm_bd (f := fun a => if rstS M v a then 1 else 0) (c := 1) n (fun k _ => by (try dsimp only); split <;> omega)
  unfold rnS
  omega
theorem S_St_runsOf (d : Nat) {v : Int} (M : am_M) (hv : thS M v) (hs : M 7 v ≤ 512) : am_m am_P (d + 5) j_St_runsOf [am_r 4 1, am_i v] M = some (some (am_i (rnS M v (M 7 v).toNat)), M) := by
  show am_at am_P (d + 4) j_St_runsOf 0 [am_r 4 1, am_i v, am_u, am_u] [] M = _
  have a1 : 0 ≤ v ∧ v < 12 := ⟨hv.1, hv.2.1⟩
  have a2 := hv.2.2
  rw [E_St_runsOf_0, S_St_isThere, bI_some, if_neg (by rw [b2_t hv]; omega), v_eq, v_eq]
  refine lp_sum (F := fun s i => am_at am_P (d + 4) j_St_runsOf 14 [am_r 4 1, am_i v, am_i s, am_i i] [] M) (f := fun a => if rstS M v a then 1 else 0) (n := (M 7 v).toNat) ?_ ?_
  · try dsimp only
    rw [E_St_runsOf_14, if_t a1]
    simp only [Nat.reduceAdd]
    rw [if_neg (by omega)]
    rfl
  · intro i hi
    try dsimp only
    have hb := rn_bd M v i
    unfold rnS at hb
    rw [E_St_runsOf_14, if_t a1]
    simp only [Nat.reduceAdd]
    rw [if_pos (by omega), S_St_isRunStart d v ⟨by omega, by omega⟩, bI_some]
    generalize sm (fun a => if rstS M v a then 1 else 0) i = s at hb ⊢
    by_cases h : rstS M v i
    · rw [if_neg (by rw [b2_t h]; omega), if_pos h, v_eq, v_eq, wr_id (by omega) (by omega), wr_id (by omega) (by omega)]
    · rw [if_pos (b2_f h), if_neg h, v_eq, wr_id (by omega) (by omega), Int.add_zero]
/-- where a run starts -/
def rsaS (M : am_M) (v i : Int) : Int := fd (fun a => rstS M v a ∧ rnS M v a.toNat = i) (fun _ => inferInstance) 0 (M 7 v).toNat
theorem S_St_runStart (d : Nat) {v : Int} (i : Int) (M : am_M) (hv : thS M v) (hs : M 7 v ≤ 512) : am_m am_P (d + 5) j_St_runStart [am_r 4 1, am_i v, am_i i] M = some (some (am_i (rsaS M v i)), M) := by
  show am_at am_P (d + 4) j_St_runStart 0 [am_r 4 1, am_i v, am_i i, am_u, am_u] [] M = _
  have a1 : 0 ≤ v ∧ v < 12 := ⟨hv.1, hv.2.1⟩
  have a2 := hv.2.2
  rw [E_St_runStart_0, S_St_isThere, bI_some, if_neg (by rw [b2_t hv]; omega), v_eq, v_eq]
  refine lp_fd (F := fun a => am_at am_P (d + 4) j_St_runStart 15 [am_r 4 1, am_i v, am_i i, am_i (rnS M v a.toNat), am_i a] [] M) (r := fun i => some (some (am_i i), M)) (a := 0) (k := (M 7 v).toNat) ?_ ?_
  · try dsimp only
    rw [E_St_runStart_15, if_t a1]
    simp only [Nat.reduceAdd]
    rw [if_neg (by omega)]
  · intro a h1 h2
    try dsimp only
    have hb := rn_bd M v a.toNat
    have en : (a + 1).toNat = a.toNat + 1 := by omega
    have es : rnS M v (a + 1).toNat = rnS M v a.toNat + (if rstS M v a then 1 else 0) := by
      rw [en]
      show rnS M v a.toNat + (if rstS M v (a.toNat : Int) then 1 else 0) = _
      rw [show ((a.toNat : Nat) : Int) = a by omega]
    rw [E_St_runStart_15, if_t a1]
    simp only [Nat.reduceAdd]
    rw [if_pos (by omega), S_St_isRunStart d v ⟨by omega, by omega⟩, bI_some, es]
    by_cases h : rstS M v a
    · rw [if_neg (by rw [b2_t h]; omega), if_pos h]
      by_cases hi : rnS M v a.toNat = i
      · rw [if_pos hi, if_pos ⟨h, hi⟩]
      · rw [if_neg hi, if_neg (fun q => hi q.2), v_eq, v_eq, wr_id (by omega) (by omega), wr_id (by omega) (by omega)]
    · rw [if_pos (b2_f h), if_neg h, if_neg (fun q => h q.1), v_eq, wr_id (by omega) (by omega), Int.add_zero]
/-- where a run ends -/
def reS (M : am_M) (v a : Int) : Int := fd (fun a => blkS M v a = -1 ∨ rstS M v a) (fun _ => inferInstance) (a + 1) (M 7 v - (a + 1)).toNat
def rlS (M : am_M) (v a : Int) : Int := (if reS M v a = -1 then M 7 v else reS M v a) - a
theorem S_St_runLength (d : Nat) {v a : Int} (M : am_M) (hv : thS M v) (hs : M 7 v ≤ 512) (ha : 0 ≤ a ∧ a < M 7 v) : am_m am_P (d + 5) j_St_runLength [am_r 4 1, am_i v, am_i a] M = some (some (am_i (rlS M v a)), M) := by
  show am_at am_P (d + 4) j_St_runLength 0 [am_r 4 1, am_i v, am_i a, am_u] [] M = _
  have a1 : 0 ≤ v ∧ v < 12 := ⟨hv.1, hv.2.1⟩
  have a2 := hv.2.2
  rw [E_St_runLength_0, S_St_isThere, bI_some, if_neg (by rw [b2_t hv]; omega), v_eq, wr_id (by omega) (by omega)]
  refine lp_fd (F := fun e => am_at am_P (d + 4) j_St_runLength 14 [am_r 4 1, am_i v, am_i a, am_i e] [] M) (r := fun i => some (some (am_i ((if i = -1 then M 7 v else i) - a)), M)) (p := fun a => blkS M v a = -1 ∨ rstS M v a) (dp := fun _ => inferInstance) (a := a + 1) (k := (M 7 v - (a + 1)).toNat) ?_ ?_
  · try dsimp only
    rw [E_St_runLength_14, if_t a1]
    simp only [Nat.reduceAdd]
    rw [if_neg (by omega), if_pos trivial, wr_id (by omega) (by omega), show a + 1 + ((M 7 v - (a + 1)).toNat : Int) - a = M 7 v - a by omega]
  · intro e h1 h2
    try dsimp only
    rw [E_St_runLength_14, if_t a1]
    simp only [Nat.reduceAdd]
    rw [if_pos (by omega), S_St_blockAt, bI_some, wr_id (z := e - a) (by omega) (by omega)]
    by_cases hb : blkS M v e = -1
    · rw [if_pos hb, if_pos (Or.inl hb), if_neg (by omega)]
    · rw [if_neg hb, S_St_isRunStart d v ⟨by omega, by omega⟩, bI_some]
      by_cases h : rstS M v e
      · rw [if_neg (by rw [b2_t h]; omega), if_pos (Or.inr h), if_neg (by omega)]
      · rw [if_pos (b2_f h), if_neg (fun q => by rcases q with q | q; exact hb q; exact h q), v_eq, wr_id (by omega) (by omega)]
/-- whether one is a volume or a parent above it -/
def saS (M : am_M) (v : Int) : Nat → Int → Int
  | 0, _ => 0
  | n + 1, o => if thS M o then (if o = v then 1 else saS M v n (M 13 o)) else 0
theorem sa_loop (d : Nat) (v : Int) (M : am_M) : ∀ (n : Nat), n ≤ 12 → ∀ o : Int, am_at am_P (d + 1) j_St_isSelfOrAbove 5 [am_r 4 1, am_i v, am_u, am_i o, am_i (12 - (n : Int))] [] M = some (some (am_i (saS M v n o)), M)
  | 0, _, o => by
    rw [E_St_isSelfOrAbove_5, if_neg (by omega), if_b0]; rfl
  | n + 1, hn, o => by
    unfold saS
    rw [E_St_isSelfOrAbove_5, if_pos (by omega), S_St_isThere, bI_some, if_b0, if_b1]
    simp only [Nat.reduceAdd]
    by_cases ho : thS M o
    · rw [if_neg (by rw [b2_t ho]; omega), if_pos ho]
      by_cases h : o = v
      · rw [if_pos h, if_pos h]
      · rw [if_neg h, if_neg h, if_t (by have := ho.1; have := ho.2.1; omega), v_eq, v_eq, wr_id (by omega) (by omega), show (12 : Int) - ((n + 1 : Nat) : Int) + 1 = 12 - (n : Int) by omega]
        exact sa_loop d v M n (by omega) _
    · rw [if_pos (b2_f ho), if_neg ho]
theorem S_St_isSelfOrAbove (d : Nat) (v o : Int) (M : am_M) : am_m am_P (d + 2) j_St_isSelfOrAbove [am_r 4 1, am_i v, am_i o] M = some (some (am_i (saS M v 12 o)), M) := by
  show am_at am_P (d + 1) j_St_isSelfOrAbove 0 [am_r 4 1, am_i v, am_i o, am_u, am_u] [] M = _
  rw [E_St_isSelfOrAbove_0, v_eq, v_eq]
  exact sa_loop d v M 12 (by omega) o
/-- how many parents are above a volume -/
def naS (M : am_M) : Nat → Int → Int
  | 0, _ => 0
  | n + 1, o => if thS M o then (if thS M (M 13 o) then 1 else 0) + naS M n (M 13 o) else 0
theorem na_loop (d : Nat) (M : am_M) : ∀ (n : Nat), n ≤ 12 → ∀ o s : Int, 0 ≤ s → s ≤ 12 - n → am_at am_P (d + 1) j_St_parentsAbove 7 [am_r 4 1, am_u, am_i s, am_i o, am_i (12 - (n : Int))] [] M = some (some (am_i (s + naS M n o)), M)
  | 0, _, o, s, _, _ => by
    rw [E_St_parentsAbove_7, if_neg (by omega)]
    unfold naS
    rw [Int.add_zero]
  | n + 1, hn, o, s, h1, h2 => by
    unfold naS
    rw [E_St_parentsAbove_7, if_pos (by omega), S_St_isThere, bI_some]
    simp only [Nat.reduceAdd]
    by_cases ho : thS M o
    · rw [if_neg (by rw [b2_t ho]; omega), if_pos ho, if_t (by have := ho.1; have := ho.2.1; omega), v_eq, S_St_isThere, bI_some, wr_id (z := 12 - ((n + 1 : Nat) : Int) + 1) (by omega) (by omega), show (12 : Int) - ((n + 1 : Nat) : Int) + 1 = 12 - (n : Int) by omega]
      by_cases hp : thS M (M 13 o)
      · rw [if_neg (by rw [b2_t hp]; omega), if_pos hp, v_eq, v_eq, wr_id (by omega) (by omega), na_loop d M n (by omega) _ _ (by omega) (by omega), Int.add_assoc]
      · rw [if_pos (b2_f hp), if_neg hp, v_eq, na_loop d M n (by omega) _ _ (by omega) (by omega), Int.zero_add]
    · rw [if_pos (b2_f ho), if_neg ho, Int.add_zero]
theorem S_St_parentsAbove (d : Nat) (o : Int) (M : am_M) : am_m am_P (d + 2) j_St_parentsAbove [am_r 4 1, am_i o] M = some (some (am_i (naS M 12 o)), M) := by
  show am_at am_P (d + 1) j_St_parentsAbove 0 [am_r 4 1, am_i o, am_u, am_u, am_u] [] M = _
  rw [E_St_parentsAbove_0, v_eq, v_eq, v_eq]
  have := na_loop d M 12 (by omega) o 0 (by omega) (by omega)
  rw [Int.zero_add] at this
  exact this
/-- like blocks joined, in one leaf -/
def jb1 (t : Int) (M : am_M) : am_M := itS (fun k N => if atS (N 6) t k = -1 then N else if fd (fun i => 0 < N 4 i ∧ N 3 i = valS (N 3) (atS (N 6) t k)) (fun _ => inferInstance) 0 96 = atS (N 6) t k then N else hangS N t k (fd (fun i => 0 < N 4 i ∧ N 3 i = valS (N 3) (atS (N 6) t k)) (fun _ => inferInstance) 0 96)) 8 0 M
def jbS (M : am_M) : am_M := itS (fun t N => if kndS (N 4) (N 5) t = 0 then jb1 t N else N) 160 96 M
theorem S_Po_joinLikeBlocks (d : Nat) (M : am_M) : am_m am_P (d + 8) j_Po_joinLikeBlocks [am_r 2 2] M = some (none, jbS M) := by
  show am_at am_P (d + 7) j_Po_joinLikeBlocks 0 [am_r 2 2, am_u, am_u, am_u, am_u] [] M = _
  rw [E_Po_joinLikeBlocks_0, v_eq]
  refine lp_it (σ := am_M) (F := fun t N => am_at am_P (d + 7) j_Po_joinLikeBlocks 3 [am_r 2 2, am_i t, am_u, am_u, am_u] [] N) (b := fun t N => if kndS (N 4) (N 5) t = 0 then jb1 t N else N) (r := fun N => some (none, N)) 160 96 M (fun s => ?_) (fun t s h1 h2 => ?_)
  · try dsimp only
    rw [E_Po_joinLikeBlocks_3, if_neg (by omega)]
  · try dsimp only
    rw [E_Po_joinLikeBlocks_3, if_pos (by omega), S_Po_kindOf, bI_some]
    by_cases hk : kndS (s 4) (s 5) t = 0
    · rw [if_pos hk, if_pos hk, v_eq]
      refine lp_it (σ := am_M) (F := fun k N => am_at am_P (d + 7) j_Po_joinLikeBlocks 23 [am_r 2 2, am_i t, am_i k, am_u, am_u] [] N) (b := fun k N => if atS (N 6) t k = -1 then N else if fd (fun i => 0 < N 4 i ∧ N 3 i = valS (N 3) (atS (N 6) t k)) (fun _ => inferInstance) 0 96 = atS (N 6) t k then N else hangS N t k (fd (fun i => 0 < N 4 i ∧ N 3 i = valS (N 3) (atS (N 6) t k)) (fun _ => inferInstance) 0 96)) (r := fun N => am_at am_P (d + 7) j_Po_joinLikeBlocks 3 [am_r 2 2, am_i (t + 1), am_u, am_u, am_u] [] N) 8 0 s (fun s => ?_) (fun k s h3 h4 => ?_)
      · try dsimp only
        rw [E_Po_joinLikeBlocks_23, if_neg (by omega), v_eq, wr_id (by omega) (by omega)]
      · try dsimp only
        rw [E_Po_joinLikeBlocks_23, if_pos (by omega), S_Po_at, bI_some, v_eq]
        by_cases h5 : atS (s 6) t k = -1
        · rw [if_pos h5, if_pos h5, v_eq, wr_id (by omega) (by omega)]
        · rw [if_neg h5, if_neg h5, S_Po_valueOf, bI_some, S_Po_leastBlockWith, bI_some, v_eq]
          by_cases h6 : fd (fun i => 0 < s 4 i ∧ s 3 i = valS (s 3) (atS (s 6) t k)) (fun _ => inferInstance) 0 96 = atS (s 6) t k
          · rw [if_pos h6, if_pos h6, v_eq, wr_id (by omega) (by omega)]
          · rw [if_neg h6, if_neg h6, S_Po_hang, bV_some, v_eq, wr_id (by omega) (by omega)]
    · rw [if_neg hk, if_neg hk, v_eq, wr_id (by omega) (by omega)]
def hi1 (t w u : Int) (M : am_M) : am_M := itS (fun k N => if atS (N 6) u k = t then hangS N u k w else N) 8 0 M
def hiS (M : am_M) (t w : Int) : am_M := itS (fun u N => if kndS (N 4) (N 5) u = am_wr (kndS (M 4) (M 5) t + 1) then hi1 t w u N else N) 160 96 M
theorem S_Po_hangInstead (d : Nat) (t w : Int) (M : am_M) : am_m am_P (d + 8) j_Po_hangInstead [am_r 2 2, am_i t, am_i w] M = some (none, hiS M t w) := by
  show am_at am_P (d + 7) j_Po_hangInstead 0 [am_r 2 2, am_i t, am_i w, am_u, am_u, am_u] [] M = _
  rw [E_Po_hangInstead_0, S_Po_kindOf, bI_some, v_eq, v_eq]
  refine lp_it (σ := am_M) (F := fun u N => am_at am_P (d + 7) j_Po_hangInstead 12 [am_r 2 2, am_i t, am_i w, am_i (am_wr (kndS (M 4) (M 5) t + 1)), am_i u, am_u] [] N) (b := fun u N => if kndS (N 4) (N 5) u = am_wr (kndS (M 4) (M 5) t + 1) then hi1 t w u N else N) (r := fun N => some (none, N)) 160 96 M (fun s => ?_) (fun u s h1 h2 => ?_)
  · try dsimp only
    rw [E_Po_hangInstead_12, if_neg (by omega)]
  · try dsimp only
    rw [E_Po_hangInstead_12, if_pos (by omega), S_Po_kindOf, bI_some]
    by_cases hk : kndS (s 4) (s 5) u = am_wr (kndS (M 4) (M 5) t + 1)
    · rw [if_pos hk, if_pos hk, v_eq]
      refine lp_it (σ := am_M) (F := fun k N => am_at am_P (d + 7) j_Po_hangInstead 36 [am_r 2 2, am_i t, am_i w, am_i (am_wr (kndS (M 4) (M 5) t + 1)), am_i u, am_i k] [] N) (b := fun k N => if atS (N 6) u k = t then hangS N u k w else N) (r := fun N => am_at am_P (d + 7) j_Po_hangInstead 12 [am_r 2 2, am_i t, am_i w, am_i (am_wr (kndS (M 4) (M 5) t + 1)), am_i (u + 1), am_u] [] N) 8 0 s (fun s => ?_) (fun k s h3 h4 => ?_)
      · try dsimp only
        rw [E_Po_hangInstead_36, if_neg (by omega), v_eq, wr_id (z := u + 1) (by omega) (by omega)]
      · try dsimp only
        rw [E_Po_hangInstead_36, if_pos (by omega), S_Po_at, bI_some]
        by_cases h5 : atS (s 6) u k = t
        · rw [if_pos h5, if_pos h5, S_Po_hang, bV_some, v_eq, wr_id (z := k + 1) (by omega) (by omega)]
        · rw [if_neg h5, if_neg h5, v_eq, wr_id (z := k + 1) (by omega) (by omega)]
    · rw [if_neg hk, if_neg hk, v_eq, wr_id (z := u + 1) (by omega) (by omega)]
def htS (M : am_M) (t w : Int) : am_M := itS (fun v N => if N 10 v = t then hgTS N v w else N) 12 0 M
theorem S_St_hangTrunkInstead (d : Nat) (t w : Int) (M : am_M) : am_m am_P (d + 8) j_St_hangTrunkInstead [am_r 4 1, am_i t, am_i w] M = some (none, htS M t w) := by
  show am_at am_P (d + 7) j_St_hangTrunkInstead 0 [am_r 4 1, am_i t, am_i w, am_u] [] M = _
  rw [E_St_hangTrunkInstead_0, v_eq]
  refine lp_it (σ := am_M) (F := fun v N => am_at am_P (d + 7) j_St_hangTrunkInstead 2 [am_r 4 1, am_i t, am_i w, am_i v] [] N) (b := fun v N => if N 10 v = t then hgTS N v w else N) (r := fun N => some (none, N)) 12 0 M (fun s => ?_) (fun v s h1 h2 => ?_)
  · try dsimp only
    rw [E_St_hangTrunkInstead_2, if_neg (by omega)]
  · try dsimp only
    rw [E_St_hangTrunkInstead_2, if_pos (by omega), if_t (by omega)]
    simp only [Nat.reduceAdd]
    by_cases h : s 10 v = t
    · rw [if_pos h, if_pos h, S_St_hangTrunk, bV_some, v_eq, wr_id (by omega) (by omega)]
    · rw [if_neg h, if_neg h, v_eq, wr_id (by omega) (by omega)]
def jpS (kd : Int) (M : am_M) : am_M := itS (fun t N => if kndS (N 4) (N 5) t = kd then (if ltS N t = -1 then N else if kd = 2 then htS N t (ltS N t) else hiS N t (ltS N t)) else N) 160 96 M
theorem S_St_joinLikeParts (d : Nat) (kd : Int) (M : am_M) : am_m am_P (d + 9) j_St_joinLikeParts [am_r 4 1, am_i kd] M = some (none, jpS kd M) := by
  show am_at am_P (d + 8) j_St_joinLikeParts 0 [am_r 4 1, am_i kd, am_u, am_u] [] M = _
  rw [E_St_joinLikeParts_0, v_eq]
  refine lp_it (σ := am_M) (F := fun t N => am_at am_P (d + 8) j_St_joinLikeParts 3 [am_r 4 1, am_i kd, am_i t, am_u] [] N) (b := fun t N => if kndS (N 4) (N 5) t = kd then (if ltS N t = -1 then N else if kd = 2 then htS N t (ltS N t) else hiS N t (ltS N t)) else N) (r := fun N => some (none, N)) 160 96 M (fun s => ?_) (fun t s h1 h2 => ?_)
  · try dsimp only
    rw [E_St_joinLikeParts_3, if_neg (by omega)]
  · try dsimp only
    rw [E_St_joinLikeParts_3, if_pos (by omega)]
    simp only [Nat.reduceAdd]
    rw [S_Po_kindOf, bI_some]
    by_cases hk : kndS (s 4) (s 5) t = kd
    · rw [if_pos hk, if_pos hk, S_Po_lesserTwin (d + 5) ⟨by omega, by omega⟩, bI_some, v_eq]
      by_cases hl : ltS s t = -1
      · rw [if_pos hl, if_pos hl, v_eq, wr_id (by omega) (by omega)]
      · rw [if_neg hl, if_neg hl]
        by_cases h2 : kd = 2
        · rw [if_pos h2, if_pos h2, S_St_hangTrunkInstead, bV_some, v_eq, wr_id (by omega) (by omega)]
        · rw [if_neg h2, if_neg h2, S_Po_hangInstead, bV_some, v_eq, wr_id (by omega) (by omega)]
    · rw [if_neg hk, if_neg hk, v_eq, wr_id (by omega) (by omega)]
def inS (M : am_M) (v a kd t : Int) : Int × am_M :=
  if (opS v a kd 3 M (-1)).1 = -1 then (0, (opS v a kd 3 M (-1)).2)
  else (b2 (fmS (hangS (opS v a kd 3 M (-1)).2 (opS v a kd 3 M (-1)).1 (plc a kd) t) v (hangS (opS v a kd 3 M (-1)).2 (opS v a kd 3 M (-1)).1 (plc a kd) t 7 v) 512 = -1), hangS (opS v a kd 3 M (-1)).2 (opS v a kd 3 M (-1)).1 (plc a kd) t)
theorem S_St_insert (d : Nat) {v : Int} (a kd t : Int) (hkd : 0 ≤ kd) (M : am_M) (hv : thS M v) (hs : ∀ N : am_M, N = hangS (opS v a kd 3 M (-1)).2 (opS v a kd 3 M (-1)).1 (plc a kd) t → 0 ≤ N 7 v ∧ N 7 v ≤ 512) : am_m am_P (d + 9) j_St_insert [am_r 4 1, am_i v, am_i a, am_i kd, am_i t] M = some (some (am_i (inS M v a kd t).1), (inS M v a kd t).2) := by
  show am_at am_P (d + 8) j_St_insert 0 [am_r 4 1, am_i v, am_i a, am_i kd, am_i t, am_u] [] M = _
  have a1 : 0 ≤ v ∧ v < 12 := ⟨hv.1, hv.2.1⟩
  have hs := hs _ rfl
  rw [E_St_insert_0, S_St_isThere, bI_some, if_neg (by rw [b2_t hv]; omega), S_St_openTo d v a kd hkd, bI_some, v_eq]
  unfold inS
  by_cases h : (opS v a kd 3 M (-1)).1 = -1
  · rw [if_pos h, if_pos h, if_b0]
  · rw [if_neg h, if_neg h, S_Tv_placeOf, bI_some]
    simp only [Nat.reduceAdd]
    rw [S_Po_hang, bV_some, if_t a1, S_St_firstMapped (d + 5) v _ hs.1 (by omega) (by omega), bI_some]
    by_cases h2 : fmS (hangS (opS v a kd 3 M (-1)).2 (opS v a kd 3 M (-1)).1 (plc a kd) t) v (hangS (opS v a kd 3 M (-1)).2 (opS v a kd 3 M (-1)).1 (plc a kd) t 7 v) 512 = -1
    · rw [if_pos h2, if_to, b2_t h2]
    · rw [if_neg h2, if_ot, b2_f h2]
