/-! THE CLASS, loops that count and search -/
theorem S_Po_leastFree (d : Nat) {a e : Int} (h0 : 0 ≤ a) (h1 : a ≤ e) (h2 : e ≤ 256) (M : am_M) : am_m am_P (d + 1) j_Po_leastFree [am_r 2 2, am_i a, am_i e] M = some (some (am_i (fd (fun i => M 4 i = 0) (fun _ => inferInstance) a (e - a).toNat)), M) := by
  show am_at am_P d j_Po_leastFree 0 [am_r 2 2, am_i a, am_i e, am_u] [] M = _
  rw [E_Po_leastFree_0, v_eq]
  refine lp_fd (F := fun i => am_at am_P d j_Po_leastFree 2 [am_r 2 2, am_u, am_i e, am_i i] [] M) (r := fun i => some (some (am_i i), M)) ?_ ?_
  · try dsimp only
    rw [E_Po_leastFree_2, if_neg (by omega)]
  · intro i hi1 hi2
    try dsimp only
    rw [E_Po_leastFree_2, if_pos (show i < e by omega), if_pos (show i < 256 by omega), if_t (by omega), v_eq, wr_id (by omega) (by omega)]
theorem S_Po_leastBlockWith (d : Nat) (x : Int) (M : am_M) : am_m am_P (d + 1) j_Po_leastBlockWith [am_r 2 2, am_i x] M = some (some (am_i (fd (fun i => 0 < M 4 i ∧ M 3 i = x) (fun _ => inferInstance) 0 96)), M) := by
  show am_at am_P d j_Po_leastBlockWith 0 [am_r 2 2, am_i x, am_u] [] M = _
  rw [E_Po_leastBlockWith_0, v_eq]
  refine lp_fd (F := fun i => am_at am_P d j_Po_leastBlockWith 2 [am_r 2 2, am_i x, am_i i] [] M) (r := fun i => some (some (am_i i), M)) ?_ ?_
  · try dsimp only
    rw [E_Po_leastBlockWith_2, if_neg (by omega)]
  · intro i hi1 hi2
    try dsimp only
    rw [E_Po_leastBlockWith_2, if_pos (show i < 96 by omega), if_t (by omega), if_t (by omega), v_eq, wr_id (by omega) (by omega)]
    simp only [Nat.reduceAdd]
    by_cases h1 : 0 < M 4 i
    · by_cases h2 : M 3 i = x <;> simp [h1, h2]
    · simp [h1]
theorem S_Po_filledPlaces (d : Nat) (t : Int) (M : am_M) : am_m am_P (d + 2) j_Po_filledPlaces [am_r 2 2, am_i t] M = some (some (am_i (sm (fun k => if atS (M 6) t k = -1 then 0 else 1) 8)), M) := by
  show am_at am_P (d + 1) j_Po_filledPlaces 0 [am_r 2 2, am_i t, am_u, am_u] [] M = _
  rw [E_Po_filledPlaces_0, v_eq, v_eq]
  refine lp_sum (F := fun s i => am_at am_P (d + 1) j_Po_filledPlaces 4 [am_r 2 2, am_i t, am_i s, am_i i] [] M) (f := fun k => if atS (M 6) t k = -1 then 0 else 1) (n := 8) ?_ ?_
  · try dsimp only
    rw [E_Po_filledPlaces_4, if_neg (by omega)]
  · intro i hi
    try dsimp only
    have hb := sm_bd (f := fun k => if atS (M 6) t k = -1 then 0 else 1) (c := 1) i (fun k _ => by (try dsimp only); split <;> omega)
    rw [E_Po_filledPlaces_4, if_pos (by omega), S_Po_at, bI_some]
    generalize sm (fun k => if atS (M 6) t k = -1 then 0 else 1) i = s at hb ⊢
    by_cases h : atS (M 6) t i = -1
    · rw [if_pos h, if_pos h, v_eq, wr_id (by omega) (by omega), Int.add_zero]
    · rw [if_neg h, if_neg h, v_eq, v_eq, wr_id (by omega) (by omega), wr_id (by omega) (by omega)]
/-- how many of the first n are not 0 -/
def nz (c : Int → Int) (n : Nat) : Int := sm (fun b => if 0 < c b then 1 else 0) n
theorem nz_bd (c : Int → Int) (n : Nat) : 0 ≤ nz c n ∧ nz c n ≤ n := by
  have := sm_bd (f := fun b => if 0 < c b then 1 else 0) (c := 1) n (fun k _ => by (try dsimp only); split <;> omega)
  unfold nz
  omega
theorem S_Po_usedBlocks (d p : Nat) (M : am_M) : am_m am_P (d + 1) j_Po_usedBlocks [am_r 2 p] M = some (some (am_i (nz (M (p + 2)) 96)), M) := by
  show am_at am_P d j_Po_usedBlocks 0 [am_r 2 p, am_u, am_u] [] M = _
  rw [E_Po_usedBlocks_0, v_eq, v_eq]
  refine lp_sum (F := fun s i => am_at am_P d j_Po_usedBlocks 4 [am_r 2 p, am_i s, am_i i] [] M) (f := fun b => if 0 < M (p + 2) b then 1 else 0) (n := 96) ?_ ?_
  · try dsimp only
    rw [E_Po_usedBlocks_4, if_neg (by omega)]
    rfl
  · intro i hi
    try dsimp only
    have hb := nz_bd (M (p + 2)) i
    unfold nz at hb
    rw [E_Po_usedBlocks_4, if_pos (by omega), if_t (by omega)]
    generalize sm (fun b => if 0 < M (p + 2) b then 1 else 0) i = s at hb ⊢
    by_cases h : 0 < M (p + 2) i
    · rw [if_pos h, if_pos h, v_eq, v_eq, wr_id (by omega) (by omega), wr_id (by omega) (by omega)]
    · rw [if_neg h, if_neg h, v_eq, wr_id (by omega) (by omega), Int.add_zero]
theorem S_Po_usedParts (d p : Nat) (M : am_M) : am_m am_P (d + 1) j_Po_usedParts [am_r 2 p] M = some (some (am_i (nz (fun i => M (p + 2) (i + 96)) 160)), M) := by
  show am_at am_P d j_Po_usedParts 0 [am_r 2 p, am_u, am_u] [] M = _
  rw [E_Po_usedParts_0, v_eq, v_eq]
  have := lp_sum (F := fun s i => am_at am_P d j_Po_usedParts 5 [am_r 2 p, am_i s, am_i (i + 96)] [] M) (f := fun b => if 0 < M (p + 2) (b + 96) then 1 else 0) (n := 160) (r := some (some (am_i (nz (fun i => M (p + 2) (i + 96)) 160)), M)) ?_ ?_
  · simpa using this
  · try dsimp only
    rw [E_Po_usedParts_5, if_neg (by omega)]
    rfl
  · intro i hi
    try dsimp only
    have hb := nz_bd (fun i => M (p + 2) (i + 96)) i
    unfold nz at hb
    rw [E_Po_usedParts_5, if_pos (by omega), if_t (by omega)]
    generalize sm (fun b => if 0 < M (p + 2) (b + 96) then 1 else 0) i = s at hb ⊢
    have e : (i : Int) + 96 + 1 = i + 1 + 96 := by omega
    by_cases h : 0 < M (p + 2) (i + 96)
    · rw [if_pos h, if_pos h, v_eq, v_eq, wr_id (by omega) (by omega), wr_id (by omega) (by omega), e]
    · rw [if_neg h, if_neg h, v_eq, wr_id (by omega) (by omega), Int.add_zero, e]
theorem S_Po_usedLeaves (d : Nat) (M : am_M) : am_m am_P (d + 3) j_Po_usedLeaves [am_r 2 2] M = some (some (am_i (sm (fun i => if kndS (M 4) (M 5) (i + 96) = 0 then 1 else 0) 160)), M) := by
  show am_at am_P (d + 2) j_Po_usedLeaves 0 [am_r 2 2, am_u, am_u] [] M = _
  rw [E_Po_usedLeaves_0, v_eq, v_eq]
  have := lp_sum (F := fun s i => am_at am_P (d + 2) j_Po_usedLeaves 5 [am_r 2 2, am_i s, am_i (i + 96)] [] M) (f := fun i => if kndS (M 4) (M 5) (i + 96) = 0 then 1 else 0) (n := 160) (r := some (some (am_i (sm (fun i => if kndS (M 4) (M 5) (i + 96) = 0 then 1 else 0) 160)), M)) ?_ ?_
  · simpa using this
  · try dsimp only
    rw [E_Po_usedLeaves_5, if_neg (by omega)]
  · intro i hi
    try dsimp only
    have hb := sm_bd (f := fun i => if kndS (M 4) (M 5) (i + 96) = 0 then 1 else 0) (c := 1) i (fun k _ => by (try dsimp only); split <;> omega)
    rw [E_Po_usedLeaves_5, if_pos (by omega), S_Po_kindOf, bI_some]
    generalize sm (fun i => if kndS (M 4) (M 5) (i + 96) = 0 then 1 else 0) i = s at hb ⊢
    have e : (i : Int) + 96 + 1 = i + 1 + 96 := by omega
    by_cases h : kndS (M 4) (M 5) (i + 96) = 0
    · rw [if_pos h, if_pos h, v_eq, v_eq, wr_id (by omega) (by omega), wr_id (by omega) (by omega), e]
    · rw [if_neg h, if_neg h, v_eq, wr_id (by omega) (by omega), Int.add_zero, e]
theorem S_Po_timesIn (d : Nat) (t x : Int) (M : am_M) : am_m am_P (d + 2) j_Po_timesIn [am_r 2 2, am_i t, am_i x] M = some (some (am_i (sm (fun k => if atS (M 6) t k = x then 1 else 0) 8)), M) := by
  show am_at am_P (d + 1) j_Po_timesIn 0 [am_r 2 2, am_i t, am_i x, am_u, am_u] [] M = _
  rw [E_Po_timesIn_0, v_eq, v_eq]
  refine lp_sum (F := fun s i => am_at am_P (d + 1) j_Po_timesIn 5 [am_r 2 2, am_i t, am_i x, am_i s, am_i i] [] M) (f := fun k => if atS (M 6) t k = x then 1 else 0) (n := 8) ?_ ?_
  · try dsimp only
    rw [E_Po_timesIn_5, if_neg (by omega)]
  · intro i hi
    try dsimp only
    have hb := sm_bd (f := fun k => if atS (M 6) t k = x then 1 else 0) (c := 1) i (fun k _ => by (try dsimp only); split <;> omega)
    rw [E_Po_timesIn_5, if_pos (by omega), S_Po_at, bI_some]
    generalize sm (fun k => if atS (M 6) t k = x then 1 else 0) i = s at hb ⊢
    by_cases h : atS (M 6) t i = x
    · rw [if_pos h, if_pos h, v_eq, v_eq, wr_id (by omega) (by omega), wr_id (by omega) (by omega)]
    · rw [if_neg h, if_neg h, v_eq, wr_id (by omega) (by omega), Int.add_zero]
/-- in how many places of a part a thing is -/
def tmS (M : am_M) (t x : Int) : Int := sm (fun k => if atS (M 6) t k = x then 1 else 0) 8
theorem tmS_bd (M : am_M) (t x : Int) : 0 ≤ tmS M t x ∧ tmS M t x ≤ 8 := by
  have := sm_bd (f := fun k => if atS (M 6) t k = x then 1 else 0) (c := 1) 8 (fun k _ => by (try dsimp only); split <;> omega)
  unfold tmS
  omega
theorem S_Po_placesOf (d : Nat) (x : Int) (M : am_M) : am_m am_P (d + 3) j_Po_placesOf [am_r 2 2, am_i x] M = some (some (am_i (sm (fun i => if kndS (M 4) (M 5) (i + 96) = 0 then tmS M (i + 96) x else 0) 160)), M) := by
  show am_at am_P (d + 2) j_Po_placesOf 0 [am_r 2 2, am_i x, am_u, am_u] [] M = _
  rw [E_Po_placesOf_0, v_eq, v_eq]
  have := lp_sum (F := fun s i => am_at am_P (d + 2) j_Po_placesOf 5 [am_r 2 2, am_i x, am_i s, am_i (i + 96)] [] M) (f := fun i => if kndS (M 4) (M 5) (i + 96) = 0 then tmS M (i + 96) x else 0) (n := 160) (r := some (some (am_i (sm (fun i => if kndS (M 4) (M 5) (i + 96) = 0 then tmS M (i + 96) x else 0) 160)), M)) ?_ ?_
  · simpa using this
  · try dsimp only
    rw [E_Po_placesOf_5, if_neg (by omega)]
  · intro i hi
    try dsimp only
    have hb := sm_bd (f := fun i => if kndS (M 4) (M 5) (i + 96) = 0 then tmS M (i + 96) x else 0) (c := 8) i (fun k _ => by have := tmS_bd M (k + 96) x; (try dsimp only); split <;> omega)
    have hq := tmS_bd M (i + 96) x
    rw [E_Po_placesOf_5, if_pos (by omega), S_Po_kindOf, bI_some]
    generalize sm (fun i => if kndS (M 4) (M 5) (i + 96) = 0 then tmS M (i + 96) x else 0) i = s at hb ⊢
    have e : (i : Int) + 96 + 1 = i + 1 + 96 := by omega
    by_cases h : kndS (M 4) (M 5) (i + 96) = 0
    · rw [if_pos h, if_pos h, S_Po_timesIn, bI_some, v_eq, v_eq]
      show am_at am_P (d + 2) j_Po_placesOf 5 [am_r 2 2, am_i x, am_i (am_wr (s + tmS M (i + 96) x)), _] [] M = _
      rw [wr_id (z := s + tmS M (i + 96) x) (by omega) (by omega), wr_id (by omega) (by omega), e]
    · rw [if_neg h, if_neg h, v_eq, wr_id (by omega) (by omega), Int.add_zero, e]
theorem S_Po_leavesWith (d : Nat) (x : Int) (M : am_M) : am_m am_P (d + 3) j_Po_leavesWith [am_r 2 2, am_i x] M = some (some (am_i (sm (fun i => if kndS (M 4) (M 5) (i + 96) = 0 ∧ 0 < tmS M (i + 96) x then 1 else 0) 160)), M) := by
  show am_at am_P (d + 2) j_Po_leavesWith 0 [am_r 2 2, am_i x, am_u, am_u] [] M = _
  rw [E_Po_leavesWith_0, v_eq, v_eq]
  have := lp_sum (F := fun s i => am_at am_P (d + 2) j_Po_leavesWith 5 [am_r 2 2, am_i x, am_i s, am_i (i + 96)] [] M) (f := fun i => if kndS (M 4) (M 5) (i + 96) = 0 ∧ 0 < tmS M (i + 96) x then 1 else 0) (n := 160) (r := some (some (am_i (sm (fun i => if kndS (M 4) (M 5) (i + 96) = 0 ∧ 0 < tmS M (i + 96) x then 1 else 0) 160)), M)) ?_ ?_
  · simpa using this
  · try dsimp only
    rw [E_Po_leavesWith_5, if_neg (by omega)]
  · intro i hi
    try dsimp only
    have hb := sm_bd (f := fun i => if kndS (M 4) (M 5) (i + 96) = 0 ∧ 0 < tmS M (i + 96) x then 1 else 0) (c := 1) i (fun k _ => by (try dsimp only); split <;> omega)
    rw [E_Po_leavesWith_5, if_pos (by omega), S_Po_kindOf, bI_some, S_Po_timesIn, bI_some]
    generalize sm (fun i => if kndS (M 4) (M 5) (i + 96) = 0 ∧ 0 < tmS M (i + 96) x then 1 else 0) i = s at hb ⊢
    have e : (i : Int) + 96 + 1 = i + 1 + 96 := by omega
    have et : sm (fun k => if atS (M 6) ((i : Int) + 96) k = x then 1 else 0) 8 = tmS M (i + 96) x := rfl
    rw [et]
    by_cases h : kndS (M 4) (M 5) (i + 96) = 0
    · by_cases h2 : 0 < tmS M (i + 96) x
      · rw [if_pos h, if_pos h2, if_pos ⟨h, h2⟩, v_eq, v_eq, wr_id (by omega) (by omega), wr_id (by omega) (by omega), e]
      · rw [if_pos h, if_neg h2, if_neg (fun q => h2 q.2), v_eq, wr_id (by omega) (by omega), Int.add_zero, e]
    · rw [if_neg h, if_neg (fun q => h q.1), v_eq, wr_id (by omega) (by omega), Int.add_zero, e]
theorem S_St_volumes (d : Nat) (M : am_M) : am_m am_P (d + 1) j_St_volumes [am_r 4 1] M = some (some (am_i (nz (M 7) 12)), M) := by
  show am_at am_P d j_St_volumes 0 [am_r 4 1, am_u, am_u] [] M = _
  rw [E_St_volumes_0, v_eq, v_eq]
  refine lp_sum (F := fun s i => am_at am_P d j_St_volumes 4 [am_r 4 1, am_i s, am_i i] [] M) (f := fun b => if 0 < M 7 b then 1 else 0) (n := 12) ?_ ?_
  · try dsimp only
    rw [E_St_volumes_4, if_neg (by omega)]
    rfl
  · intro i hi
    try dsimp only
    have hb := nz_bd (M 7) i
    unfold nz at hb
    rw [E_St_volumes_4, if_pos (by omega), if_t (by omega)]
    generalize sm (fun b => if 0 < M 7 b then 1 else 0) i = s at hb ⊢
    simp only [Nat.reduceAdd]
    by_cases h : 0 < M 7 i
    · rw [if_pos h, if_pos h, v_eq, v_eq, wr_id (by omega) (by omega), wr_id (by omega) (by omega)]
    · rw [if_neg h, if_neg h, v_eq, wr_id (by omega) (by omega), Int.add_zero]
theorem S_St_leastFreeVolume (d : Nat) (M : am_M) : am_m am_P (d + 1) j_St_leastFreeVolume [am_r 4 1] M = some (some (am_i (fd (fun i => M 7 i = 0) (fun _ => inferInstance) 0 12)), M) := by
  show am_at am_P d j_St_leastFreeVolume 0 [am_r 4 1, am_u] [] M = _
  rw [E_St_leastFreeVolume_0, v_eq]
  refine lp_fd (F := fun i => am_at am_P d j_St_leastFreeVolume 2 [am_r 4 1, am_i i] [] M) (r := fun i => some (some (am_i i), M)) ?_ ?_
  · try dsimp only
    rw [E_St_leastFreeVolume_2, if_neg (by omega)]
  · intro i hi1 hi2
    try dsimp only
    rw [E_St_leastFreeVolume_2, if_pos (show i < 12 by omega), if_t (by omega), v_eq, wr_id (by omega) (by omega)]
def newBlkS (M : am_M) : Int := fd (fun i => M 4 i = 0) (fun _ => inferInstance) 0 96
theorem S_Po_newBlock (d : Nat) (x : Int) (M : am_M) : am_m am_P (d + 2) j_Po_newBlock [am_r 2 2, am_i x] M = some (some (am_i (newBlkS M)), setValS M (newBlkS M) x) := by
  show am_at am_P (d + 1) j_Po_newBlock 0 [am_r 2 2, am_i x, am_u] [] M = _
  rw [E_Po_newBlock_0, S_Po_leastFree d (by omega) (by omega) (by omega), bI_some, v_eq, S_Po_setValue, bV_some]
  rfl
