/-! THE CLASS: counts together, the most counted, what lies below, twins, volumes' lineage, runs -/
theorem S_Po_countsTogether (d : Nat) (M : am_M) (hc : ∀ i : Nat, i < 96 → 0 ≤ M 4 i ∧ M 4 i ≤ (1000000 : Nat)) : am_m am_P (d + 1) j_Po_countsTogether [am_r 2 2] M = some (some (am_i (sm (M 4) 96)), M) := by
  show am_at am_P d j_Po_countsTogether 0 [am_r 2 2, am_u, am_u] [] M = _
  rw [E_Po_countsTogether_0, v_eq, v_eq]
  refine lp_sum (F := fun s i => am_at am_P d j_Po_countsTogether 4 [am_r 2 2, am_i s, am_i i] [] M) (f := M 4) (n := 96) ?_ ?_
  · try dsimp only
    rw [E_Po_countsTogether_4, if_neg (by omega)]
  · intro i hi
    try dsimp only
    have hb := sm_bd (f := M 4) (c := 1000000) i (fun k hk => hc k (by omega))
    have h1 := hc i hi
    rw [E_Po_countsTogether_4, if_pos (by omega), if_t (by omega), v_eq, v_eq]
    simp only [Nat.reduceAdd]
    generalize sm (M 4) i = s at hb ⊢
    rw [wr_id (z := s + M 4 i) (by omega) (by omega), wr_id (by omega) (by omega)]
/-- the block with the greatest count -/
def mcS (M : am_M) : Int := itS (fun b s => if cntS (M 4) s < M 4 b then b else s) 96 0 (-1)
theorem S_Po_mostCounted (d : Nat) (M : am_M) : am_m am_P (d + 3) j_Po_mostCounted [am_r 2 2] M = some (some (am_i (mcS M)), M) := by
  show am_at am_P (d + 2) j_Po_mostCounted 0 [am_r 2 2, am_u, am_u] [] M = _
  rw [E_Po_mostCounted_0, v_eq, v_eq]
  refine lp_it (σ := Int) (F := fun i s => am_at am_P (d + 2) j_Po_mostCounted 4 [am_r 2 2, am_i s, am_i i] [] M) (b := fun b s => if cntS (M 4) s < M 4 b then b else s) (r := fun s => some (some (am_i s), M)) 96 0 (-1) (fun s => ?_) (fun i s h1 h2 => ?_)
  · try dsimp only
    rw [E_Po_mostCounted_4, if_neg (by omega)]
  · try dsimp only
    rw [E_Po_mostCounted_4, if_pos (by omega), if_t (by omega), S_Po_countOf, bI_some]
    simp only [Nat.reduceAdd]
    by_cases h : cntS (M 4) s < M 4 i
    · rw [if_pos h, if_pos h, v_eq, v_eq, wr_id (by omega) (by omega)]
    · rw [if_neg h, if_neg h, v_eq, wr_id (by omega) (by omega)]
/-- whether a block is below a part of kind n -/
def unS (M : am_M) (x : Int) : Nat → Int → Int
  | 0, t => if t = -1 then 0 else b2 (0 < tmS M t x)
  | n + 1, t => if t = -1 then 0 else b2 (fd (fun k => unS M x n (atS (M 6) t k) ≠ 0) (fun _ => inferInstance) 0 8 ≠ -1)
theorem S_Po_isUnder (d : Nat) (x : Int) (M : am_M) : ∀ (n : Nat), n < 3 → ∀ (t : Int), am_m am_P (d + n + 3) j_Po_isUnder [am_r 2 2, am_i t, am_i (n : Int), am_i x] M = some (some (am_i (unS M x n t)), M)
  | 0, _, t => by
    show am_at am_P (d + 0 + 2) j_Po_isUnder 0 [am_r 2 2, am_i t, am_i ((0 : Nat) : Int), am_i x, am_u] [] M = _
    rw [E_Po_isUnder_0, if_b0]
    unfold unS
    by_cases h : t = -1
    · rw [if_pos h, if_pos h]
    · rw [if_neg h, if_neg h, if_neg (by omega), S_Po_timesIn, bI_some, if_b0, if_b1]
      exact ret_b M
  | n + 1, hn, t => by
    show am_at am_P (d + (n + 1) + 2) j_Po_isUnder 0 [am_r 2 2, am_i t, am_i ((n + 1 : Nat) : Int), am_i x, am_u] [] M = _
    rw [E_Po_isUnder_0, if_b0]
    unfold unS
    by_cases h : t = -1
    · rw [if_pos h, if_pos h]
    · rw [if_neg h, if_neg h, if_pos (by omega), v_eq]
      refine lp_fd (F := fun i => am_at am_P (d + (n + 1) + 2) j_Po_isUnder 29 [am_r 2 2, am_i t, am_i ((n + 1 : Nat) : Int), am_i x, am_i i] [] M) (r := fun i => some (some (am_i (b2 (i ≠ -1))), M)) ?_ ?_
      · try dsimp only
        rw [E_Po_isUnder_29, if_neg (by omega), if_b0, b2_f (by omega)]
      · intro i hi1 hi2
        try dsimp only
        rw [E_Po_isUnder_29, if_pos (by omega), S_Po_at, bI_some, wr_id (z := ((n + 1 : Nat) : Int) - 1) (by omega) (by omega), show ((n + 1 : Nat) : Int) - 1 = (n : Int) by omega]
        rw [show d + (n + 1) + 2 = d + n + 3 by omega, S_Po_isUnder d x M n (by omega), bI_some]
        by_cases hu : unS M x n (atS (M 6) t i) = 0
        · rw [if_pos hu, if_neg (by omega), v_eq, wr_id (by omega) (by omega)]
        · rw [if_neg hu, if_pos hu, if_b1, b2_t (by omega)]
/-- the same in all places -/
abbrev smeS (M : am_M) (s t : Int) : Prop := ∀ k : Nat, k < 8 → atS (M 6) s k = atS (M 6) t k
theorem S_Po_hasSame (d : Nat) (s t : Int) (M : am_M) : am_m am_P (d + 2) j_Po_hasSame [am_r 2 2, am_i s, am_i t] M = some (some (am_i (b2 (smeS M s t))), M) := by
  show am_at am_P (d + 1) j_Po_hasSame 0 [am_r 2 2, am_i s, am_i t, am_u] [] M = _
  rw [E_Po_hasSame_0, v_eq]
  have h := lp_fd (F := fun i => am_at am_P (d + 1) j_Po_hasSame 2 [am_r 2 2, am_i s, am_i t, am_i i] [] M) (p := fun i => ¬ atS (M 6) s i = atS (M 6) t i) (dp := fun _ => inferInstance) (a := 0) (k := 8) (r := fun i => some (some (am_i (b2 (i = -1))), M)) ?_ ?_
  · (try dsimp only at h)
    rw [h]
    have hs := fd_spec (p := fun i => ¬ atS (M 6) s i = atS (M 6) t i) (dp := fun _ => inferInstance) 8 0
    generalize fd (fun i => ¬ atS (M 6) s i = atS (M 6) t i) (fun _ => inferInstance) 0 8 = z at hs ⊢
    rcases hs with ⟨h1, h2⟩ | ⟨h1, h2, h3, h4⟩
    · rw [b2_t h1, b2_t (c := smeS M s t) (fun k hk => Decidable.not_not.mp (h2 k (by omega) (by omega)))]
    · rw [b2_f (by omega), b2_f (fun q => h3 (by have := q z.toNat (by omega); rw [show ((z.toNat : Nat) : Int) = z by omega] at this; exact this))]
  · try dsimp only
    rw [E_Po_hasSame_2, if_neg (by omega), if_b1, b2_t rfl]
  · intro i h1 h2
    try dsimp only
    rw [E_Po_hasSame_2, if_pos (by omega), S_Po_at, bI_some, S_Po_at, bI_some]
    by_cases he : atS (M 6) s i = atS (M 6) t i
    · rw [if_pos he, if_neg (fun q => q he), v_eq, wr_id (by omega) (by omega)]
    · rw [if_neg he, if_pos he, if_b0, b2_f (by omega)]
/-- the least part of the same kind, with a lesser number, with the same in all places -/
def ltS (M : am_M) (t : Int) : Int := fd (fun i => kndS (M 4) (M 5) i = kndS (M 4) (M 5) t ∧ smeS M i t) (fun _ => inferInstance) 96 (t - 96).toNat
theorem S_Po_lesserTwin (d : Nat) {t : Int} (ht : 96 ≤ t ∧ t < 256) (M : am_M) : am_m am_P (d + 3) j_Po_lesserTwin [am_r 2 2, am_i t] M = some (some (am_i (ltS M t)), M) := by
  show am_at am_P (d + 2) j_Po_lesserTwin 0 [am_r 2 2, am_i t, am_u] [] M = _
  rw [E_Po_lesserTwin_0, v_eq]
  refine lp_fd (F := fun i => am_at am_P (d + 2) j_Po_lesserTwin 3 [am_r 2 2, am_i t, am_i i] [] M) (r := fun i => some (some (am_i i), M)) ?_ ?_
  · try dsimp only
    rw [E_Po_lesserTwin_3, if_neg (by omega)]
  · intro i h1 h2
    try dsimp only
    rw [E_Po_lesserTwin_3, if_pos (show i < t by omega), S_Po_kindOf, bI_some, S_Po_kindOf, bI_some, S_Po_hasSame, bI_some, v_eq, wr_id (by omega) (by omega)]
    by_cases hk : kndS (M 4) (M 5) i = kndS (M 4) (M 5) t
    · by_cases hs : smeS M i t
      · rw [if_pos hk, if_neg (by rw [b2_t hs]; omega), if_pos ⟨hk, hs⟩]
      · rw [if_pos hk, if_pos (b2_f hs), if_neg (fun q => hs q.2)]
    · rw [if_neg hk, if_neg (fun q => hk q.1)]
abbrev prS (M : am_M) (v : Int) : Prop := thS M v ∧ M 9 v ≠ 0 ∧ M 12 v = 0
theorem S_St_isPrunable (d : Nat) (v : Int) (M : am_M) : am_m am_P (d + 2) j_St_isPrunable [am_r 4 1, am_i v] M = some (some (am_i (b2 (prS M v))), M) := by
  show am_at am_P (d + 1) j_St_isPrunable 0 [am_r 4 1, am_i v] [] M = _
  rw [E_St_isPrunable_0, S_St_isThere, bI_some, if_b0, if_b1]
  simp only [Nat.reduceAdd]
  by_cases hv : thS M v
  · rw [if_neg (by rw [b2_t hv]; omega), if_t (by have := hv.1; have := hv.2.1; omega), if_t (by have := hv.1; have := hv.2.1; omega)]
    by_cases h1 : M 9 v = 0
    · rw [if_pos h1, b2_f (fun q => q.2.1 h1)]
    · rw [if_neg h1]
      by_cases h2 : M 12 v = 0
      · rw [if_pos h2, b2_t ⟨hv, h1, h2⟩]
      · rw [if_neg h2, b2_f (fun q => h2 q.2.2)]
  · rw [if_pos (b2_f hv), b2_f (fun q => hv q.1)]
def paS (M : am_M) (v : Int) : Int := sm (fun w => if prS M w ∧ M 14 v < M 14 w then 1 else 0) 12
theorem S_St_prunableAfter (d : Nat) {v : Int} (M : am_M) (hv : thS M v) : am_m am_P (d + 3) j_St_prunableAfter [am_r 4 1, am_i v] M = some (some (am_i (paS M v)), M) := by
  show am_at am_P (d + 2) j_St_prunableAfter 0 [am_r 4 1, am_i v, am_u, am_u] [] M = _
  rw [E_St_prunableAfter_0, v_eq, v_eq]
  refine lp_sum (F := fun s i => am_at am_P (d + 2) j_St_prunableAfter 4 [am_r 4 1, am_i v, am_i s, am_i i] [] M) (f := fun w => if prS M w ∧ M 14 v < M 14 w then 1 else 0) (n := 12) ?_ ?_
  · try dsimp only
    rw [E_St_prunableAfter_4, if_neg (by omega)]
    rfl
  · intro i hi
    try dsimp only
    have hb := sm_bd (f := fun w => if prS M w ∧ M 14 v < M 14 w then 1 else 0) (c := 1) i (fun k _ => by (try dsimp only); split <;> omega)
    rw [E_St_prunableAfter_4, if_pos (by omega), S_St_isPrunable, bI_some, S_St_isThere, bI_some]
    simp only [Nat.reduceAdd]
    generalize sm (fun w => if prS M w ∧ M 14 v < M 14 w then 1 else 0) i = s at hb ⊢
    by_cases hp : prS M i
    · rw [if_neg (by rw [b2_t hp]; omega), if_neg (by rw [b2_t hv]; omega), if_t (by omega), if_t (by have := hv.1; have := hv.2.1; omega)]
      by_cases hl : M 14 v < M 14 i
      · rw [if_pos hl, if_pos ⟨hp, hl⟩, v_eq, v_eq, wr_id (by omega) (by omega), wr_id (by omega) (by omega)]
      · rw [if_neg hl, if_neg (fun q => hl q.2), v_eq, wr_id (by omega) (by omega), Int.add_zero]
    · rw [if_pos (b2_f hp), if_neg (fun q => hp q.1), v_eq, wr_id (by omega) (by omega), Int.add_zero]
def exS (M : am_M) (v w : Int) : am_M := am_set (am_set (am_set (am_set M 10 v (M 10 w)) 7 v (M 7 w)) 10 w (M 10 v)) 7 w (M 7 v)
theorem S_St_exchange (d : Nat) {v w : Int} (M : am_M) (hv : thS M v) (hw : thS M w) : am_m am_P (d + 2) j_St_exchange [am_r 4 1, am_i v, am_i w] M = some (none, exS M v w) := by
  show am_at am_P (d + 1) j_St_exchange 0 [am_r 4 1, am_i v, am_i w, am_u, am_u] [] M = _
  have a1 : 0 ≤ v ∧ v < 12 := ⟨hv.1, hv.2.1⟩
  have a2 : 0 ≤ w ∧ w < 12 := ⟨hw.1, hw.2.1⟩
  rw [E_St_exchange_0, S_St_isThere, bI_some, if_neg (by rw [b2_t hv]; omega), S_St_isThere, bI_some, if_neg (by rw [b2_t hw]; omega)]
  rw [if_t a1, v_eq, if_t a1, v_eq, if_t a2, if_t a1, w_eq, if_t a2, if_t a1, w_eq, if_t a2, w_eq, if_t a2, w_eq]
  simp only [Nat.reduceAdd]
  rw [set_ne _ _ _ (show (7 : Nat) ≠ 10 by decide)]
  rfl
def avS (M : am_M) (v sz q : Int) : am_M := am_set (am_set (am_set (am_set (am_set (am_set (am_set (am_set (am_set M 7 v sz) 8 v q) 9 v 0) 10 v (-1)) 11 v 0) 12 v 0) 13 v (-1)) 14 v (M 1 10)) 1 10 (am_wr (M 1 10 + 1))
theorem S_St_addVolume (d : Nat) {v : Int} (hv : 0 ≤ v ∧ v < 12) (sz q : Int) (M : am_M) : am_m am_P (d + 1) j_St_addVolume [am_r 4 1, am_i v, am_i sz, am_i q] M = some (none, avS M v sz q) := by
  show am_at am_P d j_St_addVolume 0 [am_r 4 1, am_i v, am_i sz, am_i q] [] M = _
  rw [E_St_addVolume_0, if_neg (by omega), if_pos hv.2, if_t hv, w_eq, if_t hv, w_eq, if_t ⟨hv, Or.inl rfl⟩, w_eq, if_t hv, w_eq, if_t hv, w_eq, if_t hv, w_eq, if_t hv, w_eq, if_t hv, w_eq, w_eq]
  simp only [Nat.reduceAdd]
  rfl
/-- the children of a volume that goes hang from its parent -/
def chS (v : Int) (M : am_M) : am_M := itS (fun w N => if 0 < N 7 w ∧ N 13 w = v then am_set N 13 w (N 13 v) else N) 12 0 M
def rvS (M : am_M) (v : Int) : Int × am_M := ((LG 4 4 M (M 10 v)).1, am_set (am_set (chS v (LG 4 4 M (M 10 v)).2) 10 v (-1)) 7 v 0)
theorem S_St_removeVolume (d : Nat) {v : Int} (M : am_M) (hv : thS M v) : am_m am_P (d + 7) j_St_removeVolume [am_r 4 1, am_i v] M = some (some (am_i (rvS M v).1), (rvS M v).2) := by
  show am_at am_P (d + 6) j_St_removeVolume 0 [am_r 4 1, am_i v, am_u, am_u] [] M = _
  have a1 : 0 ≤ v ∧ v < 12 := ⟨hv.1, hv.2.1⟩
  rw [E_St_removeVolume_0, S_St_isThere, bI_some, if_neg (by rw [b2_t hv]; omega), if_t a1]
  simp only [Nat.reduceAdd]
  rw [S_letGo3, bI_some, v_eq, v_eq]
  unfold rvS chS
  (try dsimp only)
  refine lp_it (σ := am_M) (F := fun i N => am_at am_P (d + 6) j_St_removeVolume 34 [am_r 4 1, am_i v, am_i (LG 4 4 M (M 10 v)).1, am_i i] [] N) (b := fun w N => if 0 < N 7 w ∧ N 13 w = v then am_set N 13 w (N 13 v) else N) (r := fun N => some (some (am_i (LG 4 4 M (M 10 v)).1), am_set (am_set N 10 v (-1)) 7 v 0)) 12 0 (LG 4 4 M (M 10 v)).2 (fun s => ?_) (fun i s h1 h2 => ?_)
  · try dsimp only
    rw [E_St_removeVolume_34, if_neg (by omega), if_t a1, w_eq, if_t a1, w_eq]
  · try dsimp only
    rw [E_St_removeVolume_34, if_pos (by omega), if_t (by omega), if_t (by omega), if_t a1, if_t (by omega), w_eq, v_eq, wr_id (by omega) (by omega)]
    simp only [Nat.reduceAdd]
    by_cases h1 : 0 < s 7 i
    · by_cases h2 : s 13 i = v
      · rw [if_pos h1, if_pos h2, if_pos ⟨h1, h2⟩]
      · rw [if_pos h1, if_neg h2, if_neg (fun q => h2 q.2), v_eq]
    · rw [if_neg h1, if_neg (fun q => h1 q.1), v_eq]
