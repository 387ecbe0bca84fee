/-! THE REFERENCE, leaf methods (its object 504, its row 505) -/
theorem S_Md_isIn (d : Nat) (v a b : Int) (M : am_M) : am_m am_P (d + 1) j_Md_isIn [am_i v, am_i a, am_i b] M = some (some (am_i (b2 (a ≤ v ∧ v ≤ b))), M) := by
  show am_at am_P d j_Md_isIn 0 [am_i v, am_i a, am_i b] [] M = _
  rw [E_Md_isIn_0]; simp only [if_ot, if_to]
  refine b2_case (fun hc => ?_) (fun hc => ?_) <;> (try unfold am_if)
  all_goals repeat' split
  all_goals first | rfl | (exfalso; omega)
theorem S_Md_valueOf (d : Nat) {b : Int} (h : 0 ≤ b ∧ b < 96) (M : am_M) : am_m am_P (d + 1) j_Md_valueOf [am_r 6 504, am_i b] M = some (some (am_i (M 505 (4 + 2 * b))), M) := by
  show am_at am_P d j_Md_valueOf 0 [am_r 6 504, am_i b] [] M = _
  rw [E_Md_valueOf_0, wr_id (z := 2 * b) (by omega) (by omega), wr_id (z := 4 + 2 * b) (by omega) (by omega), if_t (by omega)]
theorem S_Md_blockCount (d : Nat) {b : Int} (h : 0 ≤ b ∧ b < 96) (M : am_M) : am_m am_P (d + 1) j_Md_blockCount [am_r 6 504, am_i b] M = some (some (am_i (M 505 (5 + 2 * b))), M) := by
  show am_at am_P d j_Md_blockCount 0 [am_r 6 504, am_i b] [] M = _
  rw [E_Md_blockCount_0, wr_id (z := 2 * b) (by omega) (by omega), wr_id (z := 4 + 2 * b) (by omega) (by omega), wr_id (z := 4 + 2 * b + 1) (by omega) (by omega), if_t (by omega), show 4 + 2 * b + 1 = 5 + 2 * b by omega]
theorem S_Md_letBlock (d : Nat) {b : Int} (h : 0 ≤ b ∧ b < 96) (x c : Int) (M : am_M) : am_m am_P (d + 1) j_Md_letBlock [am_r 6 504, am_i b, am_i x, am_i c] M = some (none, am_st M 505 (am_up (am_up (M 505) (4 + 2 * b) x) (5 + 2 * b) c)) := by
  show am_at am_P d j_Md_letBlock 0 [am_r 6 504, am_i b, am_i x, am_i c] [] M = _
  rw [E_Md_letBlock_0, wr_id (z := 2 * b) (by omega) (by omega), wr_id (z := 4 + 2 * b) (by omega) (by omega), wr_id (z := 4 + 2 * b + 1) (by omega) (by omega), if_t (by omega), w_eq, if_t (by omega), w_eq, show 4 + 2 * b + 1 = 5 + 2 * b by omega]
  simp only [Nat.reduceAdd]
  unfold am_set
  rw [st_eq, st_st]
theorem S_Md_isBlock (d : Nat) (b : Int) (M : am_M) : am_m am_P (d + 2) j_Md_isBlock [am_r 6 504, am_i b] M = some (some (am_i (b2 (0 ≤ b ∧ b < 96 ∧ ¬ M 505 (5 + 2 * b) = 0))), M) := by
  show am_at am_P (d + 1) j_Md_isBlock 0 [am_r 6 504, am_i b] [] M = _
  rw [E_Md_isBlock_0, S_Md_isIn, bI_some]; simp only [if_ot, if_to, b2_0]
  by_cases h : 0 ≤ b ∧ b ≤ 95
  · rw [if_neg (fun q => q h), S_Md_blockCount d (by omega), bI_some]
    by_cases h2 : M 505 (5 + 2 * b) = 0
    · rw [if_pos h2, b2_f (fun q => q.2.2 h2)]
    · rw [if_neg h2, b2_t ⟨by omega, by omega, h2⟩]
  · rw [if_pos h, b2_f (by omega)]
theorem S_Md_kindOf (d : Nat) {p : Int} (h : 0 ≤ p ∧ p < 160) (M : am_M) : am_m am_P (d + 1) j_Md_kindOf [am_r 6 504, am_i p] M = some (some (am_i (M 505 (196 + 10 * p))), M) := by
  show am_at am_P d j_Md_kindOf 0 [am_r 6 504, am_i p] [] M = _
  rw [E_Md_kindOf_0, wr_id (z := 10 * p) (by omega) (by omega), wr_id (z := 196 + 10 * p) (by omega) (by omega), if_t (by omega)]
theorem S_Md_partCount (d : Nat) {p : Int} (h : 0 ≤ p ∧ p < 160) (M : am_M) : am_m am_P (d + 1) j_Md_partCount [am_r 6 504, am_i p] M = some (some (am_i (M 505 (197 + 10 * p))), M) := by
  show am_at am_P d j_Md_partCount 0 [am_r 6 504, am_i p] [] M = _
  rw [E_Md_partCount_0, wr_id (z := 10 * p) (by omega) (by omega), wr_id (z := 196 + 10 * p) (by omega) (by omega), wr_id (z := 196 + 10 * p + 1) (by omega) (by omega), if_t (by omega), show 196 + 10 * p + 1 = 197 + 10 * p by omega]
theorem S_Md_letPart (d : Nat) {p : Int} (h : 0 ≤ p ∧ p < 160) (c : Int) (M : am_M) : am_m am_P (d + 1) j_Md_letPart [am_r 6 504, am_i p, am_i c] M = some (none, am_set M 505 (197 + 10 * p) c) := by
  show am_at am_P d j_Md_letPart 0 [am_r 6 504, am_i p, am_i c] [] M = _
  rw [E_Md_letPart_0, wr_id (z := 10 * p) (by omega) (by omega), wr_id (z := 196 + 10 * p) (by omega) (by omega), wr_id (z := 196 + 10 * p + 1) (by omega) (by omega), if_t (by omega), w_eq, show 196 + 10 * p + 1 = 197 + 10 * p by omega]
theorem S_Md_isPart (d : Nat) (p : Int) (M : am_M) : am_m am_P (d + 2) j_Md_isPart [am_r 6 504, am_i p] M = some (some (am_i (b2 (0 ≤ p ∧ p < 160 ∧ ¬ M 505 (197 + 10 * p) = 0))), M) := by
  show am_at am_P (d + 1) j_Md_isPart 0 [am_r 6 504, am_i p] [] M = _
  rw [E_Md_isPart_0, S_Md_isIn, bI_some]; simp only [if_ot, if_to, b2_0]
  by_cases h : 0 ≤ p ∧ p ≤ 159
  · rw [if_neg (fun q => q h), S_Md_partCount d (by omega), bI_some]
    by_cases h2 : M 505 (197 + 10 * p) = 0
    · rw [if_pos h2, b2_f (fun q => q.2.2 h2)]
    · rw [if_neg h2, b2_t ⟨by omega, by omega, h2⟩]
  · rw [if_pos h, b2_f (by omega)]
theorem S_Md_placeOf (d : Nat) {p k : Int} (h : 0 ≤ p ∧ p < 160) (hk : 0 ≤ k ∧ k < 8) (M : am_M) : am_m am_P (d + 1) j_Md_placeOf [am_r 6 504, am_i p, am_i k] M = some (some (am_i (M 505 (198 + 10 * p + k))), M) := by
  show am_at am_P d j_Md_placeOf 0 [am_r 6 504, am_i p, am_i k] [] M = _
  rw [E_Md_placeOf_0, wr_id (z := 10 * p) (by omega) (by omega), wr_id (z := 196 + 10 * p) (by omega) (by omega), wr_id (z := 196 + 10 * p + 2) (by omega) (by omega), wr_id (z := 196 + 10 * p + 2 + k) (by omega) (by omega), if_t (by omega), show 196 + 10 * p + 2 + k = 198 + 10 * p + k by omega]
theorem S_Md_letPlace (d : Nat) {p k : Int} (h : 0 ≤ p ∧ p < 160) (hk : 0 ≤ k ∧ k < 8) (x : Int) (M : am_M) : am_m am_P (d + 1) j_Md_letPlace [am_r 6 504, am_i p, am_i k, am_i x] M = some (none, am_set M 505 (198 + 10 * p + k) x) := by
  show am_at am_P d j_Md_letPlace 0 [am_r 6 504, am_i p, am_i k, am_i x] [] M = _
  rw [E_Md_letPlace_0, wr_id (z := 10 * p) (by omega) (by omega), wr_id (z := 196 + 10 * p) (by omega) (by omega), wr_id (z := 196 + 10 * p + 2) (by omega) (by omega), wr_id (z := 196 + 10 * p + 2 + k) (by omega) (by omega), if_t (by omega), w_eq, show 196 + 10 * p + 2 + k = 198 + 10 * p + k by omega]
theorem S_Md_get (d : Nat) {v w : Int} (h : 0 ≤ v ∧ v < 12) (hw : 0 ≤ w ∧ w < 9) (M : am_M) : am_m am_P (d + 1) j_Md_get [am_r 6 504, am_i v, am_i w] M = some (some (am_i (M 505 (1796 + 9 * v + w))), M) := by
  show am_at am_P d j_Md_get 0 [am_r 6 504, am_i v, am_i w] [] M = _
  rw [E_Md_get_0, wr_id (z := 9 * v) (by omega) (by omega), wr_id (z := 1796 + 9 * v) (by omega) (by omega), wr_id (z := 1796 + 9 * v + w) (by omega) (by omega), if_t (by omega)]
theorem S_Md_let (d : Nat) {v w : Int} (h : 0 ≤ v ∧ v < 12) (hw : 0 ≤ w ∧ w < 9) (x : Int) (M : am_M) : am_m am_P (d + 1) j_Md_let [am_r 6 504, am_i v, am_i w, am_i x] M = some (none, am_set M 505 (1796 + 9 * v + w) x) := by
  show am_at am_P d j_Md_let 0 [am_r 6 504, am_i v, am_i w, am_i x] [] M = _
  rw [E_Md_let_0, wr_id (z := 9 * v) (by omega) (by omega), wr_id (z := 1796 + 9 * v) (by omega) (by omega), wr_id (z := 1796 + 9 * v + w) (by omega) (by omega), if_t (by omega), w_eq]
/-- the volume is there, as the reference has it -/
abbrev thR (A : Int → Int) (v : Int) : Prop := 0 ≤ v ∧ v < 12 ∧ A (1796 + 9 * v) = 1
theorem S_Md_isVolume (d : Nat) (v : Int) (M : am_M) : am_m am_P (d + 2) j_Md_isVolume [am_r 6 504, am_i v] M = some (some (am_i (b2 (thR (M 505) v))), M) := by
  show am_at am_P (d + 1) j_Md_isVolume 0 [am_r 6 504, am_i v] [] M = _
  rw [E_Md_isVolume_0, S_Md_isIn, bI_some]; simp only [if_ot, if_to, b2_0]
  by_cases h : 0 ≤ v ∧ v ≤ 11
  · rw [if_neg (fun q => q h), S_Md_get d (by omega) (by omega), bI_some, Int.add_zero]
    by_cases h2 : M 505 (1796 + 9 * v) = 1
    · rw [if_pos h2, b2_t ⟨by omega, by omega, h2⟩]
    · rw [if_neg h2, b2_f (fun q => h2 q.2.2)]
  · rw [if_pos h, b2_f (fun q => h ⟨q.1, by omega⟩)]
theorem S_Md_stepIn (d : Nat) {a k : Int} (ha : 0 ≤ a ∧ a < 512) (hk : 0 ≤ k ∧ k < 3) (M : am_M) : am_m am_P (d + 1) j_Md_stepIn [am_i a, am_i k] M = some (some (am_i (plc a k)), M) := by
  show am_at am_P d j_Md_stepIn 0 [am_i a, am_i k] [] M = _
  rw [E_Md_stepIn_0]
  rcases (show k = 0 ∨ k = 1 ∨ k = 2 by omega) with rfl | rfl | rfl
  · rw [if_neg (by omega), if_neg (by omega), if_t (by omega), am_rem8 ha.1 (by omega), plc_0 ha.1 (by omega)]
  · rw [if_neg (by omega), if_pos rfl, if_t (by omega), if_t (by omega), am_div8 ha.1 (by omega), am_rem8 (by omega) (by omega), plc_1 ha.1 (by omega)]
  · rw [if_pos rfl, if_t (by omega), am_div64 ha.1 (by omega), plc_2 ha.1 (by omega), show a / 64 % 8 = a / 64 by omega]
theorem S_Md_isAddress (d : Nat) (v a : Int) (M : am_M) (hs : thR (M 505) v → 0 < M 505 (1797 + 9 * v) ∧ M 505 (1797 + 9 * v) ≤ 512) : am_m am_P (d + 3) j_Md_isAddress [am_r 6 504, am_i v, am_i a] M = some (some (am_i (b2 (thR (M 505) v ∧ 0 ≤ a ∧ a < M 505 (1797 + 9 * v)))), M) := by
  show am_at am_P (d + 2) j_Md_isAddress 0 [am_r 6 504, am_i v, am_i a] [] M = _
  rw [E_Md_isAddress_0, S_Md_isVolume, bI_some]; simp only [if_ot, if_to, b2_0]
  by_cases h : thR (M 505) v
  · have := hs h
    rw [if_neg (fun q => q h), S_Md_get (d + 1) ⟨h.1, h.2.1⟩ (by omega), bI_some, show 1796 + 9 * v + 1 = 1797 + 9 * v by omega, wr_id (z := M 505 (1797 + 9 * v) - 1) (by omega) (by omega), S_Md_isIn, bI_some]
    simp only [b2_0]
    by_cases h2 : 0 ≤ a ∧ a ≤ M 505 (1797 + 9 * v) - 1
    · rw [if_neg (fun q => q h2), b2_t ⟨h, by omega, by omega⟩]
    · rw [if_pos h2, b2_f (fun q => h2 ⟨q.2.1, by omega⟩)]
  · rw [if_pos h, b2_f (fun q => h q.1)]
theorem S_Md_blocks (d : Nat) (M : am_M) : am_m am_P (d + 2) j_Md_blocks [am_r 6 504] M = some (some (am_i (sm (fun b => if M 505 (5 + 2 * b) = 0 then 0 else 1) 96)), M) := by
  show am_at am_P (d + 1) j_Md_blocks 0 [am_r 6 504, am_u, am_u] [] M = _
  rw [E_Md_blocks_0, v_eq, v_eq]
  refine lp_sum (F := fun s i => am_at am_P (d + 1) j_Md_blocks 4 [am_r 6 504, am_i s, am_i i] [] M) (f := fun b => if M 505 (5 + 2 * b) = 0 then 0 else 1) (n := 96) ?_ ?_
  · try dsimp only
    rw [E_Md_blocks_4, if_neg (by omega)]
  · intro i hi
    try dsimp only
    have hb := sm_bd (f := fun b => if M 505 (5 + 2 * b) = 0 then 0 else 1) (c := 1) i (fun k _ => by (try dsimp only); split <;> omega)
    rw [E_Md_blocks_4, if_pos (by omega), S_Md_blockCount d (by omega), bI_some]
    generalize sm (fun b => if M 505 (5 + 2 * b) = 0 then 0 else 1) i = s at hb ⊢
    by_cases h : M 505 (5 + 2 * (i : Int)) = 0
    · rw [if_pos h, if_pos h, v_eq, v_eq, wr_id (by omega) (by omega), wr_id (by omega) (by omega)]
    · rw [if_neg h, if_neg h, v_eq, v_eq, wr_id (by omega) (by omega), wr_id (by omega) (by omega)]
theorem S_Md_partsOf (d : Nat) (kd : Int) (M : am_M) : am_m am_P (d + 2) j_Md_partsOf [am_r 6 504, am_i kd] M = some (some (am_i (sm (fun p => if ¬ M 505 (197 + 10 * p) = 0 ∧ (kd = -1 ∨ M 505 (196 + 10 * p) = kd) then 1 else 0) 160)), M) := by
  show am_at am_P (d + 1) j_Md_partsOf 0 [am_r 6 504, am_i kd, am_u, am_u] [] M = _
  rw [E_Md_partsOf_0, v_eq, v_eq]
  refine lp_sum (F := fun s i => am_at am_P (d + 1) j_Md_partsOf 4 [am_r 6 504, am_i kd, am_i s, am_i i] [] M) (f := fun p => if ¬ M 505 (197 + 10 * p) = 0 ∧ (kd = -1 ∨ M 505 (196 + 10 * p) = kd) then 1 else 0) (n := 160) ?_ ?_
  · try dsimp only
    rw [E_Md_partsOf_4, if_neg (by omega)]
  · intro i hi
    try dsimp only
    have hb := sm_bd (f := fun p => if ¬ M 505 (197 + 10 * p) = 0 ∧ (kd = -1 ∨ M 505 (196 + 10 * p) = kd) then 1 else 0) (c := 1) i (fun k _ => by (try dsimp only); split <;> omega)
    rw [E_Md_partsOf_4, if_pos (by omega), S_Md_partCount d (by omega), bI_some]
    generalize sm (fun p => if ¬ M 505 (197 + 10 * p) = 0 ∧ (kd = -1 ∨ M 505 (196 + 10 * p) = kd) then 1 else 0) i = s at hb ⊢
    by_cases h : M 505 (197 + 10 * (i : Int)) = 0
    · rw [if_pos h, if_neg (fun q => q.1 h), v_eq, v_eq, wr_id (by omega) (by omega), wr_id (by omega) (by omega)]
    · rw [if_neg h]
      by_cases h1 : kd = -1
      · rw [if_pos h1, if_pos ⟨h, Or.inl h1⟩, v_eq, v_eq, wr_id (by omega) (by omega), wr_id (by omega) (by omega)]
      · rw [if_neg h1, S_Md_kindOf d (by omega), bI_some]
        by_cases h2 : M 505 (196 + 10 * (i : Int)) = kd
        · rw [if_pos h2, if_pos ⟨h, Or.inr h2⟩, v_eq, v_eq, wr_id (by omega) (by omega), wr_id (by omega) (by omega)]
        · rw [if_neg h2, if_neg (fun q => q.2.elim h1 h2), v_eq, v_eq, wr_id (by omega) (by omega), wr_id (by omega) (by omega)]
