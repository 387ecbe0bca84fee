/-! THE CLASS, leaf methods: what they answer, at the state 'now' (State 1, Pool 2) -/
def b2 (c : Prop) [Decidable c] : Int := if c then 1 else 0
theorem b2_t {c : Prop} [Decidable c] (h : c) : b2 c = 1 := if_pos h
theorem b2_f {c : Prop} [Decidable c] (h : ¬ c) : b2 c = 0 := if_neg h
theorem b2_0 {c : Prop} [Decidable c] : (b2 c = 0) = ¬ c := by
  unfold b2; by_cases h : c <;> simp [h]
theorem b2_1 {c : Prop} [Decidable c] : (b2 c = 1) = c := by
  unfold b2; by_cases h : c <;> simp [h]
theorem b2_01 {c : Prop} [Decidable c] : b2 c = 0 ∨ b2 c = 1 := by
  unfold b2; by_cases h : c <;> simp [h]
theorem if_b0 (x : Option am_O) : am_if ((0 : Int) = 0 ∨ (0 : Int) = 1) x = x := if_pos (Or.inl rfl)
theorem if_b1 (x : Option am_O) : am_if ((1 : Int) = 0 ∨ (1 : Int) = 1) x = x := if_pos (Or.inr rfl)
theorem if_ot {c : Prop} [Decidable (True ∨ c)] (x : Option am_O) : am_if (True ∨ c) x = x := if_pos (Or.inl trivial)
theorem if_to {c : Prop} [Decidable (c ∨ True)] (x : Option am_O) : am_if (c ∨ True) x = x := if_pos (Or.inr trivial)
theorem if_b2 {c : Prop} [Decidable c] (x : Option am_O) : am_if (b2 c = 0 ∨ b2 c = 1) x = x := if_pos b2_01
theorem ret_b {c : Prop} [Decidable c] (M : am_M) : (if c then (some (some (am_i 1), M) : Option am_O) else some (some (am_i 0), M)) = some (some (am_i (b2 c)), M) := by
  unfold b2; by_cases h : c <;> simp [h]
theorem b2_case {c : Prop} [Decidable c] {X : Option am_O} {M : am_M} (h1 : c → X = some (some (am_i 1), M)) (h0 : ¬ c → X = some (some (am_i 0), M)) : X = some (some (am_i (b2 c)), M) := by
  by_cases h : c
  · rw [b2_t h]; exact h1 h
  · rw [b2_f h]; exact h0 h
def atS (pl : Int → Int) (t k : Int) : Int := if 96 ≤ t ∧ t < 256 ∧ 0 ≤ k ∧ k < 8 then pl ((t - 96) * 8 + k) else -1
def cntS (c : Int → Int) (t : Int) : Int := if 0 ≤ t ∧ t < 256 then c t else 0
def valS (v : Int → Int) (b : Int) : Int := if 0 ≤ b ∧ b < 96 then v b else 0
def kndS (c kd : Int → Int) (t : Int) : Int := if 96 ≤ t ∧ t < 256 ∧ 0 < c t then kd (t - 96) else -1
theorem S_Tv_isSize (d : Nat) (z : Int) (M : am_M) : am_m am_P (d + 1) j_Tv_isSize [am_i z] M = some (some (am_i (b2 (1 ≤ z ∧ z ≤ 512))), M) := by
  show am_at am_P d j_Tv_isSize 0 [am_i z] [] M = _
  rw [E_Tv_isSize_0]; simp only [if_ot, if_to]
  refine b2_case (fun hc => ?_) (fun hc => ?_) <;> (try unfold am_if)
  all_goals repeat' split
  all_goals first | rfl | (exfalso; omega)
theorem S_Tv_isQuota (d : Nat) (z : Int) (M : am_M) : am_m am_P (d + 1) j_Tv_isQuota [am_i z] M = some (some (am_i (b2 (0 ≤ z ∧ z ≤ 512))), M) := by
  show am_at am_P d j_Tv_isQuota 0 [am_i z] [] M = _
  rw [E_Tv_isQuota_0]; simp only [if_ot, if_to]
  refine b2_case (fun hc => ?_) (fun hc => ?_) <;> (try unfold am_if)
  all_goals repeat' split
  all_goals first | rfl | (exfalso; omega)
theorem S_Tv_isValue (d : Nat) (z : Int) (M : am_M) : am_m am_P (d + 1) j_Tv_isValue [am_i z] M = some (some (am_i (b2 (0 ≤ z ∧ z < 1000000))), M) := by
  show am_at am_P d j_Tv_isValue 0 [am_i z] [] M = _
  rw [E_Tv_isValue_0]; simp only [if_ot, if_to]
  refine b2_case (fun hc => ?_) (fun hc => ?_) <;> (try unfold am_if)
  all_goals repeat' split
  all_goals first | rfl | (exfalso; omega)
theorem S_Tv_isThing (d : Nat) (z : Int) (M : am_M) : am_m am_P (d + 1) j_Tv_isThing [am_i z] M = some (some (am_i (b2 (0 ≤ z ∧ z < 256))), M) := by
  show am_at am_P d j_Tv_isThing 0 [am_i z] [] M = _
  rw [E_Tv_isThing_0]; simp only [if_ot, if_to]
  refine b2_case (fun hc => ?_) (fun hc => ?_) <;> (try unfold am_if)
  all_goals repeat' split
  all_goals first | rfl | (exfalso; omega)
theorem S_Tv_isPart (d : Nat) (z : Int) (M : am_M) : am_m am_P (d + 1) j_Tv_isPart [am_i z] M = some (some (am_i (b2 (96 ≤ z ∧ z < 256))), M) := by
  show am_at am_P d j_Tv_isPart 0 [am_i z] [] M = _
  rw [E_Tv_isPart_0]; simp only [if_ot, if_to]
  refine b2_case (fun hc => ?_) (fun hc => ?_) <;> (try unfold am_if)
  all_goals repeat' split
  all_goals first | rfl | (exfalso; omega)
theorem S_Tv_partNumber (d : Nat) (z : Int) (M : am_M) : am_m am_P (d + 2) j_Tv_partNumber [am_i z] M = some (some (am_i (if 96 ≤ z ∧ z < 256 then z - 96 else -1)), M) := by
  show am_at am_P (d + 1) j_Tv_partNumber 0 [am_i z] [] M = _
  rw [E_Tv_partNumber_0, S_Tv_isPart, bI_some]; simp only [b2_0]
  by_cases h : 96 ≤ z ∧ z < 256
  · simp only [h, and_self, not_true, if_false, if_true]
    rw [wr_id (by omega) (by omega)]
  · simp only [h, not_false_eq_true, if_true, if_false]
/-- the place of an address in a part of a kind -/
def plc (a k : Int) : Int := am_and (am_shr a (am_wr (3 * k))) 7
theorem S_Tv_placeOf (d : Nat) (a k : Int) (M : am_M) : am_m am_P (d + 1) j_Tv_placeOf [am_i a, am_i k] M = some (some (am_i (plc a k)), M) := by
  show am_at am_P d j_Tv_placeOf 0 [am_i a, am_i k] [] M = _
  rw [E_Tv_placeOf_0]; rfl
theorem plc_0 {a : Int} (h0 : 0 ≤ a) (h1 : a < 2147483648) : plc a 0 = a % 8 := by
  unfold plc
  have := am_shr_eq (x := a) (by unfold am_32; omega) (s := 0) (by omega)
  rw [am_and7, show am_wr (3 * 0) = ((0 : Nat) : Int) from rfl, this]
  simp
theorem plc_1 {a : Int} (h0 : 0 ≤ a) (h1 : a < 2147483648) : plc a 1 = a / 8 % 8 := by
  unfold plc
  have := am_shr_eq (x := a) (by unfold am_32; omega) (s := 3) (by omega)
  rw [am_and7, show am_wr (3 * 1) = ((3 : Nat) : Int) from rfl, this]
  rfl
theorem plc_2 {a : Int} (h0 : 0 ≤ a) (h1 : a < 2147483648) : plc a 2 = a / 64 % 8 := by
  unfold plc
  have := am_shr_eq (x := a) (by unfold am_32; omega) (s := 6) (by omega)
  rw [am_and7, show am_wr (3 * 2) = ((6 : Nat) : Int) from rfl, this]
  rfl
theorem plc_8 (a k : Int) : 0 ≤ plc a k ∧ plc a k < 8 := by
  unfold plc
  rw [am_and7]
  omega
theorem S_Po_isUsedBlock (d : Nat) (b : Int) (M : am_M) : am_m am_P (d + 1) j_Po_isUsedBlock [am_r 2 2, am_i b] M = some (some (am_i (b2 (0 ≤ b ∧ b < 96 ∧ 0 < M 4 b))), M) := by
  show am_at am_P d j_Po_isUsedBlock 0 [am_r 2 2, am_i b] [] M = _
  rw [E_Po_isUsedBlock_0]; simp only [if_ot, if_to, Nat.reduceAdd]
  refine b2_case (fun hc => ?_) (fun hc => ?_) <;> (try unfold am_if)
  all_goals repeat' split
  all_goals first | rfl | (exfalso; omega)
theorem S_Po_countOf (d : Nat) (t : Int) (M : am_M) : am_m am_P (d + 2) j_Po_countOf [am_r 2 2, am_i t] M = some (some (am_i (cntS (M 4) t)), M) := by
  show am_at am_P (d + 1) j_Po_countOf 0 [am_r 2 2, am_i t] [] M = _
  rw [E_Po_countOf_0, S_Tv_isThing, bI_some]; simp only [b2_0, Nat.reduceAdd]; unfold cntS am_if
  repeat' split
  all_goals first | rfl | (exfalso; omega)
theorem S_Po_valueOf (d : Nat) (b : Int) (M : am_M) : am_m am_P (d + 1) j_Po_valueOf [am_r 2 2, am_i b] M = some (some (am_i (valS (M 3) b)), M) := by
  show am_at am_P d j_Po_valueOf 0 [am_r 2 2, am_i b] [] M = _
  rw [E_Po_valueOf_0]; simp only [Nat.reduceAdd]; unfold valS am_if
  repeat' split
  all_goals first | rfl | (exfalso; omega)
def setValS (M : am_M) (b x : Int) : am_M := if 0 ≤ b ∧ b < 96 then am_set M 3 b x else M
theorem S_Po_setValue (d : Nat) (b x : Int) (M : am_M) : am_m am_P (d + 1) j_Po_setValue [am_r 2 2, am_i b, am_i x] M = some (none, setValS M b x) := by
  show am_at am_P d j_Po_setValue 0 [am_r 2 2, am_i b, am_i x] [] M = _
  rw [E_Po_setValue_0]; simp only [Nat.reduceAdd]; unfold setValS am_if am_w
  repeat' split
  all_goals first | rfl | (exfalso; omega)
theorem S_Po_kindOf (d : Nat) (t : Int) (M : am_M) : am_m am_P (d + 2) j_Po_kindOf [am_r 2 2, am_i t] M = some (some (am_i (kndS (M 4) (M 5) t)), M) := by
  show am_at am_P (d + 1) j_Po_kindOf 0 [am_r 2 2, am_i t] [] M = _
  rw [E_Po_kindOf_0, S_Tv_isPart, bI_some]; unfold kndS
  by_cases h : 96 ≤ t ∧ t < 256
  · rw [if_neg (by rw [b2_t h]; omega), if_t (by omega), wr_id (z := t - 96) (by omega) (by omega)]
    by_cases h2 : 0 < M 4 t
    · rw [if_pos h2, if_t (by omega), if_pos ⟨h.1, h.2, h2⟩]
    · rw [if_neg h2, if_neg (fun q => h2 q.2.2)]
  · rw [if_pos (b2_f h), if_neg (fun q => h ⟨q.1, q.2.1⟩)]
theorem S_Po_at (d : Nat) (t k : Int) (M : am_M) : am_m am_P (d + 1) j_Po_at [am_r 2 2, am_i t, am_i k] M = some (some (am_i (atS (M 6) t k)), M) := by
  show am_at am_P d j_Po_at 0 [am_r 2 2, am_i t, am_i k] [] M = _
  rw [E_Po_at_0]; simp only [Nat.reduceAdd]; unfold atS
  by_cases h : 96 ≤ t ∧ t < 256 ∧ 0 ≤ k ∧ k < 8
  · rw [if_neg (by omega), if_pos (by omega), if_neg (by omega), if_pos (by omega), wr_id (z := t - 96) (by omega) (by omega), wr_id (z := (t - 96) * 8) (by omega) (by omega), wr_id (z := (t - 96) * 8 + k) (by omega) (by omega), if_t (by omega), if_pos h]
  · rw [if_neg h]
    repeat' split
    all_goals first | rfl | (exfalso; omega)
def raiseS (M : am_M) (t : Int) : am_M := if 0 ≤ t ∧ t < 256 then am_set M 4 t (am_wr (M 4 t + 1)) else M
theorem S_Po_raise (d : Nat) (t : Int) (M : am_M) : am_m am_P (d + 2) j_Po_raise [am_r 2 2, am_i t] M = some (none, raiseS M t) := by
  show am_at am_P (d + 1) j_Po_raise 0 [am_r 2 2, am_i t] [] M = _
  rw [E_Po_raise_0, S_Tv_isThing, bI_some]; simp only [b2_0, Nat.reduceAdd]; unfold raiseS am_if am_w
  repeat' split
  all_goals first | rfl | (exfalso; omega)
theorem S_St_isThere (d : Nat) (v : Int) (M : am_M) : am_m am_P (d + 1) j_St_isThere [am_r 4 1, am_i v] M = some (some (am_i (b2 (0 ≤ v ∧ v < 12 ∧ 0 < M 7 v))), M) := by
  show am_at am_P d j_St_isThere 0 [am_r 4 1, am_i v] [] M = _
  rw [E_St_isThere_0]; simp only [if_ot, if_to, Nat.reduceAdd]
  refine b2_case (fun hc => ?_) (fun hc => ?_) <;> (try unfold am_if)
  all_goals repeat' split
  all_goals first | rfl | (exfalso; omega)
/-- the volume is there -/
abbrev thS (M : am_M) (v : Int) : Prop := 0 ≤ v ∧ v < 12 ∧ 0 < M 7 v
theorem S_Tv_isUsedPart (d : Nat) (p : Int) (M : am_M) : am_m am_P (d + 1) j_Tv_isUsedPart [am_r 5 0, am_i p] M = some (some (am_i (b2 (0 ≤ p ∧ p < 160 ∧ 0 < M 4 (p + 96)))), M) := by
  show am_at am_P d j_Tv_isUsedPart 0 [am_r 5 0, am_i p] [] M = _
  rw [E_Tv_isUsedPart_0]; simp only [if_ot, if_to, Nat.reduceAdd]
  by_cases h : 0 ≤ p ∧ p < 160
  · rw [if_neg (by omega), if_pos (by omega), wr_id (by omega) (by omega), if_t (by omega), ret_b]
    simp only [h, true_and]
  · rw [b2_f (by omega)]
    repeat' split
    all_goals first | rfl | (exfalso; omega)
theorem S_Tv_isInside (d : Nat) (v a : Int) (M : am_M) : am_m am_P (d + 2) j_Tv_isInside [am_r 5 0, am_i v, am_i a] M = some (some (am_i (b2 (thS M v ∧ 0 ≤ a ∧ a < M 7 v))), M) := by
  show am_at am_P (d + 1) j_Tv_isInside 0 [am_r 5 0, am_i v, am_i a] [] M = _
  rw [E_Tv_isInside_0]; simp only [Nat.reduceAdd, S_St_isThere, bI_some, b2_0, if_ot, if_to]
  refine b2_case (fun hc => ?_) (fun hc => ?_) <;> (try unfold am_if)
  all_goals repeat' split
  all_goals first | rfl | (exfalso; omega)
theorem S_Tv_isPiece (d : Nat) (v a n : Int) (M : am_M) : am_m am_P (d + 3) j_Tv_isPiece [am_r 5 0, am_i v, am_i a, am_i n] M = some (some (am_i (b2 (1 ≤ n ∧ n ≤ 64 ∧ thS M v ∧ 0 ≤ a ∧ a < M 7 v ∧ am_wr (a + n) ≤ M 7 v))), M) := by
  show am_at am_P (d + 2) j_Tv_isPiece 0 [am_r 5 0, am_i v, am_i a, am_i n] [] M = _
  rw [E_Tv_isPiece_0]; simp only [Nat.reduceAdd, S_Tv_isInside, bI_some, b2_0, if_ot, if_to]
  generalize am_wr (a + n) = w
  refine b2_case (fun hc => ?_) (fun hc => ?_) <;> (try unfold am_if)
  all_goals repeat' split
  all_goals first | rfl | (exfalso; omega)
