/-! THE CLASS, State: ways to an address, trunks, opening and shutting -/
/-- what is on the way to an address: trunk, twig, leaf, block -/
def twS (M : am_M) (v a : Int) : Int := atS (M 6) (M 10 v) (plc a 2)
def lfS (M : am_M) (v a : Int) : Int := atS (M 6) (twS M v a) (plc a 1)
def bkS (M : am_M) (v a : Int) : Int := atS (M 6) (lfS M v a) (plc a 0)
def thgS (M : am_M) (v a l : Int) : Int := if thS M v then (if 2 < l then M 10 v else if l = 2 then twS M v a else if l = 1 then lfS M v a else bkS M v a) else -1
theorem S_St_thingAt (d : Nat) (v a l : Int) (M : am_M) : am_m am_P (d + 2) j_St_thingAt [am_r 4 1, am_i v, am_i a, am_i l] M = some (some (am_i (thgS M v a l)), M) := by
  show am_at am_P (d + 1) j_St_thingAt 0 [am_r 4 1, am_i v, am_i a, am_i l, am_u, am_u] [] M = _
  rw [E_St_thingAt_0, S_St_isThere, bI_some]
  unfold thgS
  by_cases hv : thS M v
  · rw [if_neg (by rw [b2_t hv]; omega), if_t (by omega), v_eq, v_eq, if_pos hv, E_St_thingAt_21]
    by_cases h2 : 2 < l
    · rw [if_pos h2, if_pos h2]
    · rw [if_neg h2, if_neg h2, if_neg (by omega), S_Tv_placeOf, bI_some, S_Po_at, bI_some, v_eq, v_eq, wr_id (by omega) (by omega), E_St_thingAt_21]
      by_cases h1 : l = 2
      · rw [if_pos (by omega), if_pos h1]; rfl
      · rw [if_neg (by omega), if_neg h1, if_neg (by omega), S_Tv_placeOf, bI_some, S_Po_at, bI_some, v_eq, v_eq, wr_id (by omega) (by omega), E_St_thingAt_21]
        by_cases h0 : l = 1
        · rw [if_pos (by omega), if_pos h0]; rfl
        · rw [if_neg (by omega), if_neg h0, if_neg (by omega), S_Tv_placeOf, bI_some, S_Po_at, bI_some, v_eq, v_eq, wr_id (by omega) (by omega), E_St_thingAt_21]
          by_cases hm : 2 + -1 + -1 + -1 < l
          · rw [if_pos hm]; rfl
          · rw [if_neg hm, if_pos (by omega)]; rfl
  · rw [if_pos (b2_f hv), if_neg hv]
def blkS (M : am_M) (v a : Int) : Int := thgS M v a 0
theorem S_St_blockAt (d : Nat) (v a : Int) (M : am_M) : am_m am_P (d + 3) j_St_blockAt [am_r 4 1, am_i v, am_i a] M = some (some (am_i (blkS M v a)), M) := by
  show am_at am_P (d + 2) j_St_blockAt 0 [am_r 4 1, am_i v, am_i a] [] M = _
  rw [E_St_blockAt_0, S_St_thingAt, bI_some]
  rfl
def vatS (M : am_M) (v a : Int) : Int := valS (M 3) (blkS M v a)
theorem S_St_valueAt (d : Nat) (v a : Int) (M : am_M) : am_m am_P (d + 4) j_St_valueAt [am_r 4 1, am_i v, am_i a] M = some (some (am_i (vatS M v a)), M) := by
  show am_at am_P (d + 3) j_St_valueAt 0 [am_r 4 1, am_i v, am_i a] [] M = _
  rw [E_St_valueAt_0, S_St_blockAt, bI_some, S_Po_valueOf, bI_some]
  rfl
def hgTS (M : am_M) (v t : Int) : am_M := if thS M v then (LG 4 4 (am_set (raiseS M t) 10 v t) (M 10 v)).2 else M
theorem S_St_hangTrunk (d : Nat) (v t : Int) (M : am_M) : am_m am_P (d + 7) j_St_hangTrunk [am_r 4 1, am_i v, am_i t] M = some (none, hgTS M v t) := by
  show am_at am_P (d + 6) j_St_hangTrunk 0 [am_r 4 1, am_i v, am_i t, am_u] [] M = _
  rw [E_St_hangTrunk_0, S_St_isThere, bI_some]
  unfold hgTS
  by_cases hv : thS M v
  · rw [if_neg (by rw [b2_t hv]; omega), if_pos hv, if_t (by omega), v_eq, S_Po_raise, bV_some, if_t (by omega), w_eq, S_letGo3, bI_some]
  · rw [if_pos (b2_f hv), if_neg hv]
def usS (M : am_M) (v : Int) : Int := if thS M v then mu (M 6) 2 (M 10 v) else 0
theorem usS_bd (M : am_M) (v : Int) : 0 ≤ usS M v ∧ usS M v ≤ 512 := by
  unfold usS
  split
  · have := mu_bd (M 6) 2 (M 10 v)
    simpa using this
  · omega
theorem S_St_usedOf (d : Nat) (v : Int) (M : am_M) : am_m am_P (d + 6) j_St_usedOf [am_r 4 1, am_i v] M = some (some (am_i (usS M v)), M) := by
  show am_at am_P (d + 5) j_St_usedOf 0 [am_r 4 1, am_i v] [] M = _
  rw [E_St_usedOf_0, S_St_isThere, bI_some]
  unfold usS
  by_cases hv : thS M v
  · rw [if_neg (by rw [b2_t hv]; omega), if_pos hv, if_t (by omega)]
    have := S_Po_mappedUnder d 2 (by omega) (M 10 v) M
    rw [show ((2 : Nat) : Int) = 2 from rfl] at this
    rw [this, bI_some]
  · rw [if_pos (b2_f hv), if_neg hv]
theorem S_St_mappedInAll (d : Nat) (M : am_M) : am_m am_P (d + 7) j_St_mappedInAll [am_r 4 1] M = some (some (am_i (sm (usS M) 12)), M) := by
  show am_at am_P (d + 6) j_St_mappedInAll 0 [am_r 4 1, am_u, am_u] [] M = _
  rw [E_St_mappedInAll_0, v_eq, v_eq]
  refine lp_sum (F := fun s i => am_at am_P (d + 6) j_St_mappedInAll 4 [am_r 4 1, am_i s, am_i i] [] M) (f := usS M) (n := 12) ?_ ?_
  · try dsimp only
    rw [E_St_mappedInAll_4, if_neg (by omega)]
  · intro i hi
    try dsimp only
    have hb := sm_bd (f := usS M) (c := 512) i (fun k _ => usS_bd M k)
    have hq := usS_bd M i
    rw [E_St_mappedInAll_4, if_pos (by omega), S_St_usedOf, bI_some, v_eq, v_eq, wr_id (z := sm (usS M) i + usS M i) (by omega) (by omega), wr_id (z := (i : Int) + 1) (by omega) (by omega)]
/-- what is yet to be held free for a volume -/
def hfS (M : am_M) (v : Int) : Int := if thS M v then (if M 11 v - usS M v < 0 then 0 else M 11 v - usS M v) else 0
theorem S_St_heldFree (d : Nat) (M : am_M) (hr : ∀ v, thS M v → 0 ≤ M 11 v ∧ M 11 v ≤ 96) : am_m am_P (d + 7) j_St_heldFree [am_r 4 1] M = some (some (am_i (sm (hfS M) 12)), M) := by
  show am_at am_P (d + 6) j_St_heldFree 0 [am_r 4 1, am_u, am_u] [] M = _
  rw [E_St_heldFree_0, v_eq, v_eq]
  refine lp_sum (F := fun s i => am_at am_P (d + 6) j_St_heldFree 4 [am_r 4 1, am_i s, am_i i] [] M) (f := hfS M) (n := 12) ?_ ?_
  · try dsimp only
    rw [E_St_heldFree_4, if_neg (by omega)]
  · intro i hi
    try dsimp only
    have hb := sm_bd (f := hfS M) (c := 96) i (fun k _ => by
      unfold hfS
      split
      · rename_i h
        have := hr k h
        have := usS_bd M k
        split <;> omega
      · omega)
    have hq := usS_bd M i
    rw [E_St_heldFree_4, if_pos (by omega), S_St_isThere, bI_some]
    generalize hs : sm (hfS M) i = s at hb ⊢
    unfold hfS
    by_cases hv : thS M i
    · have := hr i hv
      rw [if_neg (by rw [b2_t hv]; omega), if_t (by omega), S_St_usedOf, bI_some, v_eq, v_eq, if_pos hv]
      simp only [Nat.reduceAdd]
      rw [wr_id (z := M 11 i - usS M i) (by omega) (by omega), wr_id (z := (i : Int) + 1) (by omega) (by omega)]
      rw [wr_id (z := s + if M 11 i - usS M i < 0 then 0 else M 11 i - usS M i) (by split <;> omega) (by split <;> omega)]
    · rw [if_pos (b2_f hv), if_neg hv, v_eq, wr_id (by omega) (by omega), Int.add_zero]
/-- a truth of any kind, as a number -/
noncomputable def bc (c : Prop) : Int := @ite _ c (Classical.propDecidable c) 1 0
theorem bc_t {c : Prop} (h : c) : bc c = 1 := by unfold bc; rw [if_pos h]
theorem bc_f {c : Prop} (h : ¬ c) : bc c = 0 := by unfold bc; rw [if_neg h]
theorem bc_01 (c : Prop) : bc c = 0 ∨ bc c = 1 := by
  by_cases h : c
  · exact Or.inr (bc_t h)
  · exact Or.inl (bc_f h)
theorem b2_bc {c : Prop} [Decidable c] : b2 c = bc c := by
  by_cases h : c
  · rw [b2_t h, bc_t h]
  · rw [b2_f h, bc_f h]
/-- no quota is passed, what is reserved is free -/
def alS (M : am_M) : Prop := (∀ v : Int, thS M v → usS M v ≤ M 8 v) ∧ sm (hfS M) 12 ≤ 96 - nz (M 4) 96
theorem S_St_isAllowed (d : Nat) (M : am_M) (hr : ∀ v, thS M v → 0 ≤ M 11 v ∧ M 11 v ≤ 96) : am_m am_P (d + 7) j_St_isAllowed [am_r 4 1] M = some (some (am_i (bc (alS M))), M) := by
  show am_at am_P (d + 6) j_St_isAllowed 0 [am_r 4 1, am_u, am_u, am_u] [] M = _
  rw [E_St_isAllowed_0, v_eq, v_eq]
  have hfb : ∀ k : Nat, 0 ≤ hfS M k ∧ hfS M k ≤ (96 : Nat) := fun k => by
    unfold hfS
    split
    · rename_i h
      have := hr k h
      have := usS_bd M k
      split <;> omega
    · omega
  have key : ∀ (n i : Nat), i + n = 12 → (∀ v : Int, v < i → thS M v → usS M v ≤ M 8 v) → am_at am_P (d + 6) j_St_isAllowed 4 [am_r 4 1, am_i (sm (hfS M) i), am_i i, am_u] [] M = some (some (am_i (bc (alS M))), M) := by
    intro n
    induction n with
    | zero =>
      intro i hi hall
      obtain rfl : i = 12 := by omega
      have hb := sm_bd (f := hfS M) (c := 96) 12 (fun k _ => hfb k)
      have hn := nz_bd (M 4) 96
      rw [E_St_isAllowed_4, if_neg (by omega), S_Po_usedBlocks, bI_some]
      simp only [Nat.reduceAdd]
      rw [wr_id (z := 96 - nz (M 4) 96) (by omega) (by omega)]
      by_cases h : 96 - nz (M 4) 96 < sm (hfS M) 12
      · rw [if_pos h, bc_f (fun q => by have := q.2; omega)]; rfl
      · rw [if_neg h, bc_t ⟨fun v hv => hall v (by have := hv.2.1; omega) hv, by omega⟩]; rfl
    | succ n ih =>
      intro i hi hall
      have hb := sm_bd (f := hfS M) (c := 96) i (fun k _ => hfb k)
      have hq := usS_bd M i
      have hfi := hfb i
      have hnext : ∀ x : Int, x = sm (hfS M) (i + 1) → (thS M i → usS M i ≤ M 8 i) → am_at am_P (d + 6) j_St_isAllowed 4 [am_r 4 1, am_i x, am_i (am_wr ((i : Int) + 1)), am_u] [] M = some (some (am_i (bc (alS M))), M) := by
        intro x hx hq1
        rw [wr_id (by omega) (by omega), hx]
        exact ih (i + 1) (by omega) (fun v hv ht => by
          by_cases hvi : v = i
          · rw [hvi] at ht ⊢; exact hq1 ht
          · exact hall v (by omega) ht)
      rw [E_St_isAllowed_4, if_pos (by omega), S_St_usedOf, bI_some, v_eq, S_St_isThere, bI_some, S_St_isThere, bI_some]
      simp only [Nat.reduceAdd]
      by_cases hv : thS M i
      · have hri := hr i hv
        rw [if_neg (by rw [b2_t hv]; omega), if_t (by omega), v_eq]
        by_cases hqq : M 8 i < usS M i
        · rw [if_pos hqq, bc_f (fun q => by have := q.1 i hv; omega)]; rfl
        · rw [if_neg hqq, if_neg (by rw [b2_t hv]; omega), if_t (by omega), v_eq, v_eq, wr_id (z := M 11 i - usS M i) (by omega) (by omega)]
          refine hnext _ ?_ (fun _ => by omega)
          have e : hfS M i = if M 11 i - usS M i < 0 then 0 else M 11 i - usS M i := by unfold hfS; rw [if_pos hv]
          rw [← e, wr_id (by omega) (by omega)]
          rfl
      · rw [if_pos (b2_f hv), if_pos (b2_f hv), v_eq]
        refine hnext _ ?_ (fun h => absurd h hv)
        have e : hfS M i = 0 := by unfold hfS; rw [if_neg hv]
        show sm (hfS M) i = sm (hfS M) i + hfS M i
        rw [e, Int.add_zero]
  exact key 12 0 rfl (fun v hv ht => by have := ht.1; omega)
