/-! THE CLASS, State: opened, shut, written, wiped -/
/-- n kinds are left to open (n - 1 the next), the part opened last -/
def opS (v a low : Int) : Nat → am_M → Int → Int × am_M
  | 0, M, part => (part, M)
  | n + 1, M, part =>
    if (n : Int) < low then (part, M)
    else if (ownS M (thgS M v a (n + 1)) n).1 = -1 then (-1, (ownS M (thgS M v a (n + 1)) n).2)
    else opS v a low n (if (ownS M (thgS M v a (n + 1)) n).1 = thgS M v a (n + 1) then (ownS M (thgS M v a (n + 1)) n).2
      else if n = 2 then hgTS (ownS M (thgS M v a (n + 1)) n).2 v (ownS M (thgS M v a (n + 1)) n).1
      else hangS (ownS M (thgS M v a (n + 1)) n).2 part (plc a (n + 1)) (ownS M (thgS M v a (n + 1)) n).1) (ownS M (thgS M v a (n + 1)) n).1
theorem op_loop (d : Nat) (v a low : Int) (hlow : 0 ≤ low) : ∀ (n : Nat), n ≤ 3 → ∀ (M : am_M) (part : Int), am_at am_P (d + 7) j_St_openTo 6 [am_r 4 1, am_i v, am_i a, am_i low, am_i part, am_i ((n : Int) - 1), am_u, am_u] [] M = some (some (am_i (opS v a low n M part).1), (opS v a low n M part).2)
  | 0, _, M, part => by
    rw [E_St_openTo_6, if_pos (by omega)]
    rfl
  | n + 1, hn, M, part => by
    have e1 : ((n + 1 : Nat) : Int) - 1 = (n : Int) := by omega
    have ih := op_loop d v a low hlow n (by omega)
    unfold opS
    rw [e1, E_St_openTo_6]
    by_cases hl : (n : Int) < low
    · rw [if_pos hl, if_pos hl]
    · rw [if_neg hl, if_neg hl, wr_id (z := (n : Int) + 1) (by omega) (by omega), S_St_thingAt, bI_some, v_eq]
      simp only [Nat.reduceAdd]
      rw [S_Po_ownPart (d + 4), bI_some, v_eq]
      generalize hw : thgS M v a ((n : Int) + 1) = was
      generalize hq : ownS M was n = q
      obtain ⟨own, N⟩ := q
      try dsimp only
      have ew : am_wr ((n : Int) + -1) = (n : Int) - 1 := by rw [wr_id (by omega) (by omega)]; omega
      by_cases ho : own = -1
      · rw [if_pos ho, if_pos ho]
      · rw [if_neg ho, if_neg ho]
        by_cases hs : own = was
        · rw [if_pos hs, if_pos hs, v_eq, v_eq, ew, if_pos hs]
          exact ih N own
        · rw [if_neg hs, if_neg hs]
          by_cases h2 : n = 2
          · rw [if_pos (show (n : Int) = 2 by omega), S_St_hangTrunk, bV_some, v_eq, v_eq, ew, if_neg hs, if_pos h2]
            exact ih _ own
          · rw [if_neg (show ¬ (n : Int) = 2 by omega), if_neg hs, S_Tv_placeOf, bI_some, S_Po_hang, bV_some, v_eq, v_eq, ew, if_neg h2]
            exact ih _ own
theorem S_St_openTo (d : Nat) (v a low : Int) (hlow : 0 ≤ low) (M : am_M) : am_m am_P (d + 8) j_St_openTo [am_r 4 1, am_i v, am_i a, am_i low] M = some (some (am_i (opS v a low 3 M (-1)).1), (opS v a low 3 M (-1)).2) := by
  show am_at am_P (d + 7) j_St_openTo 0 [am_r 4 1, am_i v, am_i a, am_i low, am_u, am_u, am_u, am_u] [] M = _
  rw [E_St_openTo_0, v_eq, v_eq]
  exact op_loop d v a low hlow 3 (by omega) M (-1)
/-- how many places of a part are filled -/
def flS (M : am_M) (t : Int) : Int := sm (fun k => if atS (M 6) t k = -1 then 0 else 1) 8
/-- n kinds are left to shut (the next is 3 - n) -/
def shS (v a : Int) : Nat → am_M → am_M
  | 0, M => M
  | n + 1, M =>
    if thgS M v a (3 - n) = -1 ∨ 0 < flS M (thgS M v a (3 - n)) then M
    else shS v a n (if n = 0 then hgTS M v (-1) else hangS M (thgS M v a (4 - n)) (plc a (3 - n)) (-1))
theorem sh_loop (d : Nat) (v a : Int) : ∀ (n : Nat), n ≤ 3 → ∀ (M : am_M), am_at am_P (d + 7) j_St_shut 2 [am_r 4 1, am_i v, am_i a, am_i (3 - (n : Int)), am_u, am_u] [] M = some (none, shS v a n M)
  | 0, _, M => by
    rw [E_St_shut_2, if_pos (by omega)]
    rfl
  | n + 1, hn, M => by
    have ih := sh_loop d v a n (by omega)
    have e1 : (3 : Int) - ((n + 1 : Nat) : Int) + 1 = 3 - n := by omega
    have e2 : (3 : Int) - ((n + 1 : Nat) : Int) + 2 = 4 - n := by omega
    rw [E_St_shut_2, if_neg (by omega)]
    unfold shS
    rw [wr_id (z := (3 : Int) - ((n + 1 : Nat) : Int) + 1) (by omega) (by omega), e1, wr_id (z := (3 : Int) - ((n + 1 : Nat) : Int) + 2) (by omega) (by omega), e2, S_St_thingAt, bI_some, v_eq]
    by_cases h1 : thgS M v a (3 - n) = -1
    · rw [if_pos h1, if_pos (Or.inl h1)]
    · rw [if_neg h1]
      simp only [Nat.reduceAdd]
      rw [S_Po_filledPlaces, bI_some]
      show (if 0 < flS M (thgS M v a (3 - n)) then _ else _) = _
      by_cases h2 : 0 < flS M (thgS M v a (3 - n))
      · rw [if_pos h2, if_pos (Or.inr h2)]
      · rw [if_neg h2, if_neg (fun q => q.elim h1 h2), S_St_thingAt, bI_some, v_eq]
        by_cases h0 : n = 0
        · rw [if_pos (show (3 : Int) - ((n + 1 : Nat) : Int) = 2 by omega), S_St_hangTrunk, bV_some, v_eq, if_pos h0]
          exact ih _
        · rw [if_neg (show ¬ (3 : Int) - ((n + 1 : Nat) : Int) = 2 by omega), S_Tv_placeOf, bI_some, S_Po_hang, bV_some, v_eq, if_neg h0]
          exact ih _
theorem S_St_shut (d : Nat) (v a : Int) (M : am_M) : am_m am_P (d + 8) j_St_shut [am_r 4 1, am_i v, am_i a] M = some (none, shS v a 3 M) := by
  show am_at am_P (d + 7) j_St_shut 0 [am_r 4 1, am_i v, am_i a, am_u, am_u, am_u] [] M = _
  rw [E_St_shut_0, v_eq]
  exact sh_loop d v a 3 (by omega) M
/-- the least block with a value -/
def lkS (M : am_M) (x : Int) : Int := fd (fun i => 0 < M 4 i ∧ M 3 i = x) (fun _ => inferInstance) 0 96
/-- behind the opening: the leaf, its place -/
def pu2 (M : am_M) (leaf pl x : Int) : Int × am_M :=
  if M 1 9 = 1 ∧ lkS M x ≠ -1 then (if lkS M x = atS (M 6) leaf pl then (1, M) else (1, hangS M leaf pl (lkS M x)))
  else if atS (M 6) leaf pl ≠ -1 ∧ cntS (M 4) (atS (M 6) leaf pl) = 1 then (1, setValS M (atS (M 6) leaf pl) x)
  else if newBlkS M = -1 then (0, setValS M (newBlkS M) x)
  else if newBlkS M = atS (M 6) leaf pl then (1, setValS M (newBlkS M) x)
  else (1, hangS (setValS M (newBlkS M) x) leaf pl (newBlkS M))
def puS (M : am_M) (v a x : Int) : Int × am_M :=
  if (opS v a 0 3 M (-1)).1 = -1 then (0, (opS v a 0 3 M (-1)).2) else pu2 (opS v a 0 3 M (-1)).2 (opS v a 0 3 M (-1)).1 (plc a 0) x
theorem put_115 (d : Nat) (leaf pl there b : Int) (M : am_M) : am_at am_P (d + 7) j_St_put 115 [am_r 4 1, am_u, am_u, am_u, am_i leaf, am_i pl, am_i there, am_u, am_u] [am_i b] M = some (some (am_i (if b = -1 then 0 else 1)), if b = -1 then M else if b = there then M else hangS M leaf pl b) := by
  rw [E_St_put_115, v_eq]
  by_cases h1 : b = -1
  · rw [if_pos h1, if_pos h1, if_pos h1]; rfl
  · rw [if_neg h1, if_neg h1, if_neg h1]
    by_cases h2 : b = there
    · rw [if_pos h2, if_pos h2]; rfl
    · rw [if_neg h2, if_neg h2, S_Po_hang, bV_some]; rfl
theorem S_St_put (d : Nat) (v a x : Int) (M : am_M) : am_m am_P (d + 9) j_St_put [am_r 4 1, am_i v, am_i a, am_i x] M = some (some (am_i (puS M v a x).1), (puS M v a x).2) := by
  show am_at am_P (d + 8) j_St_put 0 [am_r 4 1, am_i v, am_i a, am_i x, am_u, am_u, am_u, am_u, am_u] [] M = _
  rw [E_St_put_0, S_St_openTo d v a 0 (by omega), bI_some, v_eq]
  unfold puS
  generalize opS v a 0 3 M (-1) = q
  obtain ⟨leaf, N⟩ := q
  try dsimp only
  by_cases h1 : leaf = -1
  · rw [if_pos h1, if_pos h1]; rfl
  · rw [if_neg h1, if_neg h1, S_Tv_placeOf, bI_some, v_eq]
    simp only [Nat.reduceAdd, S_Po_at, bI_some, v_eq, S_Po_leastBlockWith, S_Po_countOf, S_Po_newBlock, S_Po_setValue, bV_some, put_115 (d + 1), if_ot, if_to]
    have el : fd (fun i => 0 < N 4 i ∧ N 3 i = x) (fun _ => inferInstance) 0 96 = lkS N x := rfl
    rw [el]
    unfold pu2
    generalize hth : atS (N 6) leaf (plc a 0) = there
    generalize hlk : lkS N x = lk
    generalize hnb : newBlkS N = nb
    generalize hsv : setValS N nb x = N2
    generalize hsv2 : setValS N there x = N3
    generalize hcn : cntS (N 4) there = cn
    by_cases hl : N 1 9 = 1
    · by_cases hk : lk = -1
      · by_cases ht : there = -1
        · by_cases hn : nb = -1
          · simp [hl, hk, ht, hn]
          · simp [hl, hk, ht, hn]
        · by_cases hc : cn = 1
          · simp [hl, hk, ht, hc]
          · by_cases hn : nb = -1
            · simp [hl, hk, ht, hc, hn]
            · by_cases hnt : nb = there <;> simp [hl, hk, ht, hc, hn, hnt]
      · by_cases hkt : lk = there
        · subst hkt; simp [hl, hk]
        · simp [hl, hk, hkt]
    · by_cases ht : there = -1
      · by_cases hn : nb = -1
        · simp [hl, ht, hn]
        · simp [hl, ht, hn]
      · by_cases hc : cn = 1
        · simp [hl, ht, hc]
        · by_cases hn : nb = -1
          · simp [hl, ht, hc, hn]
          · by_cases hnt : nb = there <;> simp [hl, ht, hc, hn, hnt]
def clS (M : am_M) (v a : Int) : Int × am_M :=
  if blkS M v a = -1 then (1, M)
  else if (opS v a 0 3 M (-1)).1 = -1 then (0, (opS v a 0 3 M (-1)).2)
  else (1, shS v a 3 (hangS (opS v a 0 3 M (-1)).2 (opS v a 0 3 M (-1)).1 (plc a 0) (-1)))
theorem S_St_clear (d : Nat) (v a : Int) (M : am_M) : am_m am_P (d + 9) j_St_clear [am_r 4 1, am_i v, am_i a] M = some (some (am_i (clS M v a).1), (clS M v a).2) := by
  show am_at am_P (d + 8) j_St_clear 0 [am_r 4 1, am_i v, am_i a, am_u] [] M = _
  rw [E_St_clear_0, S_St_blockAt, bI_some]
  unfold clS
  by_cases h0 : blkS M v a = -1
  · rw [if_pos h0, if_pos h0]; rfl
  · rw [if_neg h0, if_neg h0, S_St_openTo d v a 0 (by omega), bI_some, v_eq]
    by_cases h1 : (opS v a 0 3 M (-1)).1 = -1
    · rw [if_pos h1, if_pos h1]; rfl
    · rw [if_neg h1, if_neg h1, S_Tv_placeOf, bI_some, S_Po_hang, bV_some, S_St_shut, bV_some]; rfl
def cpyS (M : am_M) (v a w b : Int) : Int × am_M :=
  if blkS M v a = -1 then clS M w b
  else if (opS w b 0 3 M (-1)).1 = -1 then (0, (opS w b 0 3 M (-1)).2)
  else (1, hangS (opS w b 0 3 M (-1)).2 (opS w b 0 3 M (-1)).1 (plc b 0) (blkS M v a))
theorem clS_01 (M : am_M) (v a : Int) : (clS M v a).1 = 0 ∨ (clS M v a).1 = 1 := by
  unfold clS
  split
  · exact Or.inr rfl
  · split
    · exact Or.inl rfl
    · exact Or.inr rfl
theorem S_St_copyBlock (d : Nat) (v a w b : Int) (M : am_M) : am_m am_P (d + 10) j_St_copyBlock [am_r 4 1, am_i v, am_i a, am_i w, am_i b] M = some (some (am_i (cpyS M v a w b).1), (cpyS M v a w b).2) := by
  show am_at am_P (d + 9) j_St_copyBlock 0 [am_r 4 1, am_i v, am_i a, am_i w, am_i b, am_u, am_u] [] M = _
  rw [E_St_copyBlock_0, S_St_blockAt, bI_some, v_eq]
  unfold cpyS
  by_cases h0 : blkS M v a = -1
  · rw [if_pos h0, if_pos h0, S_St_clear, bI_some, if_t (clS_01 M w b)]
  · rw [if_neg h0, if_neg h0, S_St_openTo (d + 1) w b 0 (by omega), bI_some, v_eq]
    by_cases h1 : (opS w b 0 3 M (-1)).1 = -1
    · rw [if_pos h1, if_pos h1]; rfl
    · rw [if_neg h1, if_neg h1, S_Tv_placeOf, bI_some, S_Po_hang, bV_some]; rfl
def mvS (M : am_M) (v a b : Int) : Int × am_M :=
  if (cpyS M v a v b).1 = 0 then (0, (cpyS M v a v b).2) else clS (cpyS M v a v b).2 v a
theorem S_St_moveBlock (d : Nat) (v a b : Int) (M : am_M) : am_m am_P (d + 11) j_St_moveBlock [am_r 4 1, am_i v, am_i a, am_i b] M = some (some (am_i (mvS M v a b).1), (mvS M v a b).2) := by
  show am_at am_P (d + 10) j_St_moveBlock 0 [am_r 4 1, am_i v, am_i a, am_i b] [] M = _
  rw [E_St_moveBlock_0, S_St_copyBlock, bI_some]
  unfold mvS
  by_cases h0 : (cpyS M v a v b).1 = 0
  · rw [if_pos h0, if_pos h0]; rfl
  · rw [if_neg h0, if_neg h0, S_St_clear (d + 1), bI_some]
    rcases clS_01 (cpyS M v a v b).2 v a with h | h
    · rw [if_pos h, h]; rfl
    · rw [if_neg (by rw [h]; omega), h]; rfl
