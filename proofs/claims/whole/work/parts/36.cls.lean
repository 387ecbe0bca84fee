/-! THE CLASS: all laid close; a step settled; pasts copied -/
def nbS (r : Nat) (M : am_M) (x : Int) : Int := if 0 ≤ x ∧ x < 256 then M r x else -1
def mpS (r : Nat) (M : am_M) (t u : Int) : am_M := itS (fun k N => am_set N 6 ((u - 96) * 8 + k) (nbS r N (atS (N 6) t k))) 8 0 (am_set M 5 (u - 96) (M 5 (t - 96)))
theorem S_Po_movePart (d r : Nat) {t u : Int} (ht : 96 ≤ t ∧ t < 256) (hu : 96 ≤ u ∧ u < 256) (M : am_M) : am_m am_P (d + 2) j_Po_movePart [am_r 2 2, am_i t, am_i u, am_r 11 r] M = some (none, mpS r M t u) := by
  show am_at am_P (d + 1) j_Po_movePart 0 [am_r 2 2, am_i t, am_i u, am_r 11 r, am_u, am_u, am_u] [] M = _
  have e1 : am_wr (t - 96) = t - 96 := wr_id (by omega) (by omega)
  have e2 : am_wr (u - 96) = u - 96 := wr_id (by omega) (by omega)
  have e3 : am_wr ((u - 96) * 8) = (u - 96) * 8 := wr_id (by omega) (by omega)
  rw [E_Po_movePart_0, e1, e2, if_t (by omega), if_t (by omega), w_eq, v_eq]
  simp only [Nat.reduceAdd]
  refine lp_it (σ := am_M) (F := fun k N => am_at am_P (d + 1) j_Po_movePart 21 [am_r 2 2, am_i t, am_i u, am_r 11 r, am_i k, am_u, am_u] [] N) (b := fun k N => am_set N 6 ((u - 96) * 8 + k) (nbS r N (atS (N 6) t k))) (r := fun N => some (none, N)) 8 0 _ (fun s => ?_) (fun k s h1 h2 => ?_)
  · try dsimp only
    rw [E_Po_movePart_21, if_neg (by omega)]
  · try dsimp only
    have e4 : am_wr ((u - 96) * 8 + k) = (u - 96) * 8 + k := wr_id (by omega) (by omega)
    have e5 : am_wr (k + 1) = k + 1 := wr_id (by omega) (by omega)
    rw [E_Po_movePart_21, if_pos (by omega), S_Po_at, bI_some, v_eq]
    unfold nbS
    simp only [e2, e3, e4, e5, v_eq, w_eq, Nat.reduceAdd]
    have hr : 0 ≤ (u - 96) * 8 + k ∧ (u - 96) * 8 + k < 1280 := by omega
    by_cases h0 : atS (s 6) t k < 0
    · rw [if_pos h0, if_t hr, if_neg (by omega)]
    · rw [if_neg h0]
      by_cases h3 : atS (s 6) t k < 256
      · rw [if_pos h3, if_t ⟨by omega, h3⟩, if_t hr, if_pos ⟨by omega, h3⟩]
      · rw [if_neg h3, if_t hr, if_neg (fun q => h3 q.2)]
/-- the numbers when all lie close: blocks moved, next block, next part, the memory -/
def ncS (r : Nat) (M : am_M) : Nat → (Int × Int × Int) × am_M := fun n => itS (fun t s => if s.2 4 t = 0 then (s.1, am_set s.2 r t (-1)) else if t < 96 then ((if s.1.2.1 = t then s.1.1 else s.1.1 + 1, s.1.2.1 + 1, s.1.2.2), am_set (am_set s.2 r t (-1)) r t s.1.2.1) else ((s.1.1, s.1.2.1, s.1.2.2 + 1), am_set (am_set s.2 r t (-1)) r t s.1.2.2)) n 0 ((0, 0, 96), M)
theorem S_Po_numberClose (d r : Nat) (hr : r ≠ 4) (M : am_M) : am_m am_P (d + 2) j_Po_numberClose [am_r 2 2, am_r 11 r] M = some (some (am_i (ncS r M 256).1.1), (ncS r M 256).2) := by
  show am_at am_P (d + 1) j_Po_numberClose 0 [am_r 2 2, am_r 11 r, am_u, am_u, am_u, am_u] [] M = _
  rw [E_Po_numberClose_0, v_eq, v_eq, v_eq, v_eq]
  obtain ⟨n, hn⟩ : ∃ n : Nat, n = 256 := ⟨_, rfl⟩
  rw [← hn]
  unfold ncS
  refine (lp_itP (σ := (Int × Int × Int) × am_M) (F := fun t s => am_at am_P (d + 1) j_Po_numberClose 11 [am_r 2 2, am_r 11 r, am_i s.1.1, am_i s.1.2.1, am_i s.1.2.2, am_i t] [] s.2) (b := fun t s => if s.2 4 t = 0 then (s.1, am_set s.2 r t (-1)) else if t < 96 then ((if s.1.2.1 = t then s.1.1 else s.1.1 + 1, s.1.2.1 + 1, s.1.2.2), am_set (am_set s.2 r t (-1)) r t s.1.2.1) else ((s.1.1, s.1.2.1, s.1.2.2 + 1), am_set (am_set s.2 r t (-1)) r t s.1.2.2)) (r := fun s => some (some (am_i s.1.1), s.2)) (fun t s => 0 ≤ s.1.1 ∧ s.1.1 ≤ t ∧ 0 ≤ s.1.2.1 ∧ s.1.2.1 ≤ t ∧ 96 ≤ s.1.2.2 ∧ s.1.2.2 ≤ 96 + t) n 0 ((0, 0, 96), M) ⟨Int.le_refl _, Int.le_refl _, Int.le_refl _, Int.le_refl _, Int.le_refl _, Int.le_refl _⟩ (fun s _ => ?_) (fun t s h1 h2 hs => ?_)).1
  · try dsimp only
    rw [E_Po_numberClose_11, if_neg (by omega)]
  · obtain ⟨⟨m, nb, np⟩, N⟩ := s
    (try dsimp only at hs ⊢)
    have e : am_wr (t + 1) = t + 1 := wr_id (by omega) (by omega)
    have e1 : am_wr (nb + 1) = nb + 1 := wr_id (by omega) (by omega)
    have e2 : am_wr (np + 1) = np + 1 := wr_id (by omega) (by omega)
    have e3 : am_wr (m + 1) = m + 1 := wr_id (by omega) (by omega)
    have ht : 0 ≤ t ∧ t < 256 := by omega
    rw [E_Po_numberClose_11, if_pos (by omega), if_pos (by omega), if_t ht, w_eq, if_t ht]
    simp only [Nat.reduceAdd]
    rw [set_ne _ _ _ (Ne.symm hr)]
    by_cases h0 : N 4 t = 0
    · rw [if_pos h0, if_pos h0, v_eq, e]
      exact ⟨rfl, by (try dsimp only); omega⟩
    · rw [if_neg h0, if_neg h0, S_Tv_isPart, bI_some]
      by_cases hb : t < 96
      · rw [if_pos (b2_f (by omega)), if_pos hb, v_eq, if_t ht, w_eq, S_Tv_isPart, bI_some, if_pos (b2_f (by omega)), if_t ht, set_eq, up_eq, v_eq, v_eq, v_eq, e, e1, e3]
        by_cases hm : nb = t
        · rw [if_pos hm, if_pos hm]
          exact ⟨rfl, by (try dsimp only); omega⟩
        · rw [if_neg hm, if_neg hm]
          exact ⟨rfl, by (try dsimp only); omega⟩
      · rw [if_neg (by rw [b2_t (by omega)]; omega), if_neg hb, v_eq, if_t ht, w_eq, S_Tv_isPart, bI_some, if_neg (by rw [b2_t (by omega)]; omega), v_eq, e, e2]
        exact ⟨rfl, by (try dsimp only); omega⟩
/-- one thing comes to its number -/
def rn1 (r : Nat) (t : Int) (M : am_M) : am_M :=
  if 0 ≤ M r t ∧ M r t < 256 then
    (fun N : am_M => am_set (am_set N 4 t 0) 4 (M r t) (N 4 t)) (if 96 ≤ t ∧ 96 ≤ M r t then mpS r M t (M r t) else if t < 96 ∧ M r t < 96 then am_set M 3 (M r t) (M 3 t) else M)
  else M
theorem S_Po_renumber (d r : Nat) (M : am_M) : am_m am_P (d + 3) j_Po_renumber [am_r 2 2, am_r 11 r] M = some (none, itS (rn1 r) 256 0 M) := by
  show am_at am_P (d + 2) j_Po_renumber 0 [am_r 2 2, am_r 11 r, am_u, am_u, am_u] [] M = _
  rw [E_Po_renumber_0, v_eq]
  obtain ⟨n, hn⟩ : ∃ n : Nat, n = 256 := ⟨_, rfl⟩
  rw [← hn]
  refine lp_it (σ := am_M) (F := fun t N => am_at am_P (d + 2) j_Po_renumber 2 [am_r 2 2, am_r 11 r, am_i t, am_u, am_u] [] N) (b := rn1 r) (r := fun N => some (none, N)) n 0 M (fun s => ?_) (fun t s h1 h2 => ?_)
  · try dsimp only
    rw [E_Po_renumber_2, if_neg (by omega)]
  · try dsimp only
    have e : am_wr (t + 1) = t + 1 := wr_id (by omega) (by omega)
    have ht : 0 ≤ t ∧ t < 256 := by omega
    rw [E_Po_renumber_2, if_pos (by omega), if_pos (by omega), if_t ht, v_eq, S_Tv_isThing, bI_some]
    unfold rn1
    generalize hx : s r t = x
    by_cases hx2 : 0 ≤ x ∧ x < 256
    · rw [if_neg (by rw [b2_t hx2]; omega), if_pos hx2, S_Tv_isPart, bI_some]
      by_cases hb : t < 96
      · rw [if_pos (b2_f (by omega)), S_Tv_isPart, bI_some, if_pos (b2_f (by omega)), S_Tv_isPart, bI_some, if_neg (show ¬ (96 ≤ t ∧ 96 ≤ x) by omega)]
        by_cases hb2 : x < 96
        · rw [if_pos (b2_f (by omega)), if_pos ⟨hb, hb2⟩, if_t ⟨ht.1, hb⟩, if_t ⟨hx2.1, hb2⟩, w_eq, if_t ht, v_eq, if_t ht, w_eq, if_t hx2, w_eq, v_eq, e]
        · rw [if_neg (by rw [b2_t (by omega)]; omega), if_neg (fun q => hb2 q.2), if_t ht, v_eq, if_t ht, w_eq, if_t hx2, w_eq, v_eq, e]
      · rw [if_neg (by rw [b2_t (by omega)]; omega), S_Tv_isPart, bI_some]
        by_cases hb2 : x < 96
        · rw [if_pos (b2_f (by omega)), S_Tv_isPart, bI_some, if_neg (by rw [b2_t (by omega)]; omega), if_neg (show ¬ (96 ≤ t ∧ 96 ≤ x) by omega), if_neg (show ¬ (t < 96 ∧ x < 96) by omega), if_t ht, v_eq, if_t ht, w_eq, if_t hx2, w_eq, v_eq, e]
        · rw [if_neg (by rw [b2_t (by omega)]; omega), S_Po_movePart d r (by omega) (by omega), bV_some, if_t ht, v_eq, if_t ht, w_eq, if_t hx2, w_eq, v_eq, e, if_pos (show 96 ≤ t ∧ 96 ≤ x by omega)]
    · rw [if_pos (b2_f hx2), if_neg hx2, v_eq, e]
def lt1 (r : Nat) (M : am_M) : am_M := itS (fun v N => if 0 ≤ N 10 v ∧ N 10 v < 256 then am_set N 10 v (N r (N 10 v)) else N) 12 0 M
def lcS (r : Nat) (M : am_M) : Int × am_M := ((ncS r M 256).1.1, lt1 r (itS (rn1 r) 256 0 (ncS r M 256).2))
theorem S_St_layClose (d r : Nat) (hr : r ≠ 4) (M : am_M) : am_m am_P (d + 4) j_St_layClose [am_r 4 1, am_r 11 r] M = some (some (am_i (lcS r M).1), (lcS r M).2) := by
  show am_at am_P (d + 3) j_St_layClose 0 [am_r 4 1, am_r 11 r, am_u, am_u, am_u] [] M = _
  unfold lcS
  rw [E_St_layClose_0]
  simp only [Nat.reduceAdd]
  rw [S_Po_numberClose (d + 1) r hr, bI_some, v_eq, S_Po_renumber, bV_some, v_eq]
  generalize (ncS r M 256).1.1 = m
  generalize itS (rn1 r) 256 0 (ncS r M 256).2 = N
  unfold lt1
  refine lp_it (σ := am_M) (F := fun v N => am_at am_P (d + 3) j_St_layClose 19 [am_r 4 1, am_r 11 r, am_i m, am_i v, am_u] [] N) (b := fun v N => if 0 ≤ N 10 v ∧ N 10 v < 256 then am_set N 10 v (N r (N 10 v)) else N) (r := fun N => some (some (am_i m), N)) 12 0 N (fun s => ?_) (fun v s h1 h2 => ?_)
  · try dsimp only
    rw [E_St_layClose_19, if_neg (by omega)]
  · try dsimp only
    rw [E_St_layClose_19, if_pos (by omega), if_t (by omega), v_eq, v_eq, wr_id (by omega) (by omega)]
    simp only [Nat.reduceAdd]
    by_cases h0 : s 10 v < 0
    · rw [if_pos h0, if_neg (by omega)]
    · rw [if_neg h0]
      by_cases h3 : s 10 v < 256
      · rw [if_pos h3, if_t ⟨by omega, h3⟩, if_t (by omega), w_eq, v_eq, if_pos ⟨by omega, h3⟩]
      · rw [if_neg h3, if_neg (fun q => h3 q.2)]
