/-! loops over a state -/
def itS {σ : Type} (b : Int → σ → σ) : Nat → Int → σ → σ
  | 0, _, s => s
  | n + 1, i, s => itS b n (i + 1) (b i s)
theorem lp_it {σ : Type} {F : Int → σ → Option am_O} {b : Int → σ → σ} {r : σ → Option am_O} : ∀ (n : Nat) (a : Int) (s : σ), (∀ s, F (a + n) s = r s) → (∀ (i : Int) (s : σ), a ≤ i → i < a + n → F i s = F (i + 1) (b i s)) → F a s = r (itS b n a s)
  | 0, a, s, hend, _ => by simpa [itS] using hend s
  | n + 1, a, s, hend, hstep => by
    rw [hstep a s (by omega) (by omega)]
    exact lp_it n (a + 1) (b a s) (fun s => by rw [← hend s]; congr 1; omega) (fun i s h1 h2 => hstep i s (by omega) (by omega))
/-- the same, where a property of the state is kept -/
theorem lp_itP {σ : Type} {F : Int → σ → Option am_O} {b : Int → σ → σ} {r : σ → Option am_O} (P : Int → σ → Prop) : ∀ (n : Nat) (a : Int) (s : σ), P a s → (∀ s, P (a + n) s → F (a + n) s = r s) → (∀ (i : Int) (s : σ), a ≤ i → i < a + n → P i s → F i s = F (i + 1) (b i s) ∧ P (i + 1) (b i s)) → F a s = r (itS b n a s) ∧ P (a + n) (itS b n a s)
  | 0, a, s, h0, hend, _ => by
    have h1 : P (a + ((0 : Nat) : Int)) s := by simpa using h0
    exact ⟨by simpa [itS] using hend s h1, h1⟩
  | n + 1, a, s, h0, hend, hstep => by
    obtain ⟨h1, h2⟩ := hstep a s (by omega) (by omega) h0
    rw [h1]
    have e : a + 1 + (n : Int) = a + ((n + 1 : Nat) : Int) := by omega
    have := lp_itP (F := F) (r := r) (b := b) P n (a + 1) (b a s) h2 (fun s hs => by rw [e] at hs ⊢; exact hend s hs) (fun i s h3 h4 => hstep i s (by omega) (by omega))
    rw [e] at this
    exact this
theorem it_inv {σ : Type} {b : Int → σ → σ} (P : Int → σ → Prop) : ∀ (n : Nat) (a : Int) (s : σ), P a s → (∀ (i : Int) (s : σ), a ≤ i → i < a + n → P i s → P (i + 1) (b i s)) → P (a + n) (itS b n a s)
  | 0, a, s, h0, _ => by simpa [itS] using h0
  | n + 1, a, s, h0, hstep => by
    have e : a + 1 + (n : Int) = a + ((n + 1 : Nat) : Int) := by omega
    have := it_inv P n (a + 1) (b a s) (hstep a s (by omega) (by omega) h0) (fun i s h3 h4 => hstep i s (by omega) (by omega))
    rw [e] at this
    exact this
/-! letting go, by the counts in cell r: how many blocks are free by it, and the memory behind it; n levels -/
def LG (r : Nat) : Nat → am_M → Int → Int × am_M
  | 0, M, _ => (0, M)
  | n + 1, M, t =>
    if 0 ≤ t ∧ t < 256 then
      if am_wr (M r t - 1) = 0 then
        if t < 96 then (1, am_set M r t (am_wr (M r t - 1)))
        else itS (fun k s => (am_wr (s.1 + (LG r n s.2 (atS (s.2 6) t k)).1), (LG r n s.2 (atS (s.2 6) t k)).2)) 8 0 (0, am_set M r t (am_wr (M r t - 1)))
      else (0, am_set M r t (am_wr (M r t - 1)))
    else (0, M)
theorem S_Po_letGo (d r : Nat) : ∀ (n : Nat), n < 1000 → ∀ (t : Int) (M : am_M), am_m am_P (d + n + 2) j_Po_letGo [am_r 2 2, am_r 11 r, am_i t, am_i ((n : Int) - 1)] M = some (some (am_i (LG r n M t).1), (LG r n M t).2)
  | 0, _, t, M => by
    show am_at am_P (d + 0 + 1) j_Po_letGo 0 [am_r 2 2, am_r 11 r, am_i t, am_i (((0 : Nat) : Int) - 1), am_u, am_u] [] M = _
    rw [E_Po_letGo_0, if_pos (by omega)]
    rfl
  | n + 1, hn, t, M => by
    show am_at am_P (d + (n + 1) + 1) j_Po_letGo 0 [am_r 2 2, am_r 11 r, am_i t, am_i (((n + 1 : Nat) : Int) - 1), am_u, am_u] [] M = _
    rw [E_Po_letGo_0, if_neg (by omega), S_Tv_isThing, bI_some]
    unfold LG
    by_cases ht : 0 ≤ t ∧ t < 256
    · rw [if_neg (by rw [b2_t ht]; omega), if_pos ht.2, if_t ht, if_t ht, w_eq, if_t ht, set_eq, up_eq, if_pos ht]
      by_cases hz : am_wr (M r t - 1) = 0
      · rw [if_pos hz, if_pos hz, S_Tv_isPart, bI_some]
        by_cases hb : t < 96
        · rw [if_pos (b2_f (by omega)), if_pos hb]
        · rw [if_neg (by rw [b2_t (by omega)]; omega), if_neg hb, v_eq, v_eq]
          refine lp_it (σ := Int × am_M) (F := fun i s => am_at am_P (d + (n + 1) + 1) j_Po_letGo 49 [am_r 2 2, am_r 11 r, am_i t, am_i (((n + 1 : Nat) : Int) - 1), am_i s.1, am_i i] [] s.2) (r := fun s => some (some (am_i s.1), s.2)) 8 0 (0, am_set M r t (am_wr (M r t - 1))) (fun s => ?_) (fun i s h1 h2 => ?_)
          · try dsimp only
            rw [E_Po_letGo_49, if_neg (by omega)]
          · try dsimp only
            rw [E_Po_letGo_49, if_pos (by omega), S_Po_at, bI_some, wr_id (z := ((n + 1 : Nat) : Int) - 1 - 1) (by omega) (by omega), show ((n + 1 : Nat) : Int) - 1 - 1 = (n : Int) - 1 by omega]
            rw [show d + (n + 1) + 1 = d + n + 2 by omega, S_Po_letGo d r n (by omega), bI_some, v_eq, v_eq, wr_id (z := i + 1) (by omega) (by omega)]
      · rw [if_neg hz, if_neg hz]
    · rw [if_pos (b2_f ht), if_neg ht]
theorem S_letGo3 (d r : Nat) (t : Int) (M : am_M) : am_m am_P (d + 6) j_Po_letGo [am_r 2 2, am_r 11 r, am_i t, am_i 3] M = some (some (am_i (LG r 4 M t).1), (LG r 4 M t).2) := S_Po_letGo d r 4 (by omega) t M
theorem LG_off (r : Nat) : ∀ (n : Nat) (M : am_M) (t : Int) (k : Nat), k ≠ r → (LG r n M t).2 k = M k
  | 0, _, _, _, _ => rfl
  | n + 1, M, t, k, hk => by
    unfold LG
    by_cases ht : 0 ≤ t ∧ t < 256
    · rw [if_pos ht]
      by_cases hz : am_wr (M r t - 1) = 0
      · rw [if_pos hz]
        by_cases hb : t < 96
        · rw [if_pos hb]; exact set_ne _ _ _ hk
        · rw [if_neg hb]
          refine it_inv (σ := Int × am_M) (fun _ s => s.2 k = M k) 8 0 _ (set_ne _ _ _ hk) (fun i s _ _ hs => ?_)
          dsimp only
          rw [LG_off r n _ _ k hk]
          exact hs
      · rw [if_neg hz]; exact set_ne _ _ _ hk
    · rw [if_neg ht]
def hangS (M : am_M) (t k x : Int) : am_M := if 96 ≤ t ∧ t < 256 ∧ 0 ≤ k ∧ k < 8 then (LG 4 4 (am_set (raiseS M x) 6 ((t - 96) * 8 + k) x) (M 6 ((t - 96) * 8 + k))).2 else M
theorem raise_off (M : am_M) (t : Int) {k : Nat} (h : k ≠ 4) : raiseS M t k = M k := by
  unfold raiseS
  split
  · exact set_ne _ _ _ h
  · rfl
theorem S_Po_hang (d : Nat) (t k x : Int) (M : am_M) : am_m am_P (d + 7) j_Po_hang [am_r 2 2, am_i t, am_i k, am_i x] M = some (none, hangS M t k x) := by
  show am_at am_P (d + 6) j_Po_hang 0 [am_r 2 2, am_i t, am_i k, am_i x, am_u, am_u] [] M = _
  rw [E_Po_hang_0, S_Tv_isPart, bI_some]
  unfold hangS
  by_cases ht : 96 ≤ t ∧ t < 256
  · rw [if_neg (by rw [b2_t ht]; omega)]
    by_cases h0 : k < 0
    · rw [if_pos h0, if_neg (by omega)]
    · rw [if_neg h0]
      by_cases h8 : k < 8
      · rw [if_pos h8, if_pos (by omega), v_eq, wr_id (z := t - 96) (by omega) (by omega), wr_id (z := (t - 96) * 8) (by omega) (by omega), wr_id (z := (t - 96) * 8 + k) (by omega) (by omega), if_t (by omega), v_eq, S_Po_raise, bV_some, if_t (by omega), w_eq, S_letGo3, bI_some]
      · rw [if_neg h8, if_neg (by omega)]
  · rw [if_pos (b2_f ht), if_neg (fun q => ht ⟨q.1, q.2.1⟩)]
/-- the least free part -/
def frPS (M : am_M) : Int := fd (fun i => M 4 i = 0) (fun _ => inferInstance) 96 160
def ownS (M : am_M) (t kd : Int) : Int × am_M := if cntS (M 4) t = 1 then (t, M) else if frPS M = -1 then (-1, M) else (frPS M, itS (fun k N => am_set (raiseS N (atS (N 6) t k)) 6 ((frPS M - 96) * 8 + k) (atS (N 6) t k)) 8 0 (am_set M 5 (frPS M - 96) kd))
theorem frPS_in (M : am_M) : frPS M = -1 ∨ (96 ≤ frPS M ∧ frPS M < 256 ∧ M 4 (frPS M) = 0) := by
  rcases fd_spec (p := fun i => M 4 i = 0) (dp := fun _ => inferInstance) 160 96 with ⟨h, -⟩ | ⟨h1, h2, h3, -⟩
  · exact Or.inl h
  · exact Or.inr ⟨h1, by unfold frPS; omega, h3⟩
theorem S_Po_ownPart (d : Nat) (t kd : Int) (M : am_M) : am_m am_P (d + 3) j_Po_ownPart [am_r 2 2, am_i t, am_i kd] M = some (some (am_i (ownS M t kd).1), (ownS M t kd).2) := by
  show am_at am_P (d + 2) j_Po_ownPart 0 [am_r 2 2, am_i t, am_i kd, am_u, am_u, am_u] [] M = _
  rw [E_Po_ownPart_0, S_Po_countOf, bI_some]
  unfold ownS
  by_cases h1 : cntS (M 4) t = 1
  · rw [if_pos h1, if_pos h1]
  · rw [if_neg h1, if_neg h1, S_Po_leastFree (d + 1) (by omega) (by omega) (by omega), bI_some, v_eq]
    show (if frPS M = -1 then _ else _) = _
    rcases frPS_in M with hf | ⟨hf1, hf2, hf3⟩
    · rw [if_pos hf, if_pos hf]
    · have e : fd (fun i => M 4 i = 0) (fun _ => inferInstance) 96 (256 - 96 : Int).toNat = frPS M := rfl
      rw [e]
      rw [if_neg (by omega), if_neg (by omega), wr_id (z := frPS M - 96) (by omega) (by omega), if_t (by omega), w_eq, v_eq]
      refine Eq.trans (lp_it (σ := am_M) (F := fun i N => am_at am_P (d + 2) j_Po_ownPart 41 [am_r 2 2, am_i t, am_u, am_i (frPS M), am_i i, am_u] [] N) (b := fun k N => am_set (raiseS N (atS (N 6) t k)) 6 ((frPS M - 96) * 8 + k) (atS (N 6) t k)) (r := fun N => some (some (am_i (frPS M)), N)) 8 0 (am_set M 5 (frPS M - 96) kd) (fun s => ?_) (fun i s h1 h2 => ?_)) rfl
      · try dsimp only
        rw [E_Po_ownPart_41, if_neg (by omega)]
      · try dsimp only
        rw [E_Po_ownPart_41, if_pos (by omega), S_Po_at, bI_some, v_eq, S_Po_raise, bV_some, wr_id (z := frPS M - 96) (by omega) (by omega), wr_id (z := (frPS M - 96) * 8) (by omega) (by omega), wr_id (z := (frPS M - 96) * 8 + i) (by omega) (by omega), if_t (by omega), w_eq, v_eq, wr_id (z := i + 1) (by omega) (by omega)]
/-- how many are mapped below a part of kind n -/
def mu (pl : Int → Int) : Nat → Int → Int
  | 0, t => if t = -1 then 0 else sm (fun k => if atS pl t k = -1 then 0 else 1) 8
  | n + 1, t => if t = -1 then 0 else sm (fun k => mu pl n (atS pl t k)) 8
theorem mu_bd (pl : Int → Int) : ∀ (n : Nat) (t : Int), 0 ≤ mu pl n t ∧ mu pl n t ≤ (8 ^ (n + 1) : Nat)
  | 0, t => by
    unfold mu
    split
    · simp
    · have := sm_bd (f := fun k => if atS pl t k = -1 then 0 else 1) (c := 1) 8 (fun k _ => by (try dsimp only); split <;> omega)
      simpa using this
  | n + 1, t => by
    unfold mu
    split
    · exact ⟨Int.le_refl _, Int.natCast_nonneg _⟩
    · have := sm_bd (f := fun k => mu pl n (atS pl t k)) (c := 8 ^ (n + 1)) 8 (fun k _ => mu_bd pl n _)
      rw [show (8 : Nat) ^ (n + 1 + 1) = 8 ^ (n + 1) * 8 from Nat.pow_succ ..]
      exact this
theorem S_Po_mappedUnder (d : Nat) : ∀ (n : Nat), n < 3 → ∀ (t : Int) (M : am_M), am_m am_P (d + n + 3) j_Po_mappedUnder [am_r 2 2, am_i t, am_i (n : Int)] M = some (some (am_i (mu (M 6) n t)), M)
  | 0, _, t, M => by
    show am_at am_P (d + 0 + 2) j_Po_mappedUnder 0 [am_r 2 2, am_i t, am_i ((0 : Nat) : Int), am_u, am_u] [] M = _
    rw [E_Po_mappedUnder_0]
    unfold mu
    by_cases h : t = -1
    · rw [if_pos h, if_pos h]
    · rw [if_neg h, if_neg h, if_neg (by omega), S_Po_filledPlaces, bI_some]
  | n + 1, hn, t, M => by
    show am_at am_P (d + (n + 1) + 2) j_Po_mappedUnder 0 [am_r 2 2, am_i t, am_i ((n + 1 : Nat) : Int), am_u, am_u] [] M = _
    rw [E_Po_mappedUnder_0]
    unfold mu
    by_cases h : t = -1
    · rw [if_pos h, if_pos h]
    · rw [if_neg h, if_neg h, if_pos (by omega), v_eq, v_eq]
      refine lp_sum (F := fun s i => am_at am_P (d + (n + 1) + 2) j_Po_mappedUnder 22 [am_r 2 2, am_i t, am_i ((n + 1 : Nat) : Int), am_i s, am_i i] [] M) (f := fun k => mu (M 6) n (atS (M 6) t k)) (n := 8) ?_ ?_
      · try dsimp only
        rw [E_Po_mappedUnder_22, if_neg (by omega)]
      · intro i hi
        try dsimp only
        have h8 : (8 : Nat) ^ (n + 1) ≤ 64 := by
          rcases (show n = 0 ∨ n = 1 by omega) with rfl | rfl <;> decide
        have hb := sm_bd (f := fun k => mu (M 6) n (atS (M 6) t k)) (c := 64) i (fun k _ => by have := mu_bd (M 6) n (atS (M 6) t k); (try dsimp only); omega)
        have hq := mu_bd (M 6) n (atS (M 6) t i)
        rw [E_Po_mappedUnder_22, if_pos (by omega), S_Po_at, bI_some, wr_id (z := ((n + 1 : Nat) : Int) - 1) (by omega) (by omega), show ((n + 1 : Nat) : Int) - 1 = (n : Int) by omega]
        rw [show d + (n + 1) + 2 = d + n + 3 by omega, S_Po_mappedUnder d n (by omega), bI_some, v_eq, v_eq]
        generalize sm (fun k => mu (M 6) n (atS (M 6) t k)) i = s at hb ⊢
        rw [wr_id (z := s + mu (M 6) n (atS (M 6) t i)) (by omega) (by omega), wr_id (z := (i : Int) + 1) (by omega) (by omega)]
