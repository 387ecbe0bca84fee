/-! THE REFERENCE makes a part as the class does -/
def rs (c : Int → Int) (x : Int) : Int → Int := if 0 ≤ x ∧ x < 256 then am_up c x (c x + 1) else c
def nw1 (kd t q : Int) (k : Int) (s : (Int → Int) × (Int → Int) × (Int → Int)) : (Int → Int) × (Int → Int) × (Int → Int) := (am_up s.1 (198 + 10 * q + k) (dec kd (atS s.2.2 t k)), rs s.2.1 (atS s.2.2 t k), am_up s.2.2 (q * 8 + k) (atS s.2.2 t k))
/-- a part like another: the row, the counts, the places -/
def nwS (kd t q : Int) (A c pl : Int → Int) : (Int → Int) × (Int → Int) × (Int → Int) := itS (nw1 kd t q) 8 0 (am_up A (196 + 10 * q) kd, c, pl)
/-- the least free part -/
def frC (c : Int → Int) : Int := fd (fun i => c (i + 96) = 0) (fun _ => inferInstance) 0 160
theorem rs_bd {c : Int → Int} {x : Int} {y : Int} : c y ≤ rs c x y ∧ rs c x y ≤ c y + 1 := by
  unfold rs
  split
  · by_cases h : y = x
    · subst h; rw [up_eq]; omega
    · rw [up_ne _ _ h]; omega
  · omega
theorem rs_m1 (c : Int → Int) : rs c (-1) = c := if_neg (by omega)
theorem S_Md_newPart (d : Nat) {A c pl kdf : Int → Int} {kd t : Int} (hkd : 0 ≤ kd ∧ kd ≤ 2) (hb : ∀ x, 0 ≤ c x ∧ c x ≤ 1000000) (ht : t = -1 ∨ (96 ≤ t ∧ t < 256 ∧ c t ≠ 0 ∧ ∀ k : Nat, k < 8 → A (198 + 10 * (t - 96) + k) = dec kd (pl ((t - 96) * 8 + k)) ∧ (pl ((t - 96) * 8 + k) = -1 ∨ FT kdf kd (pl ((t - 96) * 8 + k))))) (M : am_M) :
    am_m am_P (d + 3) j_Md_newPart [am_r 6 504, am_i kd, am_i (decT t)] (am_st M 505 (wc A c)) = if frC c = -1 then some (some (am_i (-1)), am_set (am_st M 505 (wc A c)) 504 2 1) else some (some (am_i (frC c)), am_st M 505 (wc (nwS kd t (frC c) A c pl).1 (nwS kd t (frC c) A c pl).2.1)) := by
  show am_at am_P (d + 2) j_Md_newPart 0 [am_r 6 504, am_i kd, am_i (decT t), am_u, am_u, am_u] [] (am_st M 505 (wc A c)) = _
  rw [E_Md_newPart_0, v_eq]
  have key := lp_fd (F := fun i => am_at am_P (d + 2) j_Md_newPart 2 [am_r 6 504, am_i kd, am_i (decT t), am_i i, am_u, am_u] [] (am_st M 505 (wc A c))) (p := fun i => c (i + 96) = 0) (dp := fun _ => inferInstance) (a := 0) (k := 160) (r := fun i => if i = -1 then some (some (am_i (-1)), am_set (am_st M 505 (wc A c)) 504 2 1) else am_at am_P (d + 2) j_Md_newPart 54 [am_r 6 504, am_i kd, am_i (decT t), am_i i, am_i 0, am_u] [] (am_st M 505 (wc (am_up A (196 + 10 * i) kd) c))) ?_ ?_
  · have hfr := fd_spec (p := fun i => c (i + 96) = 0) (dp := fun _ => inferInstance) 160 0
    (try dsimp only at key)
    rw [key]
    show (if frC c = -1 then _ else _) = _
    by_cases hf : frC c = -1
    · rw [if_pos hf, if_pos hf]
    · have hq : 0 ≤ frC c ∧ frC c < 160 ∧ c (frC c + 96) = 0 := by
        rcases hfr with ⟨h, -⟩ | ⟨h1, h2, h3, -⟩
        · exact absurd h hf
        · exact ⟨h1, by unfold frC; omega, h3⟩
      rw [if_neg hf, if_neg hf]
      have ef : fd (fun i => c (i + 96) = 0) (fun _ => inferInstance) 0 160 = frC c := rfl
      rw [ef]
      generalize frC c = q at hq ⊢
      have hq2 : 0 ≤ q ∧ q < 160 := ⟨hq.1, hq.2.1⟩
      unfold nwS
      refine (lp_itP (σ := (Int → Int) × (Int → Int) × (Int → Int)) (F := fun k s => am_at am_P (d + 2) j_Md_newPart 54 [am_r 6 504, am_i kd, am_i (decT t), am_i q, am_i k, am_u] [] (am_st M 505 (wc s.1 s.2.1))) (b := nw1 kd t q) (r := fun s => some (some (am_i q), am_st M 505 (wc s.1 s.2.1))) (fun k s => (∀ x, 0 ≤ s.2.1 x ∧ s.2.1 x ≤ 1000000 + k) ∧ (t = -1 ∨ ∀ j : Nat, j < 8 → s.1 (198 + 10 * (t - 96) + j) = dec kd (pl ((t - 96) * 8 + j)) ∧ s.2.2 ((t - 96) * 8 + j) = pl ((t - 96) * 8 + j))) 8 0 (am_up A (196 + 10 * q) kd, c, pl) ⟨fun x => by have := hb x; (try dsimp only); omega, ?_⟩ (fun s _ => ?_) (fun k s h1 h2 hs => ?_)).1
      · rcases ht with h | ⟨h1, h2, h3, h4⟩
        · exact Or.inl h
        · refine Or.inr (fun j hj => ⟨?_, rfl⟩)
          (try dsimp only)
          rw [up_ne _ _ (by omega)]
          exact (h4 j hj).1
      · try dsimp only
        rw [E_Md_newPart_54, if_neg (by omega)]
      · obtain ⟨hs1, hs2⟩ := hs
        have e : am_wr (k + 1) = k + 1 := wr_id (by omega) (by omega)
        have hk8 : 0 ≤ k ∧ k < 8 := by omega
        have hbd : ∀ x, 0 ≤ (nw1 kd t q k s).2.1 x ∧ (nw1 kd t q k s).2.1 x ≤ 1000000 + (k + 1) := fun x => by
          have := hs1 x
          have := rs_bd (c := s.2.1) (x := atS s.2.2 t k) (y := x)
          unfold nw1
          (try dsimp only)
          omega
        rcases ht with ht | ⟨t1, t2, t3, t4⟩
        · refine ⟨?_, hbd, Or.inl ht⟩
          have ed : decT t = -1 := if_pos ht
          have ea : atS s.2.2 t k = -1 := by rw [ht]; exact at_m1 _ _
          have ec : dec kd (-1) = -1 := if_pos rfl
          (try dsimp only)
          rw [E_Md_newPart_54, if_pos (by omega), if_pos ed, v_eq, S_Md_letPlace (d + 1) hq2 hk8, bV_some, if_pos rfl, v_eq, e]
          unfold nw1 am_set
          (try dsimp only)
          rw [ea, ec, rs_m1, st_eq, st_st, wc_upN _ _ (by omega) (by omega)]
        · have hs2 : ∀ j : Nat, j < 8 → s.1 (198 + 10 * (t - 96) + j) = dec kd (pl ((t - 96) * 8 + j)) ∧ s.2.2 ((t - 96) * 8 + j) = pl ((t - 96) * 8 + j) := by
            rcases hs2 with h | h
            · omega
            · exact h
          have htq : t - 96 ≠ q := fun h => t3 (by rw [show t = q + 96 by omega]; exact hq.2.2)
          obtain ⟨j, hj⟩ : ∃ j : Nat, k = (j : Int) := ⟨k.toNat, by omega⟩
          subst hj
          have hj8 : j < 8 := by omega
          have ed : decT t = t - 96 := if_neg (by omega)
          have ea : atS s.2.2 t j = pl ((t - 96) * 8 + j) := by rw [at_in ⟨t1, t2⟩ hk8]; exact (hs2 j hj8).2
          have hA := (hs2 j hj8).1
          have ht2 : 0 ≤ t - 96 ∧ t - 96 < 160 := by omega
          refine ⟨?_, hbd, Or.inr (fun i hi => ?_)⟩
          · (try dsimp only)
            rw [E_Md_newPart_54, if_pos (by omega), if_neg (by omega)]
            have e1 : am_m am_P (d + 2) j_Md_placeOf [am_r 6 504, am_i (decT t), am_i (j : Int)] (am_st M 505 (wc s.1 s.2.1)) = some (some (am_i (dec kd (pl ((t - 96) * 8 + j)))), am_st M 505 (wc s.1 s.2.1)) := by
              rw [ed, S_Md_placeOf (d + 1) ht2 hk8, st_eq, wc_l _ _ ht2 hk8, hA]
            rw [e1, bI_some, v_eq, S_Md_letPlace (d + 1) hq2 hk8, bV_some]
            unfold nw1
            (try dsimp only)
            rw [ea]
            unfold am_set
            rw [st_eq, st_st, wc_upN _ _ (by omega) (by omega)]
            rcases (t4 j hj8).2 with hm | hf
            · have ec : dec kd (-1) = -1 := if_pos rfl
              rw [hm, ec, if_pos rfl, v_eq, e, rs_m1]
            · have hx : 0 ≤ pl ((t - 96) * 8 + j) ∧ pl ((t - 96) * 8 + j) < 256 := by
                rcases hf with ⟨-, a2, a3⟩ | ⟨-, -, a3, a4, -⟩ <;> omega
              have er : rs s.2.1 (pl ((t - 96) * 8 + j)) = am_up s.2.1 (pl ((t - 96) * 8 + j)) (s.2.1 (pl ((t - 96) * 8 + j)) + 1) := if_pos hx
              have hcx := hs1 (pl ((t - 96) * 8 + j))
              rw [if_neg (FT_dec hf), S_Md_countIn d hf ⟨hcx.1, by omega⟩, bV_some, v_eq, e, er]
          · unfold nw1
            (try dsimp only)
            rw [up_ne _ _ (by omega), up_ne _ _ (by omega)]
            exact hs2 i hi
  · try dsimp only
    rw [E_Md_newPart_2, if_neg (by omega), if_pos (by omega), if_b1, w_eq, if_pos rfl]
  · intro i h1 h2
    try dsimp only
    have hi : 0 ≤ i ∧ i < 160 := by omega
    rw [E_Md_newPart_2, if_pos (by omega), S_Md_partCount (d + 1) hi, bI_some, st_eq, wc_p _ _ hi]
    by_cases h : c (i + 96) = 0
    · rw [if_pos h, if_pos h, if_neg (show ¬ i = 160 by omega), if_neg (show ¬ i = -1 by omega), wr_id (z := 10 * i) (by omega) (by omega), wr_id (z := 196 + 10 * i) (by omega) (by omega), if_t (by omega), w_eq, v_eq]
      simp only [Nat.reduceAdd]
      unfold am_set
      rw [st_eq, st_st, wc_upN _ _ (by omega) (by omega)]
    · rw [if_neg h, if_neg h, v_eq, wr_id (z := i + 1) (by omega) (by omega)]
