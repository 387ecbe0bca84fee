/-! OPENING an address to a kind: class and reference together -/
theorem open_both (d : Nat) {ex : Int → Int} {v : Nat} {a low : Int} (ha : 0 ≤ a ∧ a < 512) (hl : 0 ≤ low ∧ low ≤ 2) (N : am_M) {M : am_M} {A : Int → Int} (hPI : PI A (M 4) (M 5) (M 6) (M 10) ex) (hV : RV M A) (hv : thS M v) :
    OP A ex M v a low N (opS v a low 3 M (-1)) (am_m am_P (d + 9) j_Md_openTo [am_r 6 504, am_i v, am_i a, am_i low] (am_st N 505 (wc A (M 4)))) := by
  have hX : am_m am_P (d + 9) j_Md_openTo [am_r 6 504, am_i v, am_i a, am_i low] (am_st N 505 (wc A (M 4))) = am_at am_P (d + 8) j_Md_openTo 0 [am_r 6 504, am_i v, am_i a, am_i low, am_u, am_u, am_u, am_u] [] (am_st N 505 (wc A (M 4))) := rfl
  have hv12 : v < 12 := by have := hv.2.1; omega
  have hv2 : 0 ≤ (v : Int) ∧ (v : Int) < 12 := by omega
  have h4 : (0 : Int) ≤ 4 ∧ (4 : Int) < 9 := by decide
  obtain ⟨v1, v2⟩ := hV v hv12
  have hA := v2 hv.2.2
  have hw : M 10 v = -1 ∨ (96 ≤ M 10 v ∧ M 10 v < 256 ∧ M 4 (M 10 v) ≠ 0 ∧ M 5 (M 10 v - 96) = 2) := by
    rcases v1 with e | ⟨e1, e2, e3⟩
    · exact Or.inl e
    · exact Or.inr ⟨e1, e2, by have := hPI.trunk hv12 ⟨by omega, e2⟩; omega, e3⟩
  have e3 : thgS M v a (((2 : Nat) : Int) + 1) = M 10 v := by unfold thgS; rw [if_pos hv, if_pos (by omega)]
  have hget : ∀ R : Int → Int, R (1796 + 9 * (v : Int) + 4) = decT (M 10 v) → am_m am_P (d + 8) j_Md_get [am_r 6 504, am_i v, am_i 4] (am_st N 505 R) = some (some (am_i (decT (M 10 v))), am_st N 505 R) := fun R hR => by
    rw [S_Md_get (d + 7) hv2 h4, st_eq, hR]
  have hA' : wc A (M 4) (1796 + 9 * (v : Int) + 4) = decT (M 10 v) := by rw [wc_o _ _ (Or.inr (by omega))]; exact hA
  rw [hX, E_Md_openTo_0, hget _ hA', bI_some]
  unfold opS
  rw [if_neg (show ¬ ((2 : Nat) : Int) < low by omega), e3]
  by_cases h1 : cntS (M 4) (M 10 v) = 1
  · have hne : M 10 v ≠ -1 := fun e => by rw [e] at h1; unfold cntS at h1; rw [if_neg (by omega)] at h1; omega
    obtain ⟨t1, t2, t3, t4⟩ : 96 ≤ M 10 v ∧ M 10 v < 256 ∧ M 4 (M 10 v) ≠ 0 ∧ M 5 (M 10 v - 96) = 2 := by
      rcases hw with e | e
      · exact absurd e hne
      · exact e
    obtain ⟨o1, o2⟩ := lvl_old hPI (kp := 2) (by omega) ⟨t1, t2, t3, t4⟩ h1 (d + 4) N
    obtain ⟨o, ho⟩ : ∃ o : Nat, M 10 v = (o : Int) + 96 := ⟨(M 10 v - 96).toNat, by omega⟩
    have ed : decT (M 10 v) = (o : Int) := by rw [decT_part ⟨t1, t2⟩]; omega
    have o1' : ownS M (M 10 v) ((2 : Nat) : Int) = (M 10 v, M) := o1
    rw [o2, bI_some, v_eq, o1']
    (try dsimp only)
    rw [if_neg hne, if_pos rfl, if_neg (show ¬ decT (M 10 v) = -1 by omega), hget _ hA', bI_some, if_pos rfl, v_eq, ed, ho]
    rw [ho] at e3
    rw [show M 10 v - 96 = (o : Int) by omega] at t4
    exact open_lv d ha hl.1 N 2 (by omega) (by omega) M A o hPI hV hv (by omega) e3 t4
  · rcases frC_in (M 4) with hf | ⟨f1, f2, f3⟩
    · obtain ⟨o1, o2⟩ := lvl_none hPI (kp := 2) (by omega) hw h1 hf (d + 4) N
      have o1' : ownS M (M 10 v) ((2 : Nat) : Int) = (-1, M) := o1
      rw [o2, bI_some, v_eq, o1']
      (try dsimp only)
      rw [if_pos rfl, if_pos rfl]
      refine Or.inl ⟨wc A (M 4), rfl, rfl, fun y hy _ => ?_, fun _ _ _ _ _ => rfl⟩
      exact wc_o _ _ (by omega)
    · obtain ⟨q, hq⟩ : ∃ q : Nat, frC (M 4) = (q : Int) := ⟨(frC (M 4)).toNat, by omega⟩
      obtain ⟨M', A', R, hqn, g1, g1', g2, g3, g4, g5, g6, g7, g8, g9, g10, g11, g12, g13, g14, g15, g16⟩ := lvl_trunk hPI hV hq hv h1 (d + 2) N
      have g1c : (ownS M (M 10 v) ((2 : Nat) : Int)).1 = (q : Int) + 96 := g1
      have g2c : hgTS (ownS M (M 10 v) ((2 : Nat) : Int)).2 v ((q : Int) + 96) = M' := g2
      rw [g3, bI_some, v_eq, if_neg (show ¬ (q : Int) = -1 by omega), hget R g4, bI_some, if_neg g5, g6, bV_some, v_eq]
      rw [g1c, if_neg (by omega), if_neg g1', if_pos rfl, g2c]
      have hv' : thS M' v := by
        refine ⟨hv.1, hv.2.1, ?_⟩
        rw [g12 7 (by decide) (by decide) (by decide) (by decide)]; exact hv.2.2
      have hP' : thgS M' v a (((2 : Nat) : Int) + 1) = (q : Int) + 96 := by
        unfold thgS
        rw [if_pos hv', if_pos (by omega)]
        exact g9
      have := open_lv d ha hl.1 N 2 (by omega) (by omega) M' A' q g7 g8 hv' hqn hP' g10
      rcases this with ⟨R', r1, r2, r3, r4⟩ | ⟨o, A2, r1, r2, r3, r4, r5, r6, r7, r8, r9, r10, r11⟩
      · exact Or.inl ⟨R', r1, r2, fun y hy hyv => by rw [r3 y hy hyv, g15 y (by omega) hyv], fun i h4 h5 h6 h10 => by rw [r4 i h4 h5 h6 h10, g12 i h4 h5 h6 h10]⟩
      · exact Or.inr ⟨o, A2, r1, r2, r3, r4, r5, r6, r7, fun i h4 h5 h6 h10 => by rw [r8 i h4 h5 h6 h10, g12 i h4 h5 h6 h10], fun w hw => by rw [r9 w hw, g11 w hw], fun y hy hyv => by rw [r10 y hy hyv, g15 y hy hyv], fun x hx h0 => r11 x hx (g16 x hx h0)⟩
