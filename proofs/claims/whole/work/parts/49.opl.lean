/-! OPENING below the trunk, to a kind: the loops side by side -/
/-- what comes of opening: class (part, memory) and reference (answer) -/
def OP (A ex : Int → Int) (M : am_M) (v a low : Int) (N : am_M) (r : Int × am_M) (X : Option am_O) : Prop :=
  (∃ R : Int → Int, r.1 = -1 ∧ X = some (some (am_i (-1)), am_set (am_st N 505 R) 504 2 1) ∧ (∀ y : Int, (y < 4 ∨ 1796 ≤ y) → y ≠ 1796 + 9 * v + 4 → R y = A y) ∧ (∀ k : Nat, k ≠ 4 → k ≠ 5 → k ≠ 6 → k ≠ 10 → r.2 k = M k)) ∨
  (∃ (o : Nat) (A' : Int → Int), o < 160 ∧ r.1 = (o : Int) + 96 ∧ X = some (some (am_i o), am_st N 505 (wc A' (r.2 4))) ∧ PI A' (r.2 4) (r.2 5) (r.2 6) (r.2 10) ex ∧ RV r.2 A' ∧ r.2 5 o = low ∧ thgS r.2 v a (low + 1) = (o : Int) + 96 ∧ (∀ k : Nat, k ≠ 4 → k ≠ 5 → k ≠ 6 → k ≠ 10 → r.2 k = M k) ∧ (∀ w : Int, w ≠ v → r.2 10 w = M 10 w) ∧ (∀ y : Int, (y < 196 ∨ 1796 ≤ y) → y ≠ 1796 + 9 * v + 4 → A' y = A y) ∧ (∀ x : Int, x < 96 → M 4 x = 0 → r.2 4 x = 0))
theorem open_lv (d : Nat) {ex : Int → Int} {v : Nat} {a low : Int} (ha : 0 ≤ a ∧ a < 512) (hl : 0 ≤ low) (N : am_M) : ∀ (m : Nat), m ≤ 2 → low ≤ m → ∀ (M : am_M) (A : Int → Int) (p : Nat), PI A (M 4) (M 5) (M 6) (M 10) ex → RV M A → thS M v → p < 160 → thgS M v a ((m : Int) + 1) = (p : Int) + 96 → M 5 p = m →
    OP A ex M v a low N (opS v a low m M ((p : Int) + 96)) (am_at am_P (d + 8) j_Md_openTo 42 [am_r 6 504, am_u, am_i a, am_i low, am_i p, am_i m, am_u, am_u] [] (am_st N 505 (wc A (M 4))))
  | 0, _, hlm, M, A, p, hPI, hV, hv, hp, hP, hk => by
    have h0 : low = 0 := by omega
    refine Or.inr ⟨p, A, hp, rfl, ?_, hPI, hV, ?_, ?_, fun _ _ _ _ _ => rfl, fun _ _ => rfl, fun _ _ _ => rfl, fun _ _ h => h⟩
    · rw [E_Md_openTo_42, if_neg (by omega)]
      rfl
    · show M 5 p = low
      omega
    · show thgS M v a (low + 1) = _
      rw [h0]
      exact hP
  | m + 1, hm, hlm, M, A, p, hPI, hV, hv, hp, hP, hk => by
    have hu := thg_used hPI hv a hm (by omega) hp hV hP
    by_cases hst : (m : Int) < low
    · have e : opS v a low (m + 1) M ((p : Int) + 96) = ((p : Int) + 96, M) := by unfold opS; rw [if_pos hst]
      rw [e]
      refine Or.inr ⟨p, A, hp, rfl, ?_, hPI, hV, ?_, ?_, fun _ _ _ _ _ => rfl, fun _ _ => rfl, fun _ _ _ => rfl, fun _ _ h => h⟩
      · rw [E_Md_openTo_42, if_neg (by omega)]
      · show M 5 p = low
        omega
      · show thgS M v a (low + 1) = _
        rw [show low = ((m + 1 : Nat) : Int) by omega]
        exact hP
    · have hx := thg_next hv a (m := m) (by omega) hp hP
      have h8 := plc_8 a ((m : Int) + 1)
      obtain ⟨k, hkk⟩ : ∃ k : Nat, plc a ((m : Int) + 1) = (k : Int) := ⟨(plc a ((m : Int) + 1)).toNat, by omega⟩
      have hk8 : k < 8 := by omega
      rw [hkk] at hx
      have hkd : M 5 p = (m : Int) + 1 := by omega
      have hw : M 6 ((p : Int) * 8 + k) = -1 ∨ (96 ≤ M 6 ((p : Int) * 8 + k) ∧ M 6 ((p : Int) * 8 + k) < 256 ∧ M 4 (M 6 ((p : Int) * 8 + k)) ≠ 0 ∧ M 5 (M 6 ((p : Int) * 8 + k) - 96) = m) := by
        rcases hPI.kw.ft hp hk8 hu with e | ⟨e, -⟩ | ⟨e1, e2, e3, e4, e5⟩
        · exact Or.inl e
        · omega
        · exact Or.inr ⟨e3, e4, by have := hPI.child hp hk8 hu ⟨by omega, e4⟩; omega, by omega⟩
      have hA : A (198 + 10 * (p : Int) + k) = decT (M 6 ((p : Int) * 8 + k)) := by
        rw [(hPI.co p hp hu).2 k hk8, hkd]
        unfold dec decT
        by_cases hm1 : M 6 ((p : Int) * 8 + k) = -1
        · rw [if_pos hm1, if_pos hm1]
        · rw [if_neg hm1, if_neg hm1, if_neg (by omega)]
      have hp2 : 0 ≤ (p : Int) ∧ (p : Int) < 160 := by omega
      have hk2 : 0 ≤ (k : Int) ∧ (k : Int) < 8 := by omega
      have em : am_wr (((m + 1 : Nat) : Int) - 1) = (m : Int) := by rw [wr_id (by omega) (by omega)]; omega
      have em2 : am_wr (((m + 1 : Nat) : Int) + -1) = (m : Int) := by rw [wr_id (by omega) (by omega)]; omega
      have es : am_m am_P (d + 8) j_Md_stepIn [am_i a, am_i ((m + 1 : Nat) : Int)] (am_st N 505 (wc A (M 4))) = some (some (am_i (k : Int)), am_st N 505 (wc A (M 4))) := by
        rw [S_Md_stepIn (d + 7) ha (by omega), show ((m + 1 : Nat) : Int) = (m : Int) + 1 by omega, hkk]
      rw [E_Md_openTo_42, if_pos (by omega), es, bI_some, v_eq, S_Md_placeOf (d + 7) hp2 hk2, bI_some, st_eq, wc_l _ _ hp2 hk2, hA, em, em2]
      unfold opS
      rw [if_neg hst, hx]
      by_cases h1 : cntS (M 4) (M 6 ((p : Int) * 8 + k)) = 1
      · have hne : M 6 ((p : Int) * 8 + k) ≠ -1 := fun e => by rw [e] at h1; unfold cntS at h1; rw [if_neg (by omega)] at h1; omega
        obtain ⟨e1, e2, e3, e4⟩ : 96 ≤ M 6 ((p : Int) * 8 + k) ∧ M 6 ((p : Int) * 8 + k) < 256 ∧ M 4 (M 6 ((p : Int) * 8 + k)) ≠ 0 ∧ M 5 (M 6 ((p : Int) * 8 + k) - 96) = m := by
          rcases hw with e | e
          · exact absurd e hne
          · exact e
        obtain ⟨o1, o2⟩ := lvl_old hPI (kp := m) (by omega) ⟨e1, e2, e3, e4⟩ h1 (d + 4) N
        obtain ⟨o, ho⟩ : ∃ o : Nat, M 6 ((p : Int) * 8 + k) = (o : Int) + 96 := ⟨(M 6 ((p : Int) * 8 + k) - 96).toNat, by omega⟩
        have ed : decT (M 6 ((p : Int) * 8 + k)) = (o : Int) := by rw [decT_part ⟨e1, e2⟩]; omega
        rw [o2, bI_some, v_eq, o1]
        (try dsimp only)
        rw [if_neg hne, if_pos rfl, if_neg (show ¬ decT (M 6 ((p : Int) * 8 + k)) = -1 by omega), S_Md_placeOf (d + 7) hp2 hk2, bI_some, st_eq, wc_l _ _ hp2 hk2, hA, if_pos rfl, v_eq, v_eq, ed, ho]
        rw [ho] at hx
        rw [show M 6 ((p : Int) * 8 + k) - 96 = (o : Int) by omega] at e4
        exact open_lv d ha hl N m (by omega) (by omega) M A o hPI hV hv (by omega) hx e4
      · rcases frC_in (M 4) with hf | ⟨f1, f2, f3⟩
        · obtain ⟨o1, o2⟩ := lvl_none hPI (kp := m) (by omega) hw h1 hf (d + 4) N
          rw [o2, bI_some, v_eq, o1]
          (try dsimp only)
          rw [if_pos rfl, if_pos rfl]
          refine Or.inl ⟨wc A (M 4), rfl, rfl, fun y hy _ => ?_, fun _ _ _ _ _ => rfl⟩
          exact wc_o _ _ (by omega)
        · obtain ⟨q, hq⟩ : ∃ q : Nat, frC (M 4) = (q : Int) := ⟨(frC (M 4)).toNat, by omega⟩
          obtain ⟨M', A', R, hqn, g1, g2, g3, g4, g5, g6, g7, g8, g9, g10, g11, g12, g13, g14, g15⟩ := lvl_fresh hPI hV hq hp hk8 hu (kp := m) (by omega) hkd h1 hw d N
          have hqx : (q : Int) + 96 ≠ M 6 ((p : Int) * 8 + k) := fun e => by
            rcases hw with e' | ⟨-, -, e', -⟩
            · omega
            · rw [← e, ← hq] at e'; exact e' f3
          rw [g3, bI_some, v_eq, if_neg (show ¬ (q : Int) = -1 by omega), S_Md_placeOf (d + 7) hp2 hk2, bI_some, st_eq, g4, if_neg g5, g6, bV_some, v_eq, v_eq]
          rw [g1, if_neg (by omega), if_neg hqx, if_neg (by omega), hkk, g2]
          have hv' : thS M' v := by
            refine ⟨hv.1, hv.2.1, ?_⟩
            rw [g11 7 (by decide) (by decide) (by decide)]; exact hv.2.2
          have hP' : thgS M' v a (((m + 1 : Nat) : Int) + 1) = (p : Int) + 96 := by
            rcases (show m = 0 ∨ m = 1 by omega) with rfl | rfl
            · have e3 : thgS M v a 3 = M 10 v := by unfold thgS; rw [if_pos hv, if_pos (by omega)]
              have e3' : thgS M' v a 3 = M 10 v := by unfold thgS; rw [if_pos hv', if_pos (by omega), g11 10 (by decide) (by decide) (by decide)]
              rcases (hV v (by have := hv.2.1; omega)).1 with e | ⟨t1, t2, t3⟩
              · exfalso
                have : thgS M v a 2 = atS (M 6) (M 10 v) (plc a 2) := by unfold thgS; rw [if_pos hv, if_neg (by omega), if_pos rfl]; rfl
                rw [e, at_m1] at this
                have hP : thgS M v a 2 = (p : Int) + 96 := hP
                omega
              · obtain ⟨t, ht⟩ : ∃ t : Nat, M 10 v = (t : Int) + 96 := ⟨(M 10 v - 96).toNat, by omega⟩
                have htu := thg_used hPI hv a (m := 2) (by omega) (by omega) (p := t) (by omega) hV (by show thgS M v a 3 = _; rw [e3, ht])
                have n1 := thg_next hv a (m := 1) (by omega) (p := t) (by omega) (by show thgS M v a 3 = _; rw [e3, ht])
                have n2 := thg_next hv' a (m := 1) (by omega) (p := t) (by omega) (by show thgS M' v a 3 = _; rw [e3', ht])
                have h82 := plc_8 a (((1 : Nat) : Int) + 1)
                obtain ⟨i, hi⟩ : ∃ i : Nat, plc a (((1 : Nat) : Int) + 1) = (i : Int) := ⟨(plc a (((1 : Nat) : Int) + 1)).toNat, by omega⟩
                rw [hi] at n1 n2
                have htp : t ≠ p := fun e => by
                  rw [show M 10 v - 96 = (t : Int) by omega, e] at t3
                  omega
                rw [g12 t i (by omega) htu (by omega) (fun q => htp q.1), ← n1] at n2
                exact n2.trans hP
            · show thgS M' v a 3 = _
              have hP : thgS M v a 3 = (p : Int) + 96 := hP
              unfold thgS at hP ⊢
              rw [if_pos hv, if_pos (by omega)] at hP
              rw [if_pos hv', if_pos (by omega), g11 10 (by decide) (by decide) (by decide)]
              exact hP
          have hx' := thg_next hv' a (m := m) (by omega) hp hP'
          rw [hkk, g9] at hx'
          have := open_lv d ha hl N m (by omega) (by omega) M' A' q g7 g8 hv' hqn hx' g10
          rcases this with ⟨R', r1, r2, r3, r4⟩ | ⟨o, A2, r1, r2, r3, r4, r5, r6, r7, r8, r9, r10, r11⟩
          · exact Or.inl ⟨R', r1, r2, fun y hy hyv => by rw [r3 y hy hyv, g14 y (by omega)], fun i h4 h5 h6 h10 => by rw [r4 i h4 h5 h6 h10, g11 i h4 h5 h6]⟩
          · exact Or.inr ⟨o, A2, r1, r2, r3, r4, r5, r6, r7, fun i h4 h5 h6 h10 => by rw [r8 i h4 h5 h6 h10, g11 i h4 h5 h6], fun w hw => by rw [r9 w hw, g11 10 (by decide) (by decide) (by decide)], fun y hy hyv => by rw [r10 y hy hyv, g14 y hy], fun x hx h0 => r11 x hx (g15 x hx h0)⟩
