/-! OPENING the trunk: class and reference together -/
theorem lvl_trunk {M : am_M} {A ex : Int → Int} (h : PI A (M 4) (M 5) (M 6) (M 10) ex) (hV : RV M A) {q v : Nat} (hq : frC (M 4) = q) (hv : thS M v) (hn : cntS (M 4) (M 10 v) ≠ 1) (d : Nat) (N : am_M) :
    ∃ (M' : am_M) (A' R : Int → Int), q < 160 ∧ (ownS M (M 10 v) 2).1 = (q : Int) + 96 ∧ (q : Int) + 96 ≠ M 10 v ∧ hgTS (ownS M (M 10 v) 2).2 v ((q : Int) + 96) = M' ∧
      am_m am_P (d + 6) j_Md_own [am_r 6 504, am_i 2, am_i (decT (M 10 v))] (am_st N 505 (wc A (M 4))) = some (some (am_i q), am_st N 505 R) ∧
      R (1796 + 9 * (v : Int) + 4) = decT (M 10 v) ∧ (q : Int) ≠ decT (M 10 v) ∧
      am_m am_P (d + 6) j_Md_hangTrunk [am_r 6 504, am_i v, am_i q] (am_st N 505 R) = some (none, am_st N 505 (wc A' (M' 4))) ∧
      PI A' (M' 4) (M' 5) (M' 6) (M' 10) ex ∧ RV M' A' ∧ M' 10 v = (q : Int) + 96 ∧ M' 5 q = 2 ∧ (∀ w : Int, w ≠ v → M' 10 w = M 10 w) ∧ (∀ r : Nat, r ≠ 4 → r ≠ 5 → r ≠ 6 → r ≠ 10 → M' r = M r) ∧
      (∀ r j : Nat, r < 160 → M 4 ((r : Int) + 96) ≠ 0 → j < 8 → M' 6 ((r : Int) * 8 + j) = M 6 ((r : Int) * 8 + j)) ∧ (∀ r : Nat, r < 160 → M 4 ((r : Int) + 96) ≠ 0 → M' 5 r = M 5 r) ∧ (∀ y : Int, (y < 196 ∨ 1796 ≤ y) → y ≠ 1796 + 9 * (v : Int) + 4 → A' y = A y) ∧ (∀ x : Int, x < 96 → M 4 x = 0 → M' 4 x = 0) := by
  have hq2 : 0 ≤ (q : Int) ∧ (q : Int) < 160 ∧ M 4 ((q : Int) + 96) = 0 := by
    rcases frC_in (M 4) with e | e
    · omega
    · rw [hq] at e; exact e
  have hqn : q < 160 := by omega
  have hv12 : v < 12 := by have := hv.2.1; omega
  obtain ⟨v1, v2⟩ := hV v hv12
  have hA := v2 hv.2.2
  have hw : M 10 v = -1 ∨ (96 ≤ M 10 v ∧ M 10 v < 256 ∧ M 4 (M 10 v) ≠ 0 ∧ M 5 (M 10 v - 96) = 2) := by
    rcases v1 with e | ⟨e1, e2, e3⟩
    · exact Or.inl e
    · exact Or.inr ⟨e1, e2, by have := h.trunk hv12 ⟨by omega, e2⟩; omega, e3⟩
  have hqm : (q : Int) + 96 ≠ M 10 v := by
    rcases hw with e | ⟨-, -, e3, -⟩
    · omega
    · intro e; rw [← e] at e3; exact e3 hq2.2.2
  generalize hs : nwS 2 (M 10 v) q A (M 4) (M 6) = s
  obtain ⟨f1, hbd, f4⟩ := fresh_trunk h hqn hq2.2.2 hv12 hs hw hA d N
  obtain ⟨o1, o2⟩ := open_trunk h hq hv hs hn hw hA
  have hN := nw_NI (kp := 2) h hqn hq2.2.2 (t := M 10 v) (by
    rcases hw with h | ⟨h1, h2, h3, -⟩
    · exact Or.inl h
    · exact Or.inr ⟨h1, h2, h3⟩)
  rw [hs] at hN
  obtain ⟨j, -, hu, -, -, hpl, hAo, -, -, -⟩ := hN
  have e4 : ∀ (kd pl c tr : Int → Int), am_st (m546 M kd pl c) 10 tr 4 = c := fun _ _ _ _ => by rw [st_ne _ _ (by decide), m546_4]
  have e5 : ∀ (kd pl c tr : Int → Int), am_st (m546 M kd pl c) 10 tr 5 = kd := fun _ _ _ _ => by rw [st_ne _ _ (by decide), m546_5]
  have e6 : ∀ (kd pl c tr : Int → Int), am_st (m546 M kd pl c) 10 tr 6 = pl := fun _ _ _ _ => by rw [st_ne _ _ (by decide), m546_6]
  have e10 : ∀ (kd pl c tr : Int → Int), am_st (m546 M kd pl c) 10 tr 10 = tr := fun _ _ _ _ => st_eq _ _ _
  refine ⟨_, am_up s.1 (1796 + 9 * (v : Int) + 4) q, wc s.1 s.2.1, hqn, o1, hqm, o2, ?_, ?_, ?_, ?_, ?_, ?_, ?_, ?_, ?_, ?_, ?_, ?_, ?_, ?_⟩
  · have := S_Md_own (d + 2) h (show (0 : Int) ≤ 2 ∧ (2 : Int) ≤ 2 by decide) hw N
    rw [if_neg hn, if_neg (by omega), hq, hs] at this
    exact this
  · rw [wc_o _ _ (Or.inr (by omega)), hAo _ (by omega)]
    exact hA
  · rcases hw with e | ⟨e1, e2, e3, -⟩
    · rw [e, show decT (-1) = -1 from if_pos rfl]; omega
    · rw [decT_part ⟨e1, e2⟩]
      intro e
      apply hqm
      omega
  · rw [e4]; exact f1
  · rw [e4, e5, e6, e10]
    exact f4
  · intro w hw12
    obtain ⟨w1, w2⟩ := hV w hw12
    rw [e10, e5, st_ne _ _ (show (7 : Nat) ≠ 10 by decide), m546_o _ _ _ _ (r := 7) (by decide) (by decide) (by decide)]
    by_cases hwv : w = v
    · subst hwv
      rw [up_eq, show (q : Int) + 96 - 96 = (q : Int) by omega, up_eq]
      refine ⟨Or.inr ⟨by omega, by omega, rfl⟩, fun _ => ?_⟩
      rw [up_eq, decT_part ⟨by omega, by omega⟩]
      omega
    · rw [up_ne _ _ (show (w : Int) ≠ (v : Int) by omega)]
      refine ⟨?_, fun h7 => ?_⟩
      · rcases w1 with e | ⟨a1, a2, a3⟩
        · exact Or.inl e
        · refine Or.inr ⟨a1, a2, ?_⟩
          by_cases he : M 10 w - 96 = q
          · rw [he, up_eq]
          · rw [up_ne _ _ he]; exact a3
      · rw [up_ne _ _ (by omega), hAo _ (by omega)]
        exact w2 h7
  · rw [e10, up_eq]
  · rw [e5, up_eq]
  · intro w hwv
    rw [e10, up_ne _ _ hwv]
  · intro r h4 h5 h6 h10
    rw [st_ne _ _ h10, m546_o _ _ _ _ h4 h5 h6]
  · intro r i hr hr0 hi
    have hrq : r ≠ q := fun e => hr0 (by rw [e]; exact hq2.2.2)
    rw [e6]
    exact hpl r i hrq hi
  · intro r hr hr0
    have hrq : r ≠ q := fun e => hr0 (by rw [e]; exact hq2.2.2)
    rw [e5, up_ne _ _ (by omega)]
  · intro y hy hyv
    rw [up_ne _ _ hyv, hAo _ (by omega)]
  · intro x hx hx0
    have hsx := nw_use (kp := 2) h hqn hq2.2.2 (t := M 10 v) (by
      rcases hw with h | ⟨h1, h2, h3, -⟩
      · exact Or.inl h
      · exact Or.inr ⟨h1, h2, h3⟩) hx0
    rw [hs] at hsx
    rw [e4]
    exact LGc_z (rs_z hx hsx) (f4.bd x).1
