/-! WRITTEN: class and reference together -/
theorem leaf_used {M : am_M} {A ex : Int → Int} (h : PI A (M 4) (M 5) (M 6) (M 10) ex) {v : Nat} (hv : thS M v) (a : Int) {p : Nat} (hp : p < 160) (hV : RV M A) (hP : thgS M v a 1 = (p : Int) + 96) : M 4 ((p : Int) + 96) ≠ 0 := by
  have e1 : thgS M v a 1 = atS (M 6) (thgS M v a 2) (plc a 1) := by
    unfold thgS
    rw [if_pos hv, if_pos hv, if_neg (by omega), if_neg (by omega), if_pos rfl, if_neg (by omega), if_pos rfl]
    rfl
  have h8 := plc_8 a 1
  rw [e1] at hP
  by_cases ht : 96 ≤ thgS M v a 2 ∧ thgS M v a 2 < 256
  · obtain ⟨r, hr⟩ : ∃ r : Nat, thgS M v a 2 = (r : Int) + 96 := ⟨(thgS M v a 2 - 96).toNat, by omega⟩
    obtain ⟨k, hk⟩ : ∃ k : Nat, plc a 1 = (k : Int) := ⟨(plc a 1).toNat, by omega⟩
    have hu := thg_used h hv a (m := 1) (by omega) (by omega) (p := r) (by omega) hV hr
    rw [hk, at_in ht (by omega), show thgS M v a 2 - 96 = (r : Int) by omega] at hP
    have := h.child (p := r) (k := k) (by omega) (by omega) hu (by rw [hP]; exact ⟨by omega, by omega⟩)
    rw [hP] at this
    omega
  · unfold atS at hP
    rw [if_neg (fun q => ht ⟨q.1, q.2.1⟩)] at hP
    omega
/-- what comes of a change: class (could it be done, memory) and reference (answer) -/
def WR (A ex : Int → Int) (M : am_M) (v : Int) (N : am_M) (r : Int × am_M) (X : Option am_O) : Prop :=
  (∀ k : Nat, k ≠ 3 → k ≠ 4 → k ≠ 5 → k ≠ 6 → k ≠ 10 → r.2 k = M k) ∧
  ((∃ R : Int → Int, r.1 = 0 ∧ X = some (none, am_set (am_st N 505 R) 504 2 1) ∧ (∀ y : Int, (y < 4 ∨ 1904 ≤ y) → R y = A y)) ∨
  (∃ A' : Int → Int, r.1 = 1 ∧ X = some (none, am_st N 505 (wc A' (r.2 4))) ∧ PI A' (r.2 4) (r.2 5) (r.2 6) (r.2 10) ex ∧ RV r.2 A' ∧ RB r.2 A' ∧ (∀ w : Int, w ≠ v → r.2 10 w = M 10 w) ∧ (∀ y : Int, (y < 4 ∨ 1796 ≤ y) → y ≠ 1796 + 9 * v + 4 → A' y = A y)))
theorem OP_RB {A ex : Int → Int} {M M' : am_M} {A' : Int → Int} {v : Int} (hv : 0 ≤ v) (h : RB M A) (h3 : M' 3 = M 3) (hA : ∀ y : Int, (y < 196 ∨ 1796 ≤ y) → y ≠ 1796 + 9 * v + 4 → A' y = A y) (hz : ∀ x : Int, x < 96 → M 4 x = 0 → M' 4 x = 0) : RB M' A' := fun b h0 h1 hb => by
  rw [hA _ (by omega) (by omega), h3]
  exact h b h0 h1 (fun e => hb (hz b h1 e))
/-- a block hung in a leaf: what stays of the trunks and values -/
theorem hang_RV {M M' : am_M} {A : Int → Int} {j x : Int} (hj : j < 1796) (h : RV M A) (h5 : M' 5 = M 5) (h7 : M' 7 = M 7) (h10 : M' 10 = M 10) : RV M' (am_up A j x) := fun v hv => by
  obtain ⟨a1, a2⟩ := h v hv
  rw [h5, h7, h10]
  exact ⟨a1, fun q => by rw [up_ne _ _ (by omega)]; exact a2 q⟩
theorem hang_z {M : am_M} {A' ex : Int → Int} {p k : Nat} (hp : p < 160) (hk : k < 8) {b : Int} (hb : ∀ y, 0 ≤ M 4 y ∧ M 4 y ≤ 1000000) (hP : PI A' (hangS M ((p : Int) + 96) k b 4) (M 5) (hangS M ((p : Int) + 96) k b 6) (M 10) ex) {x : Int} (hx : x ≠ b) (h0 : M 4 x = 0) : hangS M ((p : Int) + 96) k b 4 x = 0 := by
  have hn := (hP.bd x).1
  have e := hangS_pure M hp hk b hb
  have e4 : hangS M ((p : Int) + 96) k b 4 = (LGc (am_up (M 6) ((p : Int) * 8 + k) b) 4 (rs (M 4) b) (M 6 ((p : Int) * 8 + k))).2 := by rw [e, st_eq]
  rw [e4] at hn ⊢
  refine LGc_z ?_ hn
  unfold rs
  split
  · rw [up_ne _ _ hx]; exact h0
  · exact h0
