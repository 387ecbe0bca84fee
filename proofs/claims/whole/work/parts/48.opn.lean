/-! OPENING below the trunk, to a kind: class and reference together -/
theorem thg_next {M : am_M} {v : Nat} (hv : thS M v) (a : Int) {m : Nat} (hm : m ≤ 1) {p : Nat} (hp : p < 160) (hP : thgS M v a (((m + 1 : Nat) : Int) + 1) = (p : Int) + 96) : thgS M v a ((m : Int) + 1) = M 6 ((p : Int) * 8 + plc a ((m : Int) + 1)) := by
  have h8 := plc_8 a ((m : Int) + 1)
  have e : atS (M 6) ((p : Int) + 96) (plc a ((m : Int) + 1)) = M 6 ((p : Int) * 8 + plc a ((m : Int) + 1)) := by
    rw [at_in ⟨by omega, by omega⟩ h8, show (p : Int) + 96 - 96 = (p : Int) by omega]
  rw [← e, ← hP]
  rcases (show m = 0 ∨ m = 1 by omega) with rfl | rfl
  · show thgS M v a 1 = atS (M 6) (thgS M v a 2) (plc a 1)
    unfold thgS
    rw [if_pos hv, if_pos hv, if_neg (by omega), if_neg (by omega), if_pos rfl, if_neg (by omega), if_pos rfl]
    rfl
  · show thgS M v a 2 = atS (M 6) (thgS M v a 3) (plc a 2)
    unfold thgS
    rw [if_pos hv, if_pos hv, if_neg (by omega), if_pos rfl, if_pos (by omega)]
    rfl
/-- a part on the way is in use -/
theorem thg_used {M : am_M} {A ex : Int → Int} (h : PI A (M 4) (M 5) (M 6) (M 10) ex) {v : Nat} (hv : thS M v) (a : Int) {m : Nat} (hm : m ≤ 2) (hm1 : 1 ≤ m) {p : Nat} (hp : p < 160) (hV : RV M A) (hP : thgS M v a ((m : Int) + 1) = (p : Int) + 96) : M 4 ((p : Int) + 96) ≠ 0 := by
  have hv12 : v < 12 := by have := hv.2.1; omega
  have ht3 : thgS M v a 3 = M 10 v := by unfold thgS; rw [if_pos hv, if_pos (by omega)]
  rcases (show m = 1 ∨ m = 2 by omega) with rfl | rfl
  · have hP : thgS M v a 2 = (p : Int) + 96 := hP
    have e2 : thgS M v a 2 = atS (M 6) (M 10 v) (plc a 2) := by
      unfold thgS
      rw [if_pos hv, if_neg (by omega), if_pos rfl]
      rfl
    rcases (hV v hv12).1 with e | ⟨e1, e2', -⟩
    · rw [e2, e, at_m1] at hP; omega
    · obtain ⟨r, hr⟩ : ∃ r : Nat, M 10 v = (r : Int) + 96 := ⟨(M 10 v - 96).toNat, by omega⟩
      have h8 := plc_8 a 2
      obtain ⟨k, hk⟩ : ∃ k : Nat, plc a 2 = (k : Int) := ⟨(plc a 2).toNat, by omega⟩
      have hu := h.trunk hv12 ⟨by omega, e2'⟩
      rw [e2, hk, at_in ⟨e1, e2'⟩ (by omega), show M 10 v - 96 = (r : Int) by omega] at hP
      have := h.child (p := r) (k := k) (by omega) (by omega) (by rw [← hr]; omega) (by rw [hP]; exact ⟨by omega, by omega⟩)
      rw [hP] at this
      omega
  · have hP : thgS M v a 3 = (p : Int) + 96 := hP
    rw [ht3] at hP
    have := h.trunk hv12 (by rw [hP]; exact ⟨by omega, by omega⟩)
    rw [hP] at this
    omega
