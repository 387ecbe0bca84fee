/-! IN HOW MANY PLACES each thing is: the class's count of it -/
theorem in1_off (r : Nat) (x : Int) (M : am_M) {k : Nat} (h : k ≠ r) : in1 r x M k = M k := by
  unfold in1
  split
  · exact set_ne _ _ _ h
  · rfl
theorem in1_at (r : Nat) (x : Int) (M : am_M) {t : Int} (ht : TA t) (hb : 0 ≤ M r t ∧ M r t ≤ 100000) : in1 r x M r t = M r t + (if x = t then 1 else 0) := by
  unfold in1
  by_cases hx : 0 ≤ x ∧ x < 256
  · rw [if_pos hx, set_eq]
    by_cases e : x = t
    · rw [if_pos e, ← e, up_eq, wr_id (by rw [e]; omega) (by rw [e]; omega)]
    · rw [if_neg e, up_ne _ _ (fun q => e q.symm)]; omega
  · rw [if_neg hx, if_neg (fun e => hx (by rw [e]; exact ht))]; omega
theorem sm_le {f : Int → Int} {c : Nat} (n : Nat) (h : ∀ i : Nat, i < n → 0 ≤ f i ∧ f i ≤ c) : 0 ≤ sm f n ∧ sm f n ≤ (c * n : Nat) := sm_bd n h
/-- the places of one part counted in -/
theorem ap1_sp (r : Nat) (hr : 14 < r) (p : Nat) (hp : p < 160) (M : am_M) (hb : ∀ t, TA t → 0 ≤ M r t ∧ M r t ≤ 90000) : (∀ k : Nat, k ≠ r → ap1 r ((p : Int) + 96) M k = M k) ∧ ∀ t, TA t → ap1 r ((p : Int) + 96) M r t = M r t + tmP (M 6) p t := by
  have key := it_inv (σ := am_M) (b := fun k N => in1 r (atS (N 6) ((p : Int) + 96) k) N) (fun i N => ∃ j : Nat, i = (j : Int) ∧ (∀ k : Nat, k ≠ r → N k = M k) ∧ ∀ t, TA t → N r t = M r t + sm (fun k => if M 6 ((p : Int) * 8 + k) = t then 1 else 0) j) 8 0 M ⟨0, rfl, fun _ _ => rfl, fun t _ => by show M r t = M r t + 0; omega⟩ (fun i N i1 i2 hN => by
    obtain ⟨j, rfl, h1, h2⟩ := hN
    refine ⟨j + 1, by omega, fun k hk => by rw [in1_off _ _ _ hk, h1 k hk], fun t ht => ?_⟩
    have hs := sm_bd (f := fun k => if M 6 ((p : Int) * 8 + k) = t then 1 else 0) (c := 1) j (fun k _ => by (try dsimp only); split <;> omega)
    have hbt := hb t ht
    rw [in1_at _ _ _ ht (by rw [h2 t ht]; omega), h2 t ht, h1 6 (by omega), at_in ⟨by omega, by omega⟩ ⟨by omega, by omega⟩, show ((p : Int) + 96 - 96) * 8 + j = (p : Int) * 8 + j by omega]
    show _ = M r t + (sm (fun k => if M 6 ((p : Int) * 8 + k) = t then 1 else 0) j + if M 6 ((p : Int) * 8 + (j : Int)) = t then 1 else 0)
    omega)
  obtain ⟨j, hj, h1, h2⟩ := key
  obtain rfl : j = 8 := by omega
  exact ⟨h1, h2⟩
theorem fl_sp (r : Nat) (n : Nat) (x : Int) (M : am_M) : (∀ k : Nat, k ≠ r → flS' r n x M k = M k) ∧ ∀ t : Int, flS' r n x M r t = if 0 ≤ t ∧ t < n then x else M r t := by
  have key := it_inv (σ := am_M) (b := fun k N => am_set N r k x) (fun i N => ∃ j : Nat, i = (j : Int) ∧ (∀ k : Nat, k ≠ r → N k = M k) ∧ ∀ t : Int, N r t = if 0 ≤ t ∧ t < j then x else M r t) n 0 M ⟨0, rfl, fun _ _ => rfl, fun t => by rw [if_neg (by omega)]⟩ (fun i N i1 i2 hN => by
    obtain ⟨j, rfl, h1, h2⟩ := hN
    refine ⟨j + 1, by omega, fun k hk => by rw [set_ne _ _ _ hk, h1 k hk], fun t => ?_⟩
    rw [set_eq]
    by_cases e : t = (j : Int)
    · rw [e, up_eq, if_pos (by omega)]
    · rw [up_ne _ _ e, h2 t]
      by_cases h : 0 ≤ t ∧ t < j
      · rw [if_pos h, if_pos (by omega)]
      · rw [if_neg h, if_neg (by omega)])
  obtain ⟨j, hj, h1, h2⟩ := key
  obtain rfl : j = n := by omega
  exact ⟨h1, h2⟩
theorem cp_sp (r : Nat) (hr : 14 < r) (M : am_M) : (∀ k : Nat, k ≠ r → cpS r M k = M k) ∧ ∀ t, TA t → cpS r M r t = rfP (M 4) (M 6) t + rfT (M 10) t := by
  obtain ⟨f1, f2⟩ := fl_sp r 256 0 M
  have ka := it_inv (σ := am_M) (b := fun t N => if N 4 t = 0 then N else ap1 r t N) (fun i N => ∃ j : Nat, i = (j : Int) + 96 ∧ (∀ k : Nat, k ≠ r → N k = M k) ∧ ∀ t, TA t → N r t = sm (fun p => if M 4 (p + 96) = 0 then 0 else sm (fun k => if M 6 (p * 8 + k) = t then 1 else 0) 8) j) 160 96 (flS' r 256 0 M) ⟨0, by omega, f1, fun t ht => by rw [f2 t, if_pos ⟨ht.1, by have := ht.2; omega⟩]; rfl⟩ (fun i N i1 i2 hN => by
    obtain ⟨j, rfl, h1, h2⟩ := hN
    have hb : ∀ t, 0 ≤ sm (fun p => if M 4 (p + 96) = 0 then 0 else sm (fun k => if M 6 (p * 8 + k) = t then 1 else 0) 8) j ∧ sm (fun p => if M 4 (p + 96) = 0 then 0 else sm (fun k => if M 6 (p * 8 + k) = t then 1 else 0) 8) j ≤ (8 * j : Nat) := fun t => sm_bd j (fun p _ => by
      have h1 := tmP_le (M 6) p t
      have h2 := tmP_nn (M 6) p t
      unfold tmP at h1 h2
      (try dsimp only)
      split <;> omega)
    by_cases h0 : N 4 ((j : Int) + 96) = 0
    · rw [if_pos h0]
      rw [h1 4 (by omega)] at h0
      refine ⟨j + 1, by omega, h1, fun t ht => ?_⟩
      rw [h2 t ht]
      show _ = _ + (if M 4 ((j : Int) + 96) = 0 then 0 else sm (fun k => if M 6 ((j : Int) * 8 + k) = t then 1 else 0) 8)
      rw [if_pos h0]; omega
    · rw [if_neg h0]
      rw [h1 4 (by omega)] at h0
      obtain ⟨a1, a2⟩ := ap1_sp r hr j (by omega) N (fun t ht => by rw [h2 t ht]; have := hb t; omega)
      refine ⟨j + 1, by omega, fun k hk => by rw [a1 k hk, h1 k hk], fun t ht => ?_⟩
      rw [a2 t ht, h2 t ht, h1 6 (by omega)]
      show _ = _ + (if M 4 ((j : Int) + 96) = 0 then 0 else sm (fun k => if M 6 ((j : Int) * 8 + k) = t then 1 else 0) 8)
      rw [if_neg h0]
      rfl)
  obtain ⟨j, hj, a1, a2⟩ := ka
  obtain rfl : j = 160 := by omega
  have kb := it_inv (σ := am_M) (b := fun v N => in1 r (N 10 v) N) (fun i N => ∃ j : Nat, i = (j : Int) ∧ (∀ k : Nat, k ≠ r → N k = M k) ∧ ∀ t, TA t → N r t = rfP (M 4) (M 6) t + sm (fun v => if M 10 v = t then 1 else 0) j) 12 0 (apS r (flS' r 256 0 M)) ⟨0, rfl, a1, fun t ht => by
      have := a2 t ht
      show _ = rfP (M 4) (M 6) t + 0
      rw [Int.add_zero]
      exact this⟩ (fun i N i1 i2 hN => by
    obtain ⟨j, rfl, h1, h2⟩ := hN
    refine ⟨j + 1, by omega, fun k hk => by rw [in1_off _ _ _ hk, h1 k hk], fun t ht => ?_⟩
    have hs := sm_bd (f := fun v => if M 10 v = t then 1 else 0) (c := 1) j (fun k _ => by (try dsimp only); split <;> omega)
    have := rfP_le (M 4) (M 6) t
    have := rfP_nn (M 4) (M 6) t
    rw [in1_at _ _ _ ht (by rw [h2 t ht]; omega), h2 t ht, h1 10 (by omega)]
    show _ = rfP (M 4) (M 6) t + (sm (fun v => if M 10 v = t then 1 else 0) j + if M 10 (j : Int) = t then 1 else 0)
    omega)
  obtain ⟨j, hj, b1, b2⟩ := kb
  obtain rfl : j = 12 := by omega
  exact ⟨b1, b2⟩
/-- the right counts, counted -/
theorem SP.cnt {M : am_M} {A : Int → Int} {n : Int} {c : Int → Int} (hJ : JX (am_st M 4 c) A n) (hP : SP M c) {t : Int} (ht : TA t) : rfP (M 4) (M 6) t + rfT (M 10) t = c t := by
  have h := hJ.1.pi
  rw [st_eq, st_ne _ _ (by decide), st_ne _ _ (by decide), st_ne _ _ (by decide)] at h
  have hx := h.xc t ht
  (try dsimp only at hx)
  rw [rfP_c (c := c) (fun p hp => by rw [hP.1 _ (by omega)]) t]
  omega
/-- whether all is sound -/
theorem sd_sp {M : am_M} {A : Int → Int} {n : Int} {c : Int → Int} (hJ : JX (am_st M 4 c) A n) (hP : SP M c) : ((sdS M).1 = 0 ∨ (sdS M).1 = 1) ∧ ((sdS M).1 = 1 ↔ M 4 = c) ∧ ∀ k : Nat, k ≠ 503 → (sdS M).2 k = M k := by
  obtain ⟨c1, c2⟩ := cp_sp 503 (by decide) M
  unfold sdS
  by_cases h : M 1 11 = 0
  · rw [if_pos h]
    exact ⟨Or.inr rfl, ⟨fun _ => hP.2.2.2 h, fun _ => rfl⟩, fun _ _ => rfl⟩
  · rw [if_neg h]
    have hw : fwrS 503 (cpS 503 M) = -1 ↔ M 4 = c := by
      unfold fwrS
      rcases fd_spec (p := fun t => ¬ cpS 503 M 4 t = cpS 503 M 503 t) (dp := fun _ => inferInstance) 256 0 with ⟨e1, e2⟩ | ⟨e1, e2, e3, _⟩
      · refine ⟨fun _ => ?_, fun _ => e1⟩
        funext t
        by_cases ht : TA t
        · have := Classical.byContradiction (fun q => e2 t ht.1 (by have := ht.2; omega) q)
          rw [c1 4 (by decide), c2 t ht, hP.cnt hJ ht] at this
          exact this
        · exact hP.1 t (fun q => ht ⟨q.1, by omega⟩)
      · refine ⟨fun q => by omega, fun q => ?_⟩
        exfalso
        apply e3
        have ht : TA (fd (fun t => ¬ cpS 503 M 4 t = cpS 503 M 503 t) (fun _ => inferInstance) 0 256) := ⟨e1, by omega⟩
        generalize fd (fun t => ¬ cpS 503 M 4 t = cpS 503 M 503 t) (fun _ => inferInstance) 0 256 = z at ht ⊢
        rw [c1 4 (by decide), c2 _ ht, hP.cnt hJ ht, q]
    generalize fwrS 503 (cpS 503 M) = F at hw ⊢
    generalize cpS 503 M = K at c1 ⊢
    refine ⟨b2_01, ?_, fun k hk => c1 k hk⟩
    (try dsimp only)
    constructor
    · intro q
      refine hw.mp (Classical.byContradiction (fun r => ?_))
      rw [b2_f r] at q
      omega
    · intro q
      exact b2_t (hw.mpr q)
