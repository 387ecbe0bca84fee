/-! THE RELATION OF ALL: the class's cells and the reference's -/
def vw (q : Nat) (M : am_M) : am_M := fun i => M (q + i - 1)
theorem vw_1 (M : am_M) : vw 1 M = M := by
  funext i
  show M (1 + i - 1) = M i
  rw [Nat.add_sub_cancel_left]
theorem cp_at (M : am_M) (i i' : Nat) (n j : Int) : am_cp M i i' n i j = if 0 ≤ j ∧ j < n then M i' j else M i j := by
  unfold am_cp
  rw [st_eq]
  rfl
theorem cs_off (r0 r1 : Nat) (M : am_M) {k : Nat} (h : k < r0 ∨ r0 + 13 < k) : csS r0 r1 M k = M k := by
  unfold csS cs3
  rw [set_ne _ _ _ (by omega), set_ne _ _ _ (by omega), set_ne _ _ _ (by omega), cs8_off _ _ _ (by omega), csP_off _ _ _ (by omega)]
theorem cs_3 (r0 r1 : Nat) (M : am_M) {k : Nat} (h : k ≠ r0) : csS r0 r1 M k = cs8 r0 r1 (csP (r0 + 1) (r1 + 1) M) k := by
  unfold csS cs3
  rw [set_ne _ _ _ h, set_ne _ _ _ h, set_ne _ _ _ h]
theorem cs_EQ {r0 r1 : Nat} (hr : r1 + 13 < r0 ∨ r0 + 13 < r1) (M : am_M) : EQ (vw r1 M) (vw r0 (csS r0 r1 M)) := by
  have hv : ∀ k : Nat, 6 ≤ k → k ≤ 13 → ∀ j : Int, 0 ≤ j → j < 12 → csS r0 r1 M (r0 + k) j = M (r1 + k) j := by
    intro k k1 k2 j j1 j2
    rw [cs_3 _ _ _ (by omega)]
    have key : ∀ k : Nat, 6 ≤ k → k ≤ 13 → csP (r0 + 1) (r1 + 1) M (r1 + k) = M (r1 + k) := fun k k1 k2 => csP_off _ _ _ (by omega)
    unfold cs8
    rcases (show k = 6 ∨ k = 7 ∨ k = 8 ∨ k = 9 ∨ k = 10 ∨ k = 11 ∨ k = 12 ∨ k = 13 by omega) with rfl | rfl | rfl | rfl | rfl | rfl | rfl | rfl
    all_goals
      repeat rw [cp_off _ _ (by omega)]
      rw [cp_at, if_pos ⟨j1, j2⟩]
      repeat rw [cp_off _ _ (by omega)]
      rw [key _ (by omega) (by omega)]
  have hp : ∀ k : Nat, 2 ≤ k → k ≤ 5 → csS r0 r1 M (r0 + k) = csP (r0 + 1) (r1 + 1) M (r0 + k) := fun k k1 k2 => by
    rw [cs_3 _ _ _ (by omega), cs8_off _ _ _ (by omega)]
  refine ⟨?_, ?_, ?_, ?_, ?_, ?_, ?_, ?_⟩
  · intro j j1 j2
    show csS r0 r1 M (r0 + 2) j = M (r1 + 2) j
    rw [hp 2 (by omega) (by omega)]
    unfold csP
    repeat rw [cp_off _ _ (by omega)]
    rw [cp_at, if_pos ⟨j1, j2⟩]
  · intro j j1 j2
    show csS r0 r1 M (r0 + 3) j = M (r1 + 3) j
    rw [hp 3 (by omega) (by omega)]
    unfold csP
    repeat rw [cp_off _ _ (by omega)]
    rw [cp_at, if_pos ⟨j1, j2⟩]
    repeat rw [cp_off _ _ (by omega)]
  · intro j j1 j2
    show csS r0 r1 M (r0 + 4) j = M (r1 + 4) j
    rw [hp 4 (by omega) (by omega)]
    unfold csP
    repeat rw [cp_off _ _ (by omega)]
    rw [cp_at, if_pos ⟨j1, j2⟩]
    repeat rw [cp_off _ _ (by omega)]
  · intro j j1 j2
    show csS r0 r1 M (r0 + 5) j = M (r1 + 5) j
    rw [hp 5 (by omega) (by omega)]
    unfold csP
    rw [cp_at, if_pos ⟨j1, j2⟩]
    repeat rw [cp_off _ _ (by omega)]
  · intro r ra rb j j1 j2
    show csS r0 r1 M (r0 + r - 1) j = M (r1 + r - 1) j
    rw [show r0 + r - 1 = r0 + (r - 1) by omega, show r1 + r - 1 = r1 + (r - 1) by omega]
    exact hv (r - 1) (by omega) (by omega) j j1 j2
  all_goals
    have e1 : cs8 r0 r1 (csP (r0 + 1) (r1 + 1) M) r1 = M r1 := by rw [cs8_off _ _ _ (by omega), csP_off _ _ _ (by omega)]
  · show csS r0 r1 M r0 9 = M r1 9
    unfold csS cs3
    rw [set_eq, up_ne _ _ (by decide), set_eq, up_ne _ _ (by decide), set_eq, up_eq, e1]
  · show csS r0 r1 M r0 10 = M r1 10
    unfold csS cs3
    rw [set_eq, up_ne _ _ (by decide), set_eq, up_eq, set_ne _ _ _ (by omega), e1]
  · show csS r0 r1 M r0 11 = M r1 11
    unfold csS cs3
    rw [set_eq, up_eq, set_ne _ _ _ (by omega), set_ne _ _ _ (by omega), e1]
theorem cs_zo (r0 r1 : Nat) (M : am_M) {x : Int} (hx : ¬ TA x) : csS r0 r1 M (r0 + 3) x = M (r0 + 3) x := by
  rw [cs_3 _ _ _ (by omega), cs8_off _ _ _ (by omega)]
  unfold csP
  repeat rw [cp_off _ _ (by omega)]
  rw [cp_at, if_neg hx]
  repeat rw [cp_off _ _ (by omega)]
/-- where a state may lie that is before or past -/
def isB (q : Int) : Prop := q = 15 ∨ ∃ i : Nat, i < 16 ∧ q = 31 + 14 * (i : Int)
theorem isB_far {p q : Int} (hp : isB p) (hq : isB q) (h : p ≠ q) : p + 13 < q ∨ q + 13 < p := by
  rcases hp with rfl | ⟨i, hi, rfl⟩ <;> rcases hq with rfl | ⟨j, hj, rfl⟩ <;> omega
theorem isB_rng {p : Int} (hp : isB p) : (15 ≤ p ∧ p + 13 < 29) ∨ (31 ≤ p ∧ p + 13 < 255) := by
  rcases hp with rfl | ⟨i, hi, rfl⟩ <;> omega
def BQ (M : am_M) : Prop := isB (M 0 1) ∧ (∀ i : Int, 0 ≤ i → i < 16 → isB (M 30 i) ∧ M 30 i ≠ M 0 1) ∧ ∀ i j : Int, 0 ≤ i → i < j → j < 16 → M 30 i ≠ M 30 j
def ZB (M : am_M) : Prop := ∀ q : Nat, (isB (q : Int) ∨ q = 255 ∨ ∃ i : Nat, i < 16 ∧ q = 271 + 14 * i) → ∀ x : Int, ¬ TA x → M (q + 3) x = 0
def stR (R : Int → Int) (j : Int) : Int → Int := fun y => R (1904 + 1902 * j + (y - 2))
def PS (M : am_M) (o a : Nat) (R : Int → Int) (n : Int) : Prop := (0 ≤ M o 1 ∧ M o 1 ≤ 16) ∧ R 0 = M o 1 ∧ (0 ≤ R 1 ∧ R 1 < 16) ∧ ∀ i : Int, 0 ≤ i → i < M o 1 → SS (vw (M a i).toNat M) (stR R ((R 1 + i) % 16)) n
/-- the stream and the stage -/
def RW (M : am_M) : Prop := ((0 ≤ M 495 2 ∧ M 495 2 ≤ 512) ∧ M 504 13 = M 495 2 ∧ ∀ i : Int, 0 ≤ i → i < M 495 2 → M 513 i = M 496 i ∧ M 514 i = M 497 i ∧ (0 ≤ M 496 i ∧ M 496 i < 512) ∧ (-1 ≤ M 497 i ∧ M 497 i ≤ 999999)) ∧ (0 ≤ M 498 2 ∧ M 498 2 ≤ 16) ∧ M 504 16 = M 498 2 ∧ ∀ i : Int, 0 ≤ i → i < M 498 2 → M 515 i = M 499 i ∧ M 516 i = M 500 i ∧ (0 ≤ M 499 i ∧ M 499 i < 512) ∧ (-1 ≤ M 500 i ∧ M 500 i ≤ 999999)
def GB (M : am_M) (n : Int) : Prop := BQ M ∧ PS M 29 30 (M 505) n ∧ SS (vw 255 M) (M 506) n ∧ PS M 269 270 (M 506) n ∧ (∀ i : Int, 0 ≤ i → i < 16 → M 270 i = 271 + 14 * i) ∧ ZB M ∧ RW M
def GR (M : am_M) (n : Int) : Prop := GB M n ∧ SS M (M 505) n
theorem EQ_rfl (M : am_M) : EQ M M := ⟨fun _ _ _ => rfl, fun _ _ _ => rfl, fun _ _ _ => rfl, fun _ _ _ => rfl, fun _ _ _ _ _ _ => rfl, rfl, rfl, rfl⟩
theorem EQ_of {M M' : am_M} (h : ∀ k : Nat, 1 ≤ k → k ≤ 14 → M' k = M k) : EQ M M' := ⟨fun _ _ _ => by rw [h 3 (by omega) (by omega)], fun _ _ _ => by rw [h 4 (by omega) (by omega)], fun _ _ _ => by rw [h 5 (by omega) (by omega)], fun _ _ _ => by rw [h 6 (by omega) (by omega)], fun r r1 r2 _ _ _ => by rw [h r (by omega) (by omega)], by rw [h 1 (by omega) (by omega)], by rw [h 1 (by omega) (by omega)], by rw [h 1 (by omega) (by omega)]⟩
theorem SS.zo {M : am_M} {R : Int → Int} {n : Int} (h : SS M R n) (x : Int) (hx : ¬ TA x) : M 4 x = 0 := by
  obtain ⟨A, ⟨c, hJ, q1, -⟩, -⟩ := h
  have := hJ.1.pi.zo x hx
  rw [st_eq] at this
  rw [q1 x (fun q => hx ⟨q.1, by omega⟩)]
  exact this
theorem SS.fl {M : am_M} {R : Int → Int} {n : Int} (h : SS M R n) : M 1 11 = 0 ∨ M 1 11 = 1 := by
  obtain ⟨A, ⟨c, hJ, q1, q2, q3, -⟩, -⟩ := h
  exact q3
/-- a state at the same cells -/
theorem SS.at {M M' : am_M} {q : Nat} {R R' : Int → Int} {n n' : Int} (hn : n ≤ n') (h : SS (vw q M) R n) (hM : ∀ k : Nat, q ≤ k → k ≤ q + 13 → M' k = M k) (hR : ∀ y : Int, 2 ≤ y → y < 1904 → R' y = R y) : SS (vw q M') R' n' := by
  refine h.congr hn (EQ_of (fun k k1 k2 => ?_)) (fun x hx => ?_) hR
  · show M' (q + k - 1) = M (q + k - 1)
    exact hM _ (by omega) (by omega)
  · show M' (q + 3) x = 0
    rw [hM _ (by omega) (by omega)]
    exact h.zo x hx
theorem PS.at {M M' : am_M} {o a : Nat} {R R' : Int → Int} {n n' : Int} (hn : n ≤ n') (h : PS M o a R n) (ho : M' o 1 = M o 1) (ha : M' a = M a) (hM : ∀ i : Int, 0 ≤ i → i < M o 1 → ∀ k : Nat, (M a i).toNat ≤ k → k ≤ (M a i).toNat + 13 → M' k = M k) (hR : ∀ y : Int, (y = 0 ∨ y = 1 ∨ 1904 ≤ y) → R' y = R y) : PS M' o a R' n' := by
  obtain ⟨h1, h2, h3, h4⟩ := h
  unfold PS
  rw [ho, ha, hR 0 (by omega), hR 1 (by omega)]
  refine ⟨h1, h2, h3, fun i i1 i2 => (h4 i i1 i2).at hn (hM i i1 i2) (fun y y1 y2 => ?_)⟩
  unfold stR
  exact hR _ (by omega)
/-- what of the cells the rest of the relation looks at -/
theorem GB.at {M M' : am_M} {n n' : Int} (hn : n ≤ n') (h : GB M n) (hM : ∀ k : Nat, 15 ≤ k → k ≤ 500 → M' k = M k) (h0 : M' 0 1 = M 0 1) (hR : ∀ y : Int, (y = 0 ∨ y = 1 ∨ 1904 ≤ y) → M' 505 y = M 505 y) (h6 : M' 506 = M 506) (h13 : M' 504 13 = M 504 13) (h16 : M' 504 16 = M 504 16) (hr : ∀ k : Nat, 513 ≤ k → k ≤ 516 → M' k = M k) : GB M' n' := by
  obtain ⟨b1, b2, b3, b4, b5, b6, b7⟩ := h
  refine ⟨?_, ?_, ?_, ?_, ?_, ?_, ?_⟩
  · unfold BQ
    rw [h0, hM 30 (by omega) (by omega)]
    exact b1
  · refine b2.at hn (by rw [hM 29 (by omega) (by omega)]) (hM 30 (by omega) (by omega)) (fun i i1 i2 k k1 k2 => ?_) hR
    have := isB_rng (b1.2.1 i i1 (by have := b2.1.2; omega)).1
    exact hM k (by omega) (by omega)
  · rw [h6]
    exact b3.at hn (fun k k1 k2 => hM k (by omega) (by omega)) (fun _ _ _ => rfl)
  · rw [h6]
    refine b4.at hn (by rw [hM 269 (by omega) (by omega)]) (hM 270 (by omega) (by omega)) (fun i i1 i2 k k1 k2 => ?_) (fun _ _ => rfl)
    have := b4.1
    have := b5 i i1 (by omega)
    exact hM k (by omega) (by omega)
  · rw [hM 270 (by omega) (by omega)]; exact b5
  · intro q hq x hx
    have hq2 : 15 ≤ q + 3 ∧ q + 3 ≤ 500 := by
      rcases hq with q1 | rfl | ⟨i, hi, rfl⟩
      · have := isB_rng q1; omega
      · omega
      · omega
    rw [hM _ hq2.1 hq2.2]
    exact b6 q hq x hx
  · unfold RW
    rw [hM 495 (by omega) (by omega), hM 496 (by omega) (by omega), hM 497 (by omega) (by omega), hM 498 (by omega) (by omega), hM 499 (by omega) (by omega), hM 500 (by omega) (by omega), h13, h16, hr 513 (by omega) (by omega), hr 514 (by omega) (by omega), hr 515 (by omega) (by omega), hr 516 (by omega) (by omega)]
    exact b7
/-- all but the stream and the stage -/
def GX (M : am_M) (n : Int) : Prop := BQ M ∧ PS M 29 30 (M 505) n ∧ SS (vw 255 M) (M 506) n ∧ PS M 269 270 (M 506) n ∧ (∀ i : Int, 0 ≤ i → i < 16 → M 270 i = 271 + 14 * i) ∧ ZB M ∧ SS M (M 505) n
theorem GX.gr {M : am_M} {n : Int} (h : GX M n) (hr : RW M) : GR M n := by
  obtain ⟨b1, b2, b3, b4, b5, b6, b8⟩ := h
  exact ⟨⟨b1, b2, b3, b4, b5, b6, hr⟩, b8⟩
theorem RW.at {M N : am_M} (h : RW M) (hM : ∀ k : Nat, 495 ≤ k → k ≤ 500 → N k = M k) (h13 : N 504 13 = M 504 13) (h16 : N 504 16 = M 504 16) (hr : ∀ k : Nat, 513 ≤ k → k ≤ 516 → N k = M k) : RW N := by
  unfold RW
  rw [hM 495 (by omega) (by omega), hM 496 (by omega) (by omega), hM 497 (by omega) (by omega), hM 498 (by omega) (by omega), hM 499 (by omega) (by omega), hM 500 (by omega) (by omega), h13, h16, hr 513 (by omega) (by omega), hr 514 (by omega) (by omega), hr 515 (by omega) (by omega), hr 516 (by omega) (by omega)]
  exact h
