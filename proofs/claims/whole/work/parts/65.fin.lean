/-! A STEP KEPT, or all as it was: the relation behind it -/
theorem sh_it : ∀ (n : Nat) (a : Int) (M : am_M), itS (fun i N => am_set N 30 (i - 1) ((N 30 i).toNat : Int)) n a M = am_st M 30 (fun j => if a - 1 ≤ j ∧ j < a - 1 + n then ((M 30 (j + 1)).toNat : Int) else M 30 j)
  | 0, a, M => by
    have e : (fun j => if a - 1 ≤ j ∧ j < a - 1 + ((0 : Nat) : Int) then ((M 30 (j + 1)).toNat : Int) else M 30 j) = M 30 := by
      funext y; exact if_neg (by omega)
    rw [e, st_self]; rfl
  | n + 1, a, M => by
    have e : itS (fun i N => am_set N 30 (i - 1) ((N 30 i).toNat : Int)) (n + 1) a M = itS (fun i N => am_set N 30 (i - 1) ((N 30 i).toNat : Int)) n (a + 1) (am_set M 30 (a - 1) ((M 30 a).toNat : Int)) := rfl
    rw [e, sh_it n (a + 1), set_eq]
    unfold am_set
    rw [st_st]
    congr 1
    funext y
    by_cases h1 : y = a - 1
    · rw [if_neg (by omega), if_pos (by omega), h1, up_eq, show a - 1 + 1 = a by omega]
    · rw [up_ne _ _ h1]
      by_cases h2 : a + 1 - 1 ≤ y ∧ y < a + 1 - 1 + n
      · rw [if_pos h2, if_pos (by omega), up_ne _ _ (by omega)]
      · rw [if_neg h2, if_neg (by omega)]
theorem ks_spec {M : am_M} (hB : BQ M) (hc : 0 ≤ M 29 1 ∧ M 29 1 ≤ 16) :
    (∀ k : Nat, k ≠ 0 → k ≠ 29 → k ≠ 30 → ksS M k = M k) ∧
    (M 29 1 < 16 → ksS M 29 1 = M 29 1 + 1 ∧ ksS M 0 1 = M 30 (M 29 1) ∧ ksS M 30 (M 29 1) = M 0 1 ∧ ∀ j : Int, j ≠ M 29 1 → ksS M 30 j = M 30 j) ∧
    (M 29 1 = 16 → ksS M 29 1 = 16 ∧ ksS M 0 1 = M 30 0 ∧ ksS M 30 15 = M 0 1 ∧ ∀ j : Int, 0 ≤ j → j < 15 → ksS M 30 j = M 30 (j + 1)) := by
  have e0 : ((M 0 1).toNat : Int) = M 0 1 := by have := isB_rng hB.1; omega
  have ei : ∀ i : Int, 0 ≤ i → i < 16 → ((M 30 i).toNat : Int) = M 30 i := fun i h1 h2 => by have := isB_rng (hB.2.1 i h1 h2).1; omega
  unfold ksS keS
  by_cases h : M 29 1 < 16
  · rw [if_pos h]
    (try dsimp only)
    rw [e0, ei _ hc.1 h, wr_id (by omega) (by omega)]
    refine ⟨fun k k0 k29 k30 => ?_, fun _ => ⟨?_, ?_, ?_, fun j hj => ?_⟩, fun q => by omega⟩
    · rw [set_ne _ _ _ k0, set_ne _ _ _ k29, set_ne _ _ _ k30]
    · rw [set_ne _ _ _ (by decide), set_eq, up_eq]
    · rw [set_eq, up_eq]
    · rw [set_ne _ _ _ (by decide), set_ne _ _ _ (by decide), set_eq, up_eq]
    · rw [set_ne _ _ _ (by decide), set_ne _ _ _ (by decide), set_eq, up_ne _ _ hj]
  · rw [if_neg h]
    (try dsimp only)
    rw [e0, ei 0 (by omega) (by omega), sh_it]
    refine ⟨fun k k0 k29 k30 => ?_, fun q => absurd q h, fun _ => ⟨?_, ?_, ?_, fun j j1 j2 => ?_⟩⟩
    · rw [set_ne _ _ _ k0, set_ne _ _ _ k30, st_ne _ _ k30]
    · rw [set_ne _ _ _ (by decide), set_ne _ _ _ (by decide), st_ne _ _ (by decide)]; omega
    · rw [set_eq, up_eq]
    · rw [set_ne _ _ _ (by decide), set_eq, up_eq]
    · rw [set_ne _ _ _ (by decide), set_eq, up_ne _ _ (by omega), st_eq, if_pos (by omega), ei _ (by omega) (by omega)]
theorem EQ.trans {M M' M'' : am_M} (h : EQ M M') (h' : EQ M' M'') : EQ M M'' := by
  obtain ⟨a1, a2, a3, a4, a5, a6, a7, a8⟩ := h
  obtain ⟨b1, b2, b3, b4, b5, b6, b7, b8⟩ := h'
  exact ⟨fun j x y => (b1 j x y).trans (a1 j x y), fun j x y => (b2 j x y).trans (a2 j x y), fun j x y => (b3 j x y).trans (a3 j x y), fun j x y => (b4 j x y).trans (a4 j x y), fun r r1 r2 j x y => (b5 r r1 r2 j x y).trans (a5 r r1 r2 j x y), b6.trans a6, b7.trans a7, b8.trans a8⟩
/-- the reference's row behind a step that was kept, R the one ahead of it -/
def KR (R R' : Int → Int) : Prop := R' 0 = kpS R + 1 ∧ R' 1 = kpF R ∧ (∀ k : Int, 0 ≤ k → k < 1902 → R' (1904 + 1902 * ((kpF R + kpS R) % 16) + k) = R (k + 2)) ∧ (∀ j k : Int, 0 ≤ j → j < 16 → j ≠ (kpF R + kpS R) % 16 → 0 ≤ k → k < 1902 → R' (1904 + 1902 * j + k) = R (1904 + 1902 * j + k))
theorem GX.kept {M M2 N : am_M} {n n' : Int} (hG : GR M n) (hn : n ≤ n') {q : Nat} (hq : M 0 1 = (q : Int)) (hM2 : ∀ k : Nat, (k = 0 ∨ 15 ≤ k) → k ≤ 494 → M2 k = csS q 1 M k) (hN : ∀ k : Nat, k ≤ 494 → N k = ksS M2 k) (hS : SS M2 (N 505) n') (hK : KR (M 505) (N 505)) (h6 : N 506 = M 506) : GX N n' := by
  obtain ⟨⟨b1, b2, b3, b4, b5, b6, b7⟩, b8⟩ := hG
  obtain ⟨c1, c2, c3, c4⟩ := b2
  have hqB : isB (q : Int) := by rw [← hq]; exact b1.1
  have hqr := isB_rng hqB
  have hoff : ∀ k : Nat, 15 ≤ k → (k < q ∨ q + 13 < k) → k ≤ 494 → M2 k = M k := fun k k1 k2 k3 => by rw [hM2 k (Or.inr k1) k3, cs_off _ _ _ k2]
  have h20 : M2 0 = M 0 := by rw [hM2 0 (Or.inl rfl) (by omega), cs_off _ _ _ (by omega)]
  have h229 : M2 29 = M 29 := hoff 29 (by omega) (by omega) (by omega)
  have h230 : M2 30 = M 30 := hoff 30 (by omega) (by omega) (by omega)
  have hB2 : BQ M2 := by unfold BQ; rw [h20, h230]; exact b1
  obtain ⟨k1, k2, k3⟩ := ks_spec hB2 (by rw [h229]; exact c1)
  rw [h229, h20, h230] at k2 k3
  have hblk : ∀ p : Int, isB p → ∀ k : Nat, p.toNat ≤ k → k ≤ p.toNat + 13 → N k = M2 k := fun p hp k ka kb => by
    have := isB_rng hp
    rw [hN k (by omega), k1 k (by omega) (by omega) (by omega)]
  have hhi : ∀ k : Nat, 255 ≤ k → k ≤ 494 → N k = M k := fun k ka kb => by
    rw [hN k kb, k1 k (by omega) (by omega) (by omega), hoff k (by omega) (by omega) (by omega)]
  -- the state that was, as the newest step
  have hnew : SS (vw q N) (stR (N 505) ((kpF (M 505) + kpS (M 505)) % 16)) n' := by
    refine b8.congr hn (M' := vw q N) ?_ ?_ ?_
    · have e1 := cs_EQ (r0 := q) (r1 := 1) (by omega) M
      rw [vw_1] at e1
      refine e1.trans (EQ_of (fun k ka kb => ?_))
      show N (q + k - 1) = csS q 1 M (q + k - 1)
      rw [hblk q hqB _ (by omega) (by omega), hM2 _ (by omega) (by omega)]
    · intro x hx
      show N (q + 3) x = 0
      rw [hblk q hqB _ (by omega) (by omega), hM2 _ (by omega) (by omega), cs_zo _ _ _ hx]
      exact b6 q (Or.inl hqB) x hx
    · intro y y1 y2
      unfold stR
      rw [hK.2.2.1 (y - 2) (by omega) (by omega)]
      congr 1; omega
  have hold : ∀ i : Int, 0 ≤ i → i < M 29 1 → ∀ j : Int, j = (M 505 1 + i) % 16 → j ≠ (kpF (M 505) + kpS (M 505)) % 16 → SS (vw (M 30 i).toNat N) (stR (N 505) j) n' := fun i i1 i2 j hj hjk => by
    have hB := b1.2.1 i i1 (by omega)
    have hr := isB_rng hB.1
    have hf := isB_far hB.1 hqB (by rw [← hq]; exact hB.2)
    refine (c4 i i1 i2).at hn (fun k ka kb => ?_) (fun y y1 y2 => ?_)
    · rw [hblk _ hB.1 k ka kb, hoff k (by omega) (by omega) (by omega)]
    · unfold stR
      rw [hK.2.2.2 j (y - 2) (by omega) (by omega) hjk (by omega) (by omega), hj]
  refine ⟨?_, ?_, ?_, ?_, ?_, ?_, ?_⟩
  · -- where the states lie
    unfold BQ
    rw [hN 0 (by omega), hN 30 (by omega)]
    by_cases h : M 29 1 < 16
    · obtain ⟨a1, a2, a3, a4⟩ := k2 h
      rw [a2]
      refine ⟨(b1.2.1 _ c1.1 h).1, fun i i1 i2 => ?_, fun i j i1 i2 i3 => ?_⟩
      · by_cases e : i = M 29 1
        · rw [e, a3]; exact ⟨b1.1, fun e' => (b1.2.1 _ c1.1 h).2 e'.symm⟩
        · rw [a4 i e]
          refine ⟨(b1.2.1 i i1 i2).1, ?_⟩
          by_cases e2 : i < M 29 1
          · exact b1.2.2 _ _ i1 e2 h
          · exact fun e' => b1.2.2 _ _ c1.1 (by omega) i2 e'.symm
      · by_cases e : i = M 29 1
        · rw [e, a3, a4 j (by omega)]; exact fun e' => (b1.2.1 j (by omega) i3).2 e'.symm
        · rw [a4 i e]
          by_cases e2 : j = M 29 1
          · rw [e2, a3]; exact (b1.2.1 i i1 (by omega)).2
          · rw [a4 j e2]; exact b1.2.2 i j i1 i2 i3
    · obtain ⟨a1, a2, a3, a4⟩ := k3 (by omega)
      rw [a2]
      refine ⟨(b1.2.1 0 (by omega) (by omega)).1, fun i i1 i2 => ?_, fun i j i1 i2 i3 => ?_⟩
      · by_cases e : i = 15
        · rw [e, a3]; exact ⟨b1.1, fun e' => (b1.2.1 0 (by omega) (by omega)).2 e'.symm⟩
        · rw [a4 i i1 (by omega)]
          exact ⟨(b1.2.1 _ (by omega) (by omega)).1, fun e' => b1.2.2 0 (i + 1) (by omega) (by omega) (by omega) e'.symm⟩
      · rw [a4 i i1 (by omega)]
        by_cases e : j = 15
        · rw [e, a3]; exact (b1.2.1 _ (by omega) (by omega)).2
        · rw [a4 j (by omega) (by omega)]; exact b1.2.2 _ _ (by omega) (by omega) (by omega)
  · unfold PS
    rw [hN 29 (by omega), hN 30 (by omega), hK.1, hK.2.1]
    unfold kpS kpF at hnew hold ⊢
    by_cases h : M 29 1 < 16
    · obtain ⟨a1, a2, a3, a4⟩ := k2 h
      rw [if_neg (show ¬ M 505 0 = 16 by omega), if_neg (show ¬ M 505 0 = 16 by omega)] at hnew hold ⊢
      rw [a1]
      refine ⟨by omega, by omega, c3, fun i i1 i2 => ?_⟩
      by_cases e : i = M 29 1
      · rw [e, a3, hq, Int.toNat_natCast, ← c2]
        exact hnew
      · rw [a4 i e]
        exact hold i i1 (by omega) _ rfl (by omega)
    · obtain ⟨a1, a2, a3, a4⟩ := k3 (by omega)
      rw [if_pos (show M 505 0 = 16 by omega), if_pos (show M 505 0 = 16 by omega)] at hnew hold ⊢
      rw [a1]
      refine ⟨by omega, by omega, by omega, fun i i1 i2 => ?_⟩
      by_cases e : i = 15
      · rw [e, a3, hq, Int.toNat_natCast]
        exact hnew
      · rw [a4 i i1 (by omega)]
        exact hold (i + 1) (by omega) (by omega) _ (by omega) (by omega)
  · rw [h6]
    exact b3.at hn (fun k ka kb => hhi k (by omega) (by omega)) (fun _ _ _ => rfl)
  · rw [h6]
    refine b4.at hn (by rw [hhi 269 (by omega) (by omega)]) (hhi 270 (by omega) (by omega)) (fun i i1 i2 k ka kb => ?_) (fun _ _ => rfl)
    have := b4.1
    have := b5 i i1 (by omega)
    exact hhi k (by omega) (by omega)
  · rw [hhi 270 (by omega) (by omega)]; exact b5
  · intro p hp x hx
    rcases hp with hp | rfl | ⟨i, hi, rfl⟩
    · have hpr := isB_rng hp
      rw [hblk p hp (p + 3) (by omega) (by omega)]
      by_cases e : p = q
      · rw [e, hM2 _ (by omega) (by omega), cs_zo _ _ _ hx]; exact b6 q (Or.inl hqB) x hx
      · have hf := isB_far hp hqB (by omega)
        rw [hoff _ (by omega) (by omega) (by omega)]
        exact b6 p (Or.inl hp) x hx
    · rw [hhi _ (by omega) (by omega)]; exact b6 255 (Or.inr (Or.inl rfl)) x hx
    · rw [hhi _ (by omega) (by omega)]; exact b6 _ (Or.inr (Or.inr ⟨i, hi, rfl⟩)) x hx
  · refine hS.congr (Int.le_refl _) (EQ_of (fun k ka kb => ?_)) (fun x hx => ?_) (fun _ _ _ => rfl)
    · rw [hN k (by omega), k1 k (by omega) (by omega) (by omega)]
    · rw [hN 4 (by omega), k1 4 (by omega) (by omega) (by omega)]; exact hS.zo x hx
theorem GX.back {M M2 N : am_M} {n n' : Int} (hG : GR M n) (hn : n ≤ n') {q : Nat} (hq : M 0 1 = (q : Int)) (hM2 : ∀ k : Nat, (k = 0 ∨ 15 ≤ k) → M2 k = csS q 1 M k) (hz : ∀ x, ¬ TA x → M2 4 x = 0) (hN : ∀ k : Nat, k ≤ 494 → N k = csS 1 q M2 k) (h5 : N 505 = M 505) (h6 : N 506 = M 506) : GX N n' := by
  obtain ⟨b0, b8⟩ := hG
  obtain ⟨b1, b2, b3, b4, b5, b6, b7⟩ := id b0
  have hqB : isB (q : Int) := by rw [← hq]; exact b1.1
  have hqr := isB_rng hqB
  have hNk : ∀ k : Nat, k ≤ 494 → (k = 0 ∨ 15 ≤ k) → N k = csS q 1 M k := fun k ka kb => by rw [hN k ka, cs_off _ _ _ (by omega), hM2 k kb]
  have hoff : ∀ k : Nat, k ≤ 494 → (k = 0 ∨ 15 ≤ k) → (k < q ∨ q + 13 < k) → N k = M k := fun k ka kb kc => by rw [hNk k ka kb, cs_off _ _ _ kc]
  have e1 := cs_EQ (r0 := q) (r1 := 1) (by omega) M
  rw [vw_1] at e1
  refine ⟨?_, ?_, ?_, ?_, ?_, ?_, ?_⟩
  · unfold BQ
    rw [hoff 0 (by omega) (by omega) (by omega), hoff 30 (by omega) (by omega) (by omega)]
    exact b1
  · rw [h5]
    refine b2.at hn (by rw [hoff 29 (by omega) (by omega) (by omega)]) (hoff 30 (by omega) (by omega) (by omega)) (fun i i1 i2 k k1 k2 => ?_) (fun _ _ => rfl)
    have hB := b1.2.1 i i1 (by have := b2.1.2; omega)
    have hr := isB_rng hB.1
    have hf := isB_far hB.1 hqB (by rw [← hq]; exact hB.2)
    exact hoff k (by omega) (by omega) (by omega)
  · rw [h6]
    exact b3.at hn (fun k ka kb => hoff k (by omega) (by omega) (by omega)) (fun _ _ _ => rfl)
  · rw [h6]
    refine b4.at hn (by rw [hoff 269 (by omega) (by omega) (by omega)]) (hoff 270 (by omega) (by omega) (by omega)) (fun i i1 i2 k ka kb => ?_) (fun _ _ => rfl)
    have := b4.1
    have := b5 i i1 (by omega)
    exact hoff k (by omega) (by omega) (by omega)
  · rw [hoff 270 (by omega) (by omega) (by omega)]; exact b5
  · intro p hp x hx
    have hp2 : 15 ≤ p ∧ p + 3 ≤ 494 := by
      rcases hp with q1 | rfl | ⟨i, hi, rfl⟩
      · have := isB_rng q1; omega
      · omega
      · omega
    rw [hNk _ (by omega) (by omega)]
    by_cases e : p = q
    · rw [e, cs_zo _ _ _ hx]; exact b6 q (Or.inl hqB) x hx
    · have hf : p + 3 < q ∨ q + 13 < p + 3 := by
        rcases hp with q1 | rfl | ⟨i, hi, rfl⟩
        · have := isB_far q1 hqB (by omega); omega
        · omega
        · omega
      rw [cs_off _ _ _ hf]
      exact b6 p hp x hx
  · rw [h5]
    have e2 := cs_EQ (r0 := 1) (r1 := q) (by omega) M2
    rw [vw_1] at e2
    refine b8.congr hn (M' := N) ?_ ?_ (fun _ _ _ => rfl)
    · refine (e1.trans (EQ_of (M' := vw q M2) (fun k ka kb => ?_))).trans (e2.trans (EQ_of (fun k ka kb => hN k (by omega))))
      show M2 (q + k - 1) = csS q 1 M (q + k - 1)
      exact hM2 _ (by omega)
    · intro x hx
      rw [hN 4 (by omega)]
      have := cs_zo 1 q M2 hx
      rw [show csS 1 q M2 4 x = M2 4 x from this]
      exact hz x hx
theorem GR.same {M N : am_M} {n n' : Int} (hG : GR M n) (hn : n ≤ n') (hN : ∀ k : Nat, k ≤ 500 → N k = M k) (h5 : N 505 = M 505) (h6 : N 506 = M 506) (h13 : N 504 13 = M 504 13) (h16 : N 504 16 = M 504 16) (hr : ∀ k : Nat, 513 ≤ k → k ≤ 516 → N k = M k) : GR N n' := by
  refine ⟨hG.1.at hn (fun k _ k2 => hN k k2) (by rw [hN 0 (by omega)]) (fun _ _ => by rw [h5]) h6 h13 h16 hr, ?_⟩
  rw [h5]
  exact hG.2.congr hn (EQ_of (fun k _ k2 => hN k (by omega))) (fun x hx => by rw [hN 4 (by omega)]; exact hG.2.zo x hx) (fun _ _ _ => rfl)
