/-! the relation at the start -/
theorem sm_0 {f : Int → Int} : ∀ n : Nat, (∀ i : Nat, i < n → f i = 0) → sm f n = 0
  | 0, _ => rfl
  | n + 1, h => by
    unfold sm
    rw [sm_0 n (fun i hi => h i (by omega)), h n (by omega)]
    rfl
theorem SS_0 {M : am_M} {R : Int → Int} (h4 : M 4 = fun _ => 0) (h7 : ∀ v : Int, M 7 v = 0) (h10 : ∀ v : Int, 0 ≤ v → v < 12 → M 10 v = -1) (h1 : M 1 = fun _ => 0) (hR : ∀ y : Int, R y = 0) : SS M R 0 := by
  have h4' : ∀ x : Int, M 4 x = 0 := fun x => by rw [h4]
  have h1' : ∀ x : Int, M 1 x = 0 := fun x => by rw [h1]
  have e4 : am_st M 4 (fun _ => 0) = M := by
    funext k
    by_cases hk : k = 4
    · subst hk; simp [am_st, h4]
    · simp [am_st, hk]
  have hth : ∀ v : Int, ¬ thS M v := fun v h => by
    have := h.2.2
    rw [h7] at this
    omega
  refine ⟨fun _ => 0, ⟨fun _ => 0, ?_, ?_⟩, fun y _ _ => ?_⟩
  · rw [e4]
    refine ⟨⟨⟨fun _ => ⟨Int.le_refl 0, (by decide : (0 : Int) ≤ 1000)⟩, ?_, ?_, ?_, ?_⟩, ?_, ?_, ?_, ?_, ?_⟩, ?_⟩
    · intro p _ h
      rw [h4] at h
      exact absurd rfl h
    · intro t ht
      have e1 : rfP (M 4) (M 6) t = 0 := by
        unfold rfP
        refine sm_0 160 fun i _ => ?_
        rw [h4]
        simp
      have e2 : rfT (M 10) t = 0 := by
        unfold rfT
        refine sm_0 12 fun i hi => ?_
        show (if M 10 (i : Int) = t then (1 : Int) else 0) = 0
        rw [h10 _ (by omega) (by omega), if_neg (by have := ht.1; omega)]
      rw [e1, e2, h4]
      rfl
    · intro p _ h
      rw [h4] at h
      exact absurd rfl h
    · intro x _
      rw [h4]
    · intro v hv
      refine ⟨Or.inl (h10 _ (by omega) (by omega)), fun h => ?_⟩
      rw [h7] at h
      omega
    · intro b _ _ h
      rw [h4] at h
      exact absurd rfl h
    · refine ⟨⟨(h1' _).symm, (h1' _).symm, Or.inl (h1' _)⟩, fun v v1 v2 => ⟨⟨by rw [h7]; decide, by rw [h7]; decide, ⟨fun h => absurd (show (0 : Int) = 1 from h) (by decide), fun h => (by rw [h7] at h; omega)⟩, fun _ => h10 v v1 v2⟩, fun h => (by rw [h7] at h; omega)⟩⟩
    · refine ⟨⟨by rw [h1']; decide, by rw [h1']; decide⟩, fun v _ h => ?_⟩
      rw [h7] at h
      omega
    · intro v _ h
      rw [h7] at h
      omega
    · refine ⟨fun v hv => absurd hv (hth v), ?_⟩
      have e1 : sm (hfS M) 12 = 0 := sm_0 12 fun i _ => by
        unfold hfS
        rw [if_neg (hth _)]
      have e2 : nz (M 4) 96 = 0 := by
        unfold nz
        refine sm_0 96 fun i _ => ?_
        rw [h4]
        rfl
      rw [e1, e2]
      decide
  · refine ⟨fun x _ => by rw [h4], fun b _ _ => ⟨by rw [h4']; decide, by rw [h4']; decide, by rw [h4']⟩, Or.inl (h1' _), fun _ => h4⟩
  · rw [hR, h4]
    unfold wc
    dsimp only
    split
    · rfl
    · split <;> rfl
theorem m0_SS {L : Nat} {xs : Nat → Int32} {b : Nat} {R : Int → Int} (hb : m0b b) (hR : ∀ y : Int, R y = 0) : SS (vw b (m0 L xs)) R 0 := by
  have hv : ∀ o, o < 14 → vw b (m0 L xs) (o + 1) = if o = 9 ∨ o = 12 then m0f else fun _ => 0 := fun o ho => by
    show m0 L xs (b + (o + 1) - 1) = _
    rw [show b + (o + 1) - 1 = b + o by omega]
    exact m0_st hb ho
  refine SS_0 ?_ (fun v => ?_) (fun v v1 v2 => ?_) ?_ hR
  · rw [hv 3 (by decide), if_neg (by decide)]
  · rw [hv 6 (by decide), if_neg (by decide)]
  · rw [hv 9 (by decide), if_pos (by decide)]
    unfold m0f
    rw [if_pos ⟨v1, v2⟩]
  · rw [hv 0 (by decide), if_neg (by decide)]
theorem m0_GR (L : Nat) (xs : Nat → Int32) : GR (m0 L xs) 0 := by
  have z505 : ∀ y : Int, m0 L xs 505 y = 0 := fun y => by rw [m0_z (by omega) (by decide)]
  have z506 : ∀ y : Int, m0 L xs 506 y = 0 := fun y => by rw [m0_z (by omega) (by decide)]
  have z29 : ∀ y : Int, m0 L xs 29 y = 0 := fun y => by rw [m0_z (by omega) (by decide)]
  have z269 : ∀ y : Int, m0 L xs 269 y = 0 := fun y => by rw [m0_z (by omega) (by decide)]
  have hz : ∀ i : Nat, 495 ≤ i → i ≠ 517 → ∀ y : Int, m0 L xs i y = 0 := fun i h1 h2 y => by rw [m0_z (by omega) h2]
  have h30 : ∀ i : Int, 0 ≤ i → i < 16 → m0 L xs 30 i = 31 + 14 * i := fun i i1 i2 => by rw [m0_30]; exact if_pos ⟨i1, i2⟩
  have h270 : ∀ i : Int, 0 ≤ i → i < 16 → m0 L xs 270 i = 271 + 14 * i := fun i i1 i2 => by rw [m0_270]; exact if_pos ⟨i1, i2⟩
  have h01 : m0 L xs 0 1 = 15 := rfl
  refine ⟨⟨⟨?_, ?_, ?_⟩, ?_, m0_SS (Or.inr (Or.inr (Or.inr (Or.inl rfl)))) z506, ?_, h270, ?_, ?_⟩, ?_⟩
  · exact Or.inl h01
  · intro i i1 i2
    rw [h30 i i1 i2, h01]
    exact ⟨Or.inr ⟨i.toNat, by omega, by omega⟩, by omega⟩
  · intro i j i1 ij j2
    rw [h30 i i1 (by omega), h30 j (by omega) j2]
    omega
  · refine ⟨⟨by rw [z29]; decide, by rw [z29]; decide⟩, by rw [z505, z29], ⟨by rw [z505]; decide, by rw [z505]; decide⟩, fun i i1 i2 => ?_⟩
    rw [z29] at i2
    omega
  · refine ⟨⟨by rw [z269]; decide, by rw [z269]; decide⟩, by rw [z506, z269], ⟨by rw [z506]; decide, by rw [z506]; decide⟩, fun i i1 i2 => ?_⟩
    rw [z269] at i2
    omega
  · intro q hq x _
    have hb : m0b q := by
      rcases hq with (h | ⟨i, hi, h⟩) | h | ⟨i, hi, h⟩
      · exact Or.inr (Or.inl (by omega))
      · exact Or.inr (Or.inr (Or.inl ⟨i, hi, by omega⟩))
      · exact Or.inr (Or.inr (Or.inr (Or.inl h)))
      · exact Or.inr (Or.inr (Or.inr (Or.inr ⟨i, hi, h⟩)))
    rw [m0_st hb (o := 3) (by decide), if_neg (by decide)]
  · refine ⟨⟨⟨by rw [hz 495 (by decide) (by decide)]; decide, by rw [hz 495 (by decide) (by decide)]; decide⟩, by rw [hz 495 (by decide) (by decide), hz 504 (by decide) (by decide)], fun i i1 i2 => ?_⟩, ⟨by rw [hz 498 (by decide) (by decide)]; decide, by rw [hz 498 (by decide) (by decide)]; decide⟩, by rw [hz 498 (by decide) (by decide), hz 504 (by decide) (by decide)], fun i i1 i2 => ?_⟩
    · rw [hz 495 (by decide) (by decide)] at i2
      omega
    · rw [hz 498 (by decide) (by decide)] at i2
      omega
  · have := m0_SS (L := L) (xs := xs) (b := 1) (Or.inl rfl) z505
    rw [vw_1] at this
    exact this
