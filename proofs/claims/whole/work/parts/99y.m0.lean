/-! the memory at the start, and where its cells lie -/
abbrev m0t (i : Nat) : Prop := (1 ≤ i ∧ i < 29 ∧ ((i - 1) % 14 = 9 ∨ (i - 1) % 14 = 12)) ∨ (31 ≤ i ∧ i < 255 ∧ ((i - 31) % 14 = 9 ∨ (i - 31) % 14 = 12)) ∨ (255 ≤ i ∧ i < 269 ∧ (i - 255 = 9 ∨ i - 255 = 12)) ∨ (271 ≤ i ∧ i < 495 ∧ ((i - 271) % 14 = 9 ∨ (i - 271) % 14 = 12))
def m0f : Int → Int := fun j => if 0 ≤ j ∧ j < 12 then -1 else 0
def m0s (L : Nat) (xs : Nat → Int32) : Int → Int := fun j => if j = -1 then (L : Int) else if 0 ≤ j ∧ j < L then (xs j.toNat).toInt else 0
def m0 (L : Nat) (xs : Nat → Int32) : am_M := fun i => if i = 517 then m0s L xs else if i = 0 then (fun j => if j = 1 then 15 else 0) else if i = 30 then (fun j => if 0 ≤ j ∧ j < 16 then 31 + 14 * j else 0) else if i = 270 then (fun j => if 0 ≤ j ∧ j < 16 then 271 + 14 * j else 0) else if m0t i then m0f else fun _ => 0
/-- where a state lies -/
def m0b (b : Nat) : Prop := b = 1 ∨ b = 15 ∨ (∃ i, i < 16 ∧ b = 31 + 14 * i) ∨ b = 255 ∨ ∃ i, i < 16 ∧ b = 271 + 14 * i
theorem m0_st {L : Nat} {xs : Nat → Int32} {b o : Nat} (hb : m0b b) (ho : o < 14) : m0 L xs (b + o) = if o = 9 ∨ o = 12 then m0f else fun _ => 0 := by
  have h1 : b + o ≠ 517 ∧ b + o ≠ 0 ∧ b + o ≠ 30 ∧ b + o ≠ 270 ∧ (m0t (b + o) ↔ o = 9 ∨ o = 12) := by
    unfold m0t
    rcases hb with rfl | rfl | ⟨i, hi, rfl⟩ | rfl | ⟨i, hi, rfl⟩ <;> omega
  obtain ⟨h1, h2, h3, h4, h5⟩ := h1
  unfold m0
  rw [if_neg h1, if_neg h2, if_neg h3, if_neg h4]
  by_cases h : o = 9 ∨ o = 12
  · rw [if_pos h, if_pos (h5.mpr h)]
  · rw [if_neg h, if_neg (fun q => h (h5.mp q))]
theorem m0_z {L : Nat} {xs : Nat → Int32} {i : Nat} (hi : i = 29 ∨ i = 269 ∨ 495 ≤ i) (h2 : i ≠ 517) : m0 L xs i = fun _ => 0 := by
  have h1 : i ≠ 0 ∧ i ≠ 30 ∧ i ≠ 270 ∧ ¬ m0t i := by
    unfold m0t
    omega
  unfold m0
  rw [if_neg h2, if_neg h1.1, if_neg h1.2.1, if_neg h1.2.2.1, if_neg h1.2.2.2]
theorem m0_0 {L : Nat} {xs : Nat → Int32} : m0 L xs 0 = fun j => if j = 1 then 15 else 0 := rfl
theorem m0_30 {L : Nat} {xs : Nat → Int32} : m0 L xs 30 = fun j => if 0 ≤ j ∧ j < 16 then 31 + 14 * j else 0 := rfl
theorem m0_270 {L : Nat} {xs : Nat → Int32} : m0 L xs 270 = fun j => if 0 ≤ j ∧ j < 16 then 271 + 14 * j else 0 := rfl
theorem m0_517 {L : Nat} {xs : Nat → Int32} : m0 L xs 517 = m0s L xs := rfl
theorem tg_st1 : ∀ o, o < 14 → am_tg (1 + o) = am_sb o ∧ am_tg (15 + o) = am_sb o ∧ am_tg (255 + o) = am_sb o := by decide +kernel
theorem tg_st2 : ∀ i, i < 16 → ∀ o, o < 14 → am_tg (31 + 14 * i + o) = am_sb o ∧ am_tg (271 + 14 * i + o) = am_sb o := by decide +kernel
theorem tg_st {b o : Nat} (hb : m0b b) (ho : o < 14) : am_tg (b + o) = am_sb o := by
  rcases hb with rfl | rfl | ⟨i, hi, rfl⟩ | rfl | ⟨i, hi, rfl⟩
  · exact (tg_st1 o ho).1
  · exact (tg_st1 o ho).2.1
  · exact (tg_st2 i hi o ho).1
  · exact (tg_st1 o ho).2.2
  · exact (tg_st2 i hi o ho).2
theorem tg_big {i : Nat} (h : 518 ≤ i) : am_tg i = 99 := by
  unfold am_tg
  rw [if_neg (by omega), if_neg (by omega), if_neg (by omega), if_neg (by omega), if_neg (by omega), if_neg (by omega), if_neg (by omega), if_neg (by omega), if_neg (by omega)]
  rw [List.getD_eq_getElem?_getD, List.getElem?_eq_none (by simp; omega)]
  rfl
theorem tg_16' : ∀ i, i < 518 → am_tg i = 16 → i = 30 ∨ i = 270 := by decide +kernel
theorem tg_16 {i : Nat} (h : am_tg i = 16) : i = 30 ∨ i = 270 := by
  rcases Nat.lt_or_ge i 518 with q | q
  · exact tg_16' i q h
  · rw [tg_big q] at h; cases h
theorem tg_15'' : ∀ i, i < 518 → am_tg i = 15 → i = 9 ∨ i = 23 ∨ i = 263 ∨ (31 ≤ i ∧ i < 255 ∧ (i - 31) % 14 = 8) ∨ (271 ≤ i ∧ i < 495 ∧ (i - 271) % 14 = 8) := by decide +kernel
theorem tg_15' (i : Nat) (h : i < 518) (h2 : am_tg i = 15) : i ≠ 517 ∧ i ≠ 0 ∧ i ≠ 30 ∧ i ≠ 270 ∧ ¬ m0t i := by
  have := tg_15'' i h h2
  unfold m0t
  omega
theorem m0_ok {g : am_G} : am_okM g (m0 g.2.2.2.2 g.2.2.2.1) ↔ (g.2.2.2.2 : Int) < 2147483648 := by
  constructor
  · intro h
    have := h.1 517 (-1)
    rw [h.2.2.2.2.1] at this
    exact this.2
  · intro hL
    have h4 : ∀ j : Int, 0 ≤ j → j < 16 → am_tg (31 + 14 * j).toNat = 4 ∧ am_tg (271 + 14 * j).toNat = 4 := by
      intro j j1 j2
      obtain ⟨w, rfl⟩ : ∃ w : Nat, j = (w : Int) := ⟨j.toNat, by omega⟩
      have hw : w < 16 := by omega
      have := tg_st2 w hw 0 (by decide)
      rw [show (31 + 14 * (w : Int)).toNat = 31 + 14 * w + 0 by omega, show (271 + 14 * (w : Int)).toNat = 271 + 14 * w + 0 by omega]
      exact this
    refine ⟨fun i j => ?_, ⟨by rw [m0_0]; simp, by rw [m0_0]; simp, by rw [m0_0]; rfl⟩, fun i hi j j1 j2 => ?_, fun i hi j => ?_, rfl, fun j hj => ?_⟩
    · unfold m0
      split
      · unfold m0s
        split
        · unfold am_32; omega
        · split
          · exact am_to_32 _
          · unfold am_32; omega
      · split
        · dsimp only
          unfold am_32; split <;> omega
        · split
          · dsimp only
            unfold am_32; split <;> omega
          · split
            · dsimp only
              unfold am_32; split <;> omega
            · split
              · unfold am_32 m0f; split <;> omega
              · exact am_32_0
    · rcases tg_16 hi with rfl | rfl
      · rw [m0_30]
        dsimp only
        rw [if_pos ⟨j1, j2⟩]
        exact ⟨by omega, by omega, (h4 j j1 j2).1⟩
      · rw [m0_270]
        dsimp only
        rw [if_pos ⟨j1, j2⟩]
        exact ⟨by omega, by omega, (h4 j j1 j2).2⟩
    · rcases Nat.lt_or_ge i 518 with q | q
      · obtain ⟨a1, a2, a3, a4, a5⟩ := tg_15' i q hi
        unfold m0
        rw [if_neg a1, if_neg a2, if_neg a3, if_neg a4, if_neg a5]
        exact Or.inl rfl
      · rw [tg_big q] at hi; cases hi
    · rw [m0_517]
      unfold m0s
      rw [if_neg (by omega), if_pos (by omega)]
      rfl
theorem m0_np {g : am_G} (h : (g.2.2.2.2 : Int) < 2147483648) : np_m (m0 g.2.2.2.2 g.2.2.2.1 517) (m0 g.2.2.2.2 g.2.2.2.1) := by
  have := m0_ok.mpr h
  exact ⟨rfl, this.2.1.2, fun i hi j j1 j2 => (this.2.2.1 i hi j j1 j2).2⟩
/-! the cells of a state -/
theorem ce_st {g : am_G} {M : am_M} {f : Nat → Nat} {b : Nat} (hb : m0b b) (hf : ∀ o, o < 14 → g.1 (b + o) = f o) (hM : ∀ o, o < 14 → M (b + o) = if o = 9 ∨ o = 12 then m0f else fun _ => 0) : ∀ o, o < 14 → am_ce g M (b + o) = stE g.2.2.1 f o := by
  have e0 : (fun _ : Nat => Int32.ofInt 0) = fun _ => (0 : Int32) := rfl
  have e1 : (fun j : Nat => Int32.ofInt (m0f (j : Int))) = fun j => if j < 12 then (-1 : Int32) else 0 := by
    funext j
    unfold m0f
    by_cases h : j < 12
    · rw [if_pos h, if_pos (by omega)]; rfl
    · rw [if_neg h, if_neg (by omega)]; rfl
  have ia : ∀ o, o < 14 → ∀ n : Nat, am_ar (am_sb o) = some (0, (n : Int)) → ¬ (o = 9 ∨ o = 12) → am_ce g M (b + o) = ct_ia g.2.2.1 n := fun o ho n ha hn => by
    rw [ce_arr g M (tg_st hb ho) ha (by decide), hM o ho, if_neg hn]
    rfl
  have it : ∀ o, o < 14 → am_ar (am_sb o) = some (0, 12) → (o = 9 ∨ o = 12) → am_ce g M (b + o) = ct_ff g.2.2.1 (-1) 12 := fun o ho ha hn => by
    rw [ce_arr g M (tg_st hb ho) ha (by decide), hM o ho, if_pos hn, e1]
    rfl
  intro o ho
  rcases (show o = 0 ∨ o = 1 ∨ o = 2 ∨ o = 3 ∨ o = 4 ∨ o = 5 ∨ o = 6 ∨ o = 7 ∨ o = 8 ∨ o = 9 ∨ o = 10 ∨ o = 11 ∨ o = 12 ∨ o = 13 by omega) with rfl | rfl | rfl | rfl | rfl | rfl | rfl | rfl | rfl | rfl | rfl | rfl | rfl | rfl
  · have h0 := hM 0 (by decide)
    rw [if_neg (by decide)] at h0
    have e : am_ce g M (b + 0) = .inr (4, [.ref (g.1 (b + 1)), .ref (g.1 (b + 6)), .ref (g.1 (b + 7)), .ref (g.1 (b + 8)), .ref (g.1 (b + 9)), .ref (g.1 (b + 10)), .ref (g.1 (b + 11)), .ref (g.1 (b + 12)), .ref (g.1 (b + 13)), .int (Int32.ofInt (M (b + 0) (9 : Nat))), .int (Int32.ofInt (M (b + 0) (10 : Nat))), .int (Int32.ofInt (M (b + 0) (11 : Nat)))]) := by
      rw [ce_obj g M (tg_st hb (by decide)) rfl]
      rfl
    rw [e, h0, hf 1 (by decide), hf 6 (by decide), hf 7 (by decide), hf 8 (by decide), hf 9 (by decide), hf 10 (by decide), hf 11 (by decide), hf 12 (by decide), hf 13 (by decide)]
    rfl
  · have e : am_ce g M (b + 1) = .inr (2, [.ref (g.1 (b + 1 + 1)), .ref (g.1 (b + 1 + 2)), .ref (g.1 (b + 1 + 3)), .ref (g.1 (b + 1 + 4))]) := by
      rw [ce_obj g M (tg_st hb (by decide)) rfl]
      rfl
    rw [e, show b + 1 + 1 = b + 2 from rfl, show b + 1 + 2 = b + 3 from rfl, show b + 1 + 3 = b + 4 from rfl, show b + 1 + 4 = b + 5 from rfl, hf 2 (by decide), hf 3 (by decide), hf 4 (by decide), hf 5 (by decide)]
    rfl
  · exact ia 2 (by decide) 96 rfl (by decide)
  · exact ia 3 (by decide) 256 rfl (by decide)
  · exact ia 4 (by decide) 160 rfl (by decide)
  · exact ia 5 (by decide) 1280 rfl (by decide)
  · exact ia 6 (by decide) 12 rfl (by decide)
  · exact ia 7 (by decide) 12 rfl (by decide)
  · rw [ce_arr g M (tg_st hb (by decide)) rfl (by decide), hM 8 (by decide), if_neg (by decide)]
    rfl
  · exact it 9 (by decide) rfl (by decide)
  · exact ia 10 (by decide) 12 rfl (by decide)
  · exact ia 11 (by decide) 12 rfl (by decide)
  · exact it 12 (by decide) rfl (by decide)
  · exact ia 13 (by decide) 12 rfl (by decide)
/-! lists by their places -/
def lay (F : Nat → Nat × va_E) (n : Nat) (X : va_W) : Prop := X = (List.range n).map F
theorem lay_one {F : Nat → Nat × va_E} {n : Nat} {X : va_W} {y : Nat × va_E} (h : lay F n X) (hy : y = F n) : lay F (n + 1) (X ++ [y]) := by
  unfold lay at h ⊢
  rw [h, hy, List.range_succ, List.map_append]
  rfl
theorem lay_map {F G : Nat → Nat × va_E} {n : Nat} {X : va_W} (h : lay F n X) : ∀ k : Nat, (∀ j, j < k → G j = F (n + j)) → lay F (n + k) (X ++ (List.range k).map G)
  | 0, _ => by simpa using h
  | k + 1, hG => by
    have := lay_one (lay_map h k fun j hj => hG j (by omega)) (hG k (by omega))
    rw [List.range_succ, List.map_append, ← List.append_assoc]
    exact this
theorem lay_fl {F : Nat → Nat × va_E} {k3 : ClassId × ClassId × ClassId} : ∀ (fs : List (Nat → Nat)) {n : Nat} {X : va_W}, lay F n X → (∀ i, i < fs.length → ∀ o, o < 14 → ((fs.getD i fun _ => 0) o, stE k3 (fs.getD i fun _ => 0) o) = F (n + 14 * i + o)) → lay F (n + 14 * fs.length) (X ++ fs.flatMap (stL k3))
  | [], n, X, h, _ => by simpa using h
  | f :: fs, n, X, h, hF => by
    have h1 : lay F (n + 14) (X ++ stL k3 f) := lay_map h 14 fun j hj => by
      have := hF 0 (by simp) j hj
      simpa using this
    have h2 := lay_fl fs h1 fun i hi o ho => by
      have := hF (i + 1) (by simp; omega) o ho
      rw [show n + 14 + 14 * i + o = n + 14 * (i + 1) + o by omega]
      simpa using this
    rw [List.flatMap_cons, ← List.append_assoc, List.length_cons, show n + 14 * (fs.length + 1) = n + 14 + 14 * fs.length by omega]
    exact h2
