/-! LAID CLOSE: the number of a thing when all lie close; rows laid close in place -/
def rnk (c : Int → Int) : Nat → Nat
  | 0 => 0
  | n + 1 => if c (n : Int) = 0 then rnk c n else rnk c n + 1
theorem rnk_s0 {c : Int → Int} {n : Nat} (h : c (n : Int) = 0) : rnk c (n + 1) = rnk c n := if_pos h
theorem rnk_s1 {c : Int → Int} {n : Nat} (h : ¬ c (n : Int) = 0) : rnk c (n + 1) = rnk c n + 1 := if_neg h
theorem rnk_le (c : Int → Int) : ∀ n : Nat, rnk c n ≤ n
  | 0 => Nat.le_refl _
  | n + 1 => by
    have := rnk_le c n
    by_cases h : c (n : Int) = 0
    · rw [rnk_s0 h]; omega
    · rw [rnk_s1 h]; omega
theorem rnk_mono (c : Int → Int) {u : Nat} : ∀ {t : Nat}, u ≤ t → rnk c u ≤ rnk c t
  | 0, h => by have : u = 0 := by omega
               rw [this]; exact Nat.le_refl _
  | t + 1, h => by
    by_cases e : u = t + 1
    · rw [e]; exact Nat.le_refl _
    · have := rnk_mono c (u := u) (t := t) (by omega)
      by_cases h0 : c (t : Int) = 0
      · rw [rnk_s0 h0]; omega
      · rw [rnk_s1 h0]; omega
theorem rnk_lt {c : Int → Int} {u t : Nat} (hu : ¬ c (u : Int) = 0) (h : u < t) : rnk c u < rnk c t := by
  have := rnk_mono c (u := u + 1) (t := t) h
  rw [rnk_s1 hu] at this
  omega
theorem rnk_inj {c : Int → Int} {u t : Nat} (hu : ¬ c (u : Int) = 0) (ht : ¬ c (t : Int) = 0) (h : rnk c u = rnk c t) : u = t := by
  rcases (show u < t ∨ u = t ∨ t < u by omega) with e | e | e
  · have := rnk_lt hu e; omega
  · exact e
  · have := rnk_lt ht e; omega
theorem rnk_sur {c : Int → Int} {y : Nat} : ∀ {n : Nat}, y < rnk c n → ∃ u : Nat, u < n ∧ ¬ c (u : Int) = 0 ∧ rnk c u = y
  | 0, h => by simp [rnk] at h
  | n + 1, h => by
    by_cases h0 : c (n : Int) = 0
    · rw [rnk_s0 h0] at h
      obtain ⟨u, a, e⟩ := rnk_sur h
      exact ⟨u, by omega, e⟩
    · rw [rnk_s1 h0] at h
      by_cases e : y = rnk c n
      · exact ⟨n, by omega, h0, e.symm⟩
      · obtain ⟨u, a, e⟩ := rnk_sur (n := n) (show y < rnk c n by omega)
        exact ⟨u, by omega, e⟩
theorem str_ne {s i i' j j' : Int} (hj : 0 ≤ j ∧ j < s) (hj' : 0 ≤ j' ∧ j' < s) (h : i ≠ i') : s * i + j ≠ s * i' + j' := by
  have key : ∀ a b x y : Int, 0 ≤ x → x < s → 0 ≤ y → a < b → s * a + x ≠ s * b + y := by
    intro a b x y h1 h2 h3 h4
    have : s * (a + 1) ≤ s * b := Int.mul_le_mul_of_nonneg_left (by omega) (by omega)
    rw [Int.mul_add, Int.mul_one] at this
    omega
  rcases (show i < i' ∨ i' < i by omega) with e | e
  · exact key i i' j j' hj.1 hj.2 hj'.1 e
  · exact fun q => key i' i j' j hj'.1 hj'.2 hj.1 e q.symm
theorem str_in {s j : Int} {i n : Nat} (hj : 0 ≤ j ∧ j < s) (h : i < n) : 0 ≤ s * (i : Int) + j ∧ s * (i : Int) + j < s * (n : Int) := by
  have h1 : 0 ≤ s * (i : Int) := Int.mul_nonneg (by omega) (by omega)
  have h2 : s * ((i : Int) + 1) ≤ s * (n : Int) := Int.mul_le_mul_of_nonneg_left (by omega) (by omega)
  rw [Int.mul_add, Int.mul_one] at h2
  omega
/-- rows of s numbers each, from o on, the used ones of the first t laid close in place -/
def CM (c φ : Int → Int) (o s : Int) (n : Nat) (X0 X : Int → Int) (t : Nat) : Prop :=
  (∀ u : Nat, u < t → ¬ c (u : Int) = 0 → ∀ j : Int, 0 ≤ j → j < s → X (o + (s * (rnk c u : Int) + j)) = φ (X0 (o + (s * (u : Int) + j)))) ∧
  (∀ u : Nat, t ≤ u → u < n → ∀ j : Int, 0 ≤ j → j < s → X (o + (s * (u : Int) + j)) = X0 (o + (s * (u : Int) + j))) ∧
  ∀ y : Int, (y < o ∨ o + s * (n : Int) ≤ y) → X y = X0 y
theorem CM.init (c φ : Int → Int) (o s : Int) (n : Nat) (X0 : Int → Int) : CM c φ o s n X0 X0 0 := ⟨fun _ h => by omega, fun _ _ _ _ _ _ => rfl, fun _ _ => rfl⟩
theorem CM.free {c φ : Int → Int} {o s : Int} {n : Nat} {X0 X : Int → Int} {t : Nat} (h : CM c φ o s n X0 X t) (h0 : c (t : Int) = 0) : CM c φ o s n X0 X (t + 1) := by
  refine ⟨fun u hu hc => h.1 u (?_) hc, fun u hu => h.2.1 u (by omega), h.2.2⟩
  by_cases e : u = t
  · rw [e] at hc; exact absurd h0 hc
  · omega
theorem CM.used {c φ : Int → Int} {o s : Int} {n : Nat} {X0 X X' : Int → Int} {t : Nat} (h : CM c φ o s n X0 X t) (ht : t < n) (h0 : ¬ c (t : Int) = 0) (h1 : ∀ j : Int, 0 ≤ j → j < s → X' (o + (s * (rnk c t : Int) + j)) = φ (X (o + (s * (t : Int) + j)))) (h2 : ∀ y : Int, (∀ j : Int, 0 ≤ j → j < s → y ≠ o + (s * (rnk c t : Int) + j)) → X' y = X y) : CM c φ o s n X0 X' (t + 1) := by
  have hr := rnk_le c t
  refine ⟨fun u hu hc j j1 j2 => ?_, fun u hu hun j j1 j2 => ?_, fun y hy => ?_⟩
  · by_cases e : u = t
    · subst e
      rw [h1 j j1 j2, h.2.1 u (Nat.le_refl _) ht j j1 j2]
    · have hlt := rnk_lt hc (show u < t by omega)
      rw [h2 _ (fun j' a b q => str_ne (s := s) (i := (rnk c u : Int)) (i' := (rnk c t : Int)) ⟨j1, j2⟩ ⟨a, b⟩ (by omega) (by omega))]
      exact h.1 u (by omega) hc j j1 j2
  · rw [h2 _ (fun j' a b q => str_ne (s := s) (i := (u : Int)) (i' := (rnk c t : Int)) ⟨j1, j2⟩ ⟨a, b⟩ (by omega) (by omega))]
    exact h.2.1 u (by omega) hun j j1 j2
  · rw [h2 y (fun j a b q => by have := str_in (s := s) (i := rnk c t) (n := n) ⟨a, b⟩ (by omega); omega)]
    exact h.2.2 y hy
/-- counts laid close in place: what is left behind is 0 -/
def CZ (c : Int → Int) (o : Int) (n : Nat) (X0 X : Int → Int) (t : Nat) : Prop :=
  (∀ u : Nat, u < t → ¬ c (u : Int) = 0 → X (o + (rnk c u : Int)) = X0 (o + (u : Int))) ∧ (∀ x : Nat, rnk c t ≤ x → x < t → X (o + (x : Int)) = 0) ∧ (∀ u : Nat, t ≤ u → u < n → X (o + (u : Int)) = X0 (o + (u : Int))) ∧ ∀ y : Int, (y < o ∨ o + (n : Int) ≤ y) → X y = X0 y
theorem CZ.init (c : Int → Int) (o : Int) (n : Nat) (X0 : Int → Int) : CZ c o n X0 X0 0 := ⟨fun _ h => by omega, fun _ _ h => by omega, fun _ _ _ => rfl, fun _ _ => rfl⟩
theorem CZ.free {c : Int → Int} {o : Int} {n : Nat} {X0 X : Int → Int} {t : Nat} (h : CZ c o n X0 X t) (ht : t < n) (h0 : c (t : Int) = 0) (hX : X0 (o + (t : Int)) = 0) : CZ c o n X0 X (t + 1) := by
  refine ⟨fun u hu hc => h.1 u (?_) hc, fun x hx hxt => ?_, fun u hu => h.2.2.1 u (by omega), h.2.2.2⟩
  · by_cases e : u = t
    · rw [e] at hc; exact absurd h0 hc
    · omega
  · rw [rnk_s0 h0] at hx
    by_cases e : x = t
    · rw [e, h.2.2.1 t (Nat.le_refl _) ht]; exact hX
    · exact h.2.1 x hx (by omega)
theorem CZ.used {c : Int → Int} {o : Int} {n : Nat} {X0 X : Int → Int} {t : Nat} (h : CZ c o n X0 X t) (ht : t < n) (h0 : ¬ c (t : Int) = 0) : CZ c o n X0 (am_up (am_up X (o + (t : Int)) 0) (o + (rnk c t : Int)) (X (o + (t : Int)))) (t + 1) := by
  have hr := rnk_le c t
  refine ⟨fun u hu hc => ?_, fun x hx hxt => ?_, fun u hu hun => ?_, fun y hy => ?_⟩
  · by_cases e : u = t
    · subst e
      rw [up_eq]
      exact h.2.2.1 u (Nat.le_refl _) ht
    · have hlt := rnk_lt hc (show u < t by omega)
      have hle := rnk_le c u
      rw [up_ne _ _ (by omega), up_ne _ _ (by omega)]
      exact h.1 u (by omega) hc
  · rw [rnk_s1 h0] at hx
    rw [up_ne _ _ (by omega)]
    by_cases e : x = t
    · rw [e, up_eq]
    · rw [up_ne _ _ (by omega)]
      exact h.2.1 x (by omega) (by omega)
  · rw [up_ne _ _ (by omega), up_ne _ _ (by omega)]
    exact h.2.2.1 u (by omega) hun
  · rw [up_ne _ _ (by omega), up_ne _ _ (by omega)]
    exact h.2.2.2 y hy
theorem it_add {σ : Type} {b : Int → σ → σ} : ∀ (m n : Nat) (a : Int) (s : σ), itS b (m + n) a s = itS b n (a + m) (itS b m a s)
  | 0, n, a, s => by simp [itS]
  | m + 1, n, a, s => by
    rw [show m + 1 + n = (m + n) + 1 by omega]
    show itS b (m + n) (a + 1) (b a s) = _
    rw [it_add m n (a + 1) (b a s), show a + 1 + (m : Int) = a + ((m + 1 : Nat) : Int) by omega]
    rfl
/-- the number of a thing when all lie close -/
def fT (c : Int → Int) (x : Int) : Int := if 0 ≤ x ∧ x < 96 then (rnk c x.toNat : Int) else if 96 ≤ x ∧ x < 256 then 96 + (rnk (fun i => c (i + 96)) (x - 96).toNat : Int) else -1
theorem fT_b (c : Int → Int) {b : Nat} (h : b < 96) : fT c (b : Int) = (rnk c b : Int) := by
  unfold fT
  rw [if_pos ⟨by omega, by omega⟩, Int.toNat_natCast]
theorem fT_p (c : Int → Int) {p : Nat} (h : p < 160) : fT c ((p : Int) + 96) = 96 + (rnk (fun i => c (i + 96)) p : Int) := by
  unfold fT
  rw [if_neg (by omega), if_pos ⟨by omega, by omega⟩, show ((p : Int) + 96 - 96).toNat = p by omega]
theorem fT_m1 (c : Int → Int) : fT c (-1) = -1 := by
  unfold fT
  rw [if_neg (by omega), if_neg (by omega)]
/-- of the blocks below n, how many get another number -/
def mvd (c : Int → Int) (n : Nat) : Int := sm (fun b => if c b = 0 then 0 else if (rnk c b.toNat : Int) = b then 0 else 1) n
theorem mvd_bd (c : Int → Int) (n : Nat) : 0 ≤ mvd c n ∧ mvd c n ≤ n := by
  have := sm_bd (f := fun b => if c b = 0 then 0 else if (rnk c b.toNat : Int) = b then 0 else 1) (c := 1) n (fun i _ => by (try dsimp only); repeat' split
                                                                                                                            all_goals omega)
  unfold mvd
  omega
theorem mvd_s0 {c : Int → Int} {n : Nat} (h : c (n : Int) = 0) : mvd c (n + 1) = mvd c n := by
  show mvd c n + _ = _
  (try dsimp only)
  rw [if_pos h]; omega
theorem mvd_s1 {c : Int → Int} {n : Nat} (h : ¬ c (n : Int) = 0) (h2 : (rnk c n : Int) = n) : mvd c (n + 1) = mvd c n := by
  show mvd c n + _ = _
  (try dsimp only)
  rw [if_neg h, Int.toNat_natCast, if_pos h2]; omega
theorem mvd_s2 {c : Int → Int} {n : Nat} (h : ¬ c (n : Int) = 0) (h2 : ¬ (rnk c n : Int) = n) : mvd c (n + 1) = mvd c n + 1 := by
  show mvd c n + _ = _
  (try dsimp only)
  rw [if_neg h, Int.toNat_natCast, if_neg h2]
