/-! small things for the methods' equations: numbers in range, memory, sums, searches, loops -/
theorem wr_id {z : Int} (h1 : -2147483648 ≤ z) (h2 : z < 2147483648) : am_wr z = z := by unfold am_wr; omega
theorem bI_some (z : Int) (M : am_M) (f : Int → am_M → Option am_O) : am_bI (some (some (am_i z), M)) f = f z M := rfl
theorem bV_some (M : am_M) (f : am_M → Option am_O) : am_bV (some (none, M)) f = f M := rfl
theorem bR_some (i : Nat) (M : am_M) (f : Nat → am_M → Option am_O) : am_bR (some (some (am_r 4 i), M)) f = f i M := rfl
theorem bL_some (x : Int64) (M : am_M) (f : Int64 → am_M → Option am_O) : am_bL (some (some (am_l x), M)) f = f x M := rfl
theorem v_eq (z : Int) (f : Int → Option am_O) : am_v z f = f z := rfl
theorem w_eq (M : am_M) (f : am_M → Option am_O) : am_w M f = f M := rfl
theorem if_t {c : Prop} [Decidable c] (h : c) (x : Option am_O) : am_if c x = x := if_pos h
theorem st_eq (M : am_M) (i : Nat) (f : Int → Int) : am_st M i f i = f := by simp [am_st]
theorem st_ne (M : am_M) {i k : Nat} (f : Int → Int) (h : k ≠ i) : am_st M i f k = M k := by simp [am_st, h]
theorem set_eq (M : am_M) (i : Nat) (j x : Int) : am_set M i j x i = am_up (M i) j x := st_eq _ _ _
theorem set_ne (M : am_M) {i k : Nat} (j x : Int) (h : k ≠ i) : am_set M i j x k = M k := st_ne _ _ h
theorem up_eq (f : Int → Int) (k x : Int) : am_up f k x k = x := by simp [am_up]
theorem up_ne (f : Int → Int) {k j : Int} (x : Int) (h : j ≠ k) : am_up f k x j = f j := by simp [am_up, h]
theorem st_st (M : am_M) (i : Nat) (f f' : Int → Int) : am_st (am_st M i f) i f' = am_st M i f' := by
  funext k; by_cases h : k = i <;> simp [am_st, h]
theorem st_self (M : am_M) (i : Nat) : am_st M i (M i) = M := by
  funext k; by_cases h : k = i <;> simp [am_st, h]
theorem st_comm (M : am_M) {i k : Nat} (f f' : Int → Int) (h : i ≠ k) : am_st (am_st M i f) k f' = am_st (am_st M k f') i f := by
  funext q
  by_cases h1 : q = i <;> by_cases h2 : q = k <;> simp [am_st, h1, h2]
  all_goals (try (subst h1; exact fun q => absurd q h)) <;> (try (intro q; omega)) <;> (try omega)
/-- f 0 + .. + f (n - 1) -/
def sm (f : Int → Int) : Nat → Int
  | 0 => 0
  | n + 1 => sm f n + f n
theorem sm_congr {f f' : Int → Int} : ∀ (n : Nat), (∀ i : Nat, i < n → f i = f' i) → sm f n = sm f' n
  | 0, _ => rfl
  | n + 1, h => by
    unfold sm
    rw [sm_congr n (fun i hi => h i (by omega)), h n (by omega)]
theorem sm_bd {f : Int → Int} {c : Nat} : ∀ (n : Nat), (∀ i : Nat, i < n → 0 ≤ f i ∧ f i ≤ c) → 0 ≤ sm f n ∧ sm f n ≤ (c * n : Nat)
  | 0, _ => by simp [sm]
  | n + 1, h => by
    have h1 := sm_bd n (fun i hi => h i (by omega))
    have h2 := h n (by omega)
    unfold sm
    rw [Nat.mul_succ]
    omega
/-- a loop that adds up -/
theorem lp_sum {F : Int → Int → Option am_O} {f : Int → Int} {n : Nat} {r : Option am_O} (hend : F (sm f n) n = r) (hstep : ∀ i : Nat, i < n → F (sm f i) i = F (sm f i + f i) (i + 1)) : F 0 0 = r := by
  have key : ∀ i : Nat, i ≤ n → F 0 0 = F (sm f i) i := by
    intro i
    induction i with
    | zero => intro _; rfl
    | succ i ih =>
      intro h
      rw [ih (by omega), hstep i (by omega)]
      rfl
  rw [key n (Nat.le_refl _), hend]
/-- the least of i, i + 1 .. (k of them) with p; -1: none -/
def fd (p : Int → Prop) (dp : ∀ i, Decidable (p i)) (i : Int) : Nat → Int
  | 0 => -1
  | k + 1 => @ite _ (p i) (dp i) i (fd p dp (i + 1) k)
theorem fd_congr {p p' : Int → Prop} {dp : ∀ i, Decidable (p i)} {dp' : ∀ i, Decidable (p' i)} : ∀ (k : Nat) (i : Int), (∀ j : Int, i ≤ j → j < i + k → (p j ↔ p' j)) → fd p dp i k = fd p' dp' i k
  | 0, _, _ => rfl
  | k + 1, i, h => by
    unfold fd
    rw [fd_congr k (i + 1) (fun j h1 h2 => h j (by omega) (by omega))]
    by_cases hp : p i
    · rw [if_pos hp, if_pos ((h i (by omega) (by omega)).mp hp)]
    · rw [if_neg hp, if_neg (fun q => hp ((h i (by omega) (by omega)).mpr q))]
theorem fd_spec {p : Int → Prop} {dp : ∀ i, Decidable (p i)} : ∀ (k : Nat) (i : Int), (fd p dp i k = -1 ∧ ∀ j : Int, i ≤ j → j < i + k → ¬ p j) ∨ (i ≤ fd p dp i k ∧ fd p dp i k < i + k ∧ p (fd p dp i k) ∧ ∀ j : Int, i ≤ j → j < fd p dp i k → ¬ p j)
  | 0, i => Or.inl ⟨rfl, fun j h1 h2 => by simp at h2; omega⟩
  | k + 1, i => by
    unfold fd
    by_cases hp : p i
    · rw [if_pos hp]
      exact Or.inr ⟨by omega, by omega, hp, fun j h1 h2 => by omega⟩
    · rw [if_neg hp]
      rcases fd_spec (p := p) (dp := dp) k (i + 1) with ⟨h1, h2⟩ | ⟨h1, h2, h3, h4⟩
      · refine Or.inl ⟨h1, fun j h5 h6 => ?_⟩
        by_cases hj : j = i
        · rw [hj]; exact hp
        · exact h2 j (by omega) (by omega)
      · refine Or.inr ⟨by omega, by omega, h3, fun j h5 h6 => ?_⟩
        by_cases hj : j = i
        · rw [hj]; exact hp
        · exact h4 j (by omega) (by omega)
/-- a loop that searches upwards -/
theorem lp_fd {F : Int → Option am_O} {p : Int → Prop} {dp : ∀ i, Decidable (p i)} {r : Int → Option am_O} {a : Int} {k : Nat} (hend : F (a + k) = r (-1)) (hstep : ∀ i : Int, a ≤ i → i < a + k → F i = @ite _ (p i) (dp i) (r i) (F (i + 1))) : F a = r (fd p dp a k) := by
  induction k generalizing a with
  | zero => simpa [fd] using hend
  | succ k ih =>
    unfold fd
    rw [hstep a (by omega) (by omega)]
    by_cases hp : p a
    · rw [if_pos hp, if_pos hp]
    · rw [if_neg hp, if_neg hp]
      exact ih (by rw [← hend]; congr 1; omega) (fun i h1 h2 => hstep i (by omega) (by omega))
