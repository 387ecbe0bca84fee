/-! shifts, masks, quotients of ints in range -/
theorem of_nI (n : Nat) : Int32.ofInt (n : Int) = nI n := Int32.ofInt_eq_ofNat
theorem to_nI {n : Nat} (h : n < 2147483648) : (nI n).toInt = (n : Int) := nI_toInt h
theorem of_bv (x : Int) : (Int32.ofInt x).toBitVec.toNat = (x % 4294967296).toNat := by
  show (BitVec.ofInt 32 x).toNat = _
  rw [BitVec.toNat_ofInt]
  rfl
theorem am_and7 (x : Int) : am_and x 7 = x % 8 := by
  unfold am_and
  rw [pk_and (Int32.ofInt x) (m := Int32.ofInt 7) 3 (by decide), to_nI (by omega), of_bv]
  omega
theorem am_and1 (x : Int) : am_and x 1 = x % 2 := by
  unfold am_and
  rw [pk_and (Int32.ofInt x) (m := Int32.ofInt 1) 1 (by decide), to_nI (by omega), of_bv]
  omega
theorem am_and63 (x : Int) : am_and x 63 = x % 64 := by
  unfold am_and
  rw [pk_and (Int32.ofInt x) (m := Int32.ofInt 63) 6 (by decide), to_nI (by omega), of_bv]
  omega
theorem sh_k : ∀ s : Nat, s < 32 → ((Int32.ofInt (s : Int) &&& 31).toBitVec.smod 32).toNat = s := by decide +kernel
theorem sh_u : ∀ s : Nat, s < 32 → (((Int32.ofInt (s : Int)).toUInt32 &&& Int32.toUInt32 31).toBitVec % 32).toNat = s := by decide +kernel
theorem am_shr_eq {x : Int} (hx : am_32 x) {s : Nat} (hs : s < 32) : am_shr x (s : Int) = x / 2 ^ s := by
  unfold am_shr
  rw [pk_shr _ _ s (sh_k s hs), am_to_of hx, Int.shiftRight_eq_div_pow]
  norm_cast
theorem am_shl_eq {n s : Nat} (hs : s < 32) (h : n * 2 ^ s < 2147483648) : am_shl (n : Int) (s : Int) = (n * 2 ^ s : Nat) := by
  unfold am_shl
  rw [of_nI n, pk_shlN _ s (sh_k s hs) (by omega), to_nI h]
theorem am_ushr_and1 {x : Int} (hx : am_32 x) {s : Nat} (hs : s < 32) : am_and (am_ushr x (s : Int)) 1 = am_and (am_shr x (s : Int)) 1 := by
  rw [am_and1, am_and1, am_shr_eq hx hs]
  unfold am_ushr
  have h1 := pk_ushr (Int32.ofInt x) (Int32.ofInt (s : Int)) s (sh_u s hs)
  rw [of_bv] at h1
  generalize hy : ((Int32.ofInt x).toUInt32 >>> ((Int32.ofInt (s : Int)).toUInt32 &&& Int32.toUInt32 31)).toInt32 = y at h1 ⊢
  have h2 : y.toInt % 2 = ((y.toBitVec.toNat : Nat) : Int) % 2 := by
    have h3 : y.toInt = y.toBitVec.toInt := rfl
    rw [h3, BitVec.toInt_eq_toNat_bmod]
    simp only [Int.bmod_def]
    omega
  rw [h2, h1]
  have h4 : x % 4294967296 = x - 4294967296 * (x / 4294967296) := by omega
  have h5 : (4294967296 : Int) = 2 ^ s * 2 ^ (32 - s) := by
    rw [← Int.pow_add, show s + (32 - s) = 32 by omega]
    rfl
  have h0 : (0 : Int) < 2 ^ s := Int.pow_pos (by omega)
  rw [Int.natCast_ediv, Int.toNat_of_nonneg (by omega), h4, h5]
  rw [show x - 2 ^ s * 2 ^ (32 - s) * (x / (2 ^ s * 2 ^ (32 - s))) = x + 2 ^ s * (-(2 ^ (32 - s) * (x / (2 ^ s * 2 ^ (32 - s))))) by rw [Int.mul_neg, Int.mul_assoc]; omega]
  have hc : ((2 ^ s : Nat) : Int) = 2 ^ s := by norm_cast
  rw [hc, Int.add_mul_ediv_left _ _ (by omega)]
  obtain ⟨k, hk⟩ : ∃ k : Nat, 32 - s = k + 1 := ⟨31 - s, by omega⟩
  rw [hk, Int.pow_succ]
  generalize x / 2 ^ s = a
  generalize x / (2 ^ s * (2 ^ k * 2)) = b
  have : (2 : Int) ^ k * 2 * b = 2 * (2 ^ k * b) := by rw [Int.mul_comm (2 ^ k) 2, Int.mul_assoc]
  rw [this]
  generalize (2 : Int) ^ k * b = c
  omega
theorem am_div_eq {a b : Nat} (ha : a < 2147483648) (h0 : 0 < b) (hb : b < 2147483648) : am_div (a : Int) (b : Int) = (a / b : Nat) := by
  unfold am_div
  rw [of_nI, of_nI, pk_div ha h0 hb, to_nI]
  exact Nat.lt_of_le_of_lt (Nat.div_le_self a b) ha
theorem am_rem_eq {a b : Nat} (ha : a < 2147483648) (h0 : 0 < b) (hb : b < 2147483648) : am_rem (a : Int) (b : Int) = (a % b : Nat) := by
  unfold am_rem
  rw [of_nI, of_nI, pk_rem ha h0 hb, to_nI]
  exact Nat.lt_of_le_of_lt (Nat.mod_le a b) ha
theorem am_div64 {a : Int} (h0 : 0 ≤ a) (h1 : a < 2147483648) : am_div a 64 = a / 64 := by
  obtain ⟨n, rfl⟩ : ∃ n : Nat, a = n := ⟨a.toNat, by omega⟩
  have := am_div_eq (a := n) (b := 64) (by omega) (by omega) (by omega)
  rw [show ((64 : Nat) : Int) = 64 from rfl] at this
  rw [this]; omega
theorem am_div8 {a : Int} (h0 : 0 ≤ a) (h1 : a < 2147483648) : am_div a 8 = a / 8 := by
  obtain ⟨n, rfl⟩ : ∃ n : Nat, a = n := ⟨a.toNat, by omega⟩
  have := am_div_eq (a := n) (b := 8) (by omega) (by omega) (by omega)
  rw [show ((8 : Nat) : Int) = 8 from rfl] at this
  rw [this]; omega
theorem am_rem8 {a : Int} (h0 : 0 ≤ a) (h1 : a < 2147483648) : am_rem a 8 = a % 8 := by
  obtain ⟨n, rfl⟩ : ∃ n : Nat, a = n := ⟨a.toNat, by omega⟩
  have := am_rem_eq (a := n) (b := 8) (by omega) (by omega) (by omega)
  rw [show ((8 : Nat) : Int) = 8 from rfl] at this
  rw [this]; omega
theorem am_rem16 {a : Int} (h0 : 0 ≤ a) (h1 : a < 2147483648) : am_rem a 16 = a % 16 := by
  obtain ⟨n, rfl⟩ : ∃ n : Nat, a = n := ⟨a.toNat, by omega⟩
  have := am_rem_eq (a := n) (b := 16) (by omega) (by omega) (by omega)
  rw [show ((16 : Nat) : Int) = 16 from rfl] at this
  rw [this]; omega
/-- a number of low bits all set -/
theorem am_or_mask {a : Nat} (k : Nat) (hk : k < 20) (ha : a < 1000000) : am_or (a : Int) ((2 ^ k - 1 : Nat) : Int) = ((a / 2 ^ k) * 2 ^ k + (2 ^ k - 1) : Nat) := by
  unfold am_or
  rw [of_nI, of_nI]
  have h2 : 2 ^ k ≤ 2 ^ 20 := Nat.pow_le_pow_right (by omega) (by omega)
  have h3 : 0 < 2 ^ k := Nat.pow_pos (by omega)
  have e : nI a ||| nI (2 ^ k - 1) = nI (a ||| (2 ^ k - 1)) := by
    apply Int32.toBitVec_inj.mp
    apply BitVec.eq_of_toNat_eq
    rw [Int32.toBitVec_or, BitVec.toNat_or, pk_tn (by omega), pk_tn (by omega), pk_tn]
    exact Nat.or_lt_two_pow (by omega) (by omega)
  have e2 : a ||| (2 ^ k - 1) = (a / 2 ^ k) * 2 ^ k + (2 ^ k - 1) := by
    have h4 : 2 ^ k * (a / 2 ^ k) ||| (2 ^ k - 1) = 2 ^ k * (a / 2 ^ k) + (2 ^ k - 1) := (Nat.two_pow_add_eq_or_of_lt (by omega) _).symm
    rw [Nat.mul_comm (a / 2 ^ k)]
    rw [← h4]
    apply Nat.eq_of_testBit_eq
    intro i
    rw [Nat.testBit_or, Nat.testBit_or, Nat.testBit_two_pow_sub_one, Nat.testBit_two_pow_mul]
    by_cases hi : i < k
    · simp [hi]
    · simp only [hi, decide_false, Bool.or_false]
      have : k ≤ i := by omega
      simp only [this, decide_true, Bool.true_and]
      rw [Nat.testBit_div_two_pow]
      congr 1
      omega
  have hle : (a / 2 ^ k) * 2 ^ k ≤ a := Nat.div_mul_le_self a _
  rw [e, e2, to_nI (by omega)]
