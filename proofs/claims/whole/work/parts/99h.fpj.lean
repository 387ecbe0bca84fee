/-! TOLD AS FLOATS: saved, full, mean -/
theorem f3_two : FP.fconst2 = f3_of 128 0 := by decide +kernel
theorem f3_one : FP.fconst1 = f3_of 127 0 := by decide +kernel
theorem d6_two : (4611686018427387904 : UInt64) = d6_of 1024 0 := by decide +kernel
theorem d6_one : FP.dconst1 = d6_of 1023 0 := by decide +kernel
theorem or_add {E T : Nat} (hE : E ≤ 254) (hT : T < 8388608) : am_or (am_shl (E : Int) 23) (T : Int) = ((E * 8388608 + T : Nat) : Int) := by
  have e0 : am_shl (E : Int) 23 = ((E * 8388608 : Nat) : Int) := am_shl_eq (n := E) (s := 23) (by decide) (by omega)
  rw [e0]
  unfold am_or
  rw [of_nI, of_nI]
  have e2 : E * 8388608 ||| T = E * 8388608 + T := by
    have h4 := (Nat.two_pow_add_eq_or_of_lt (i := 23) (b := T) (by omega) E).symm
    rw [Nat.mul_comm] at h4
    exact h4
  have e : nI (E * 8388608) ||| nI T = nI (E * 8388608 + T) := by
    apply Int32.toBitVec_inj.mp
    apply BitVec.eq_of_toNat_eq
    rw [Int32.toBitVec_or, BitVec.toNat_or, pk_tn (by omega), pk_tn (by omega), pk_tn (by omega), e2]
  rw [e]
  exact to_nI (by omega)
theorem bf_end (d : Nat) (M : am_M) {T : Nat} (hT : T < 8388608) {E : Nat} (hE : E ≤ 254) (i : Int) : am_at am_P d j_Tv_bitsOfFloat 42 [am_u, am_f (f3_of 127 T), am_i (E : Int), am_i i] [] M = some (some (am_i ((E * 8388608 + T : Nat) : Int)), M) := by
  obtain ⟨y, z, y1, z1, t1, t2, t3⟩ := f3_tail hT
  have hfin : am_if (FP.fsub (f3_of 127 T) FP.fconst1 &&& 0x7fffffff ≤ 0x7f800000) (am_if (FP.fmul (FP.fsub (f3_of 127 T) FP.fconst1) 1258291200 &&& 0x7fffffff ≤ 0x7f800000) (some (some (am_i (am_or (am_shl (E : Int) 23) ((FP.f2i (FP.fmul (FP.fsub (f3_of 127 T) FP.fconst1) 1258291200)).toInt))), M))) = some (some (am_i ((E * 8388608 + T : Nat) : Int)), M) := by
    rw [t1, t2, t3, if_t (f3_ok y1), if_t (f3_ok z1), of_nI, to_nI (by omega), or_add hE hT]
  rw [E_Tv_bitsOfFloat_42, hfin]
  split
  · rw [f3_one, f3_cmpq (by omega) hT (by omega), if_neg (by
      rw [if_neg (by decide)]
      split <;> decide)]
  · rfl
theorem bf_up (d : Nat) (M : am_M) {T : Nat} (hT : T < 8388608) : ∀ (k i : Nat), i + k ≤ 127 → am_at am_P d j_Tv_bitsOfFloat 15 [am_u, am_f (f3_of (127 + k) T), am_i ((127 + i : Nat) : Int), am_i (i : Int)] [] M = some (some (am_i (((127 + i + k) * 8388608 + T : Nat) : Int)), M)
  | 0, i, h => by
    rw [E_Tv_bitsOfFloat_15]
    have := bf_end d M hT (E := 127 + i) (by omega) 0
    split
    · rw [f3_two, f3_cmpq (by omega) hT (by omega), if_pos (by
        rw [if_pos (by decide)]
        decide), v_eq]
      exact this
    · rw [v_eq]
      exact this
  | k + 1, i, h => by
    have ih := bf_up d M hT k (i + 1) (by omega)
    rw [E_Tv_bitsOfFloat_15, if_pos (by omega)]
    have hh : FP.fdiv (f3_of (127 + (k + 1)) T) FP.fconst2 = f3_of (127 + k) T := f3_half (by omega) hT
    rw [hh, if_neg (by
      rw [f3_two, f3_cmpq (by omega) hT (by omega), if_neg (by omega)]
      split <;> decide), if_t (f3_ok (by omega)), v_eq, v_eq, wr_id (by omega) (by omega), wr_id (by omega) (by omega)]
    rw [show 127 + (i + 1) + k = 127 + i + (k + 1) by omega] at ih
    exact ih
theorem bf_dn (d : Nat) (M : am_M) {T : Nat} (hT : T < 8388608) : ∀ (k i : Nat), i + k ≤ 126 → am_at am_P d j_Tv_bitsOfFloat 42 [am_u, am_f (f3_of (127 - k) T), am_i ((127 - i : Nat) : Int), am_i (i : Int)] [] M = some (some (am_i (((127 - i - k) * 8388608 + T : Nat) : Int)), M)
  | 0, i, h => bf_end d M hT (E := 127 - i) (by omega) i
  | k + 1, i, h => by
    have ih := bf_dn d M hT k (i + 1) (by omega)
    rw [E_Tv_bitsOfFloat_42, if_pos (by omega)]
    have hh : FP.fmul (f3_of (127 - (k + 1)) T) FP.fconst2 = f3_of (127 - k) T := by
      have := f3_dbl (E := 127 - (k + 1)) (T := T) (by omega) hT
      rw [show 127 - (k + 1) + 1 = 127 - k by omega] at this
      exact this
    rw [hh, if_pos (by
      rw [f3_one, f3_cmpq (by omega) hT (by omega), if_pos (by omega)]
      decide), if_t (f3_ok (by omega)), v_eq, v_eq, wr_id (by omega) (by omega), wr_id (by omega) (by omega)]
    rw [show 127 - (i + 1) - k = 127 - i - (k + 1) by omega, show (((127 - (i + 1) : Nat)) : Int) = ((127 - i : Nat) : Int) + -1 by omega] at ih
    exact ih
theorem S_Tv_bitsOfFloat (d : Nat) (M : am_M) {E T : Nat} (hE : 2 ≤ E ∧ E < 254) (hT : T < 8388608) : am_m am_P (d + 1) j_Tv_bitsOfFloat [am_f (f3_of E T)] M = some (some (am_i ((E * 8388608 + T : Nat) : Int)), M) := by
  show am_at am_P d j_Tv_bitsOfFloat 0 [am_f (f3_of E T), am_u, am_u, am_u] [] M = _
  rw [E_Tv_bitsOfFloat_0, f3_cmp0 (by omega) hT, if_pos (by decide), v_eq, v_eq]
  by_cases h : 127 ≤ E
  · obtain ⟨k, rfl⟩ : ∃ k, E = 127 + k := ⟨E - 127, by omega⟩
    exact bf_up d M hT k 0 (by omega)
  · obtain ⟨k, hk⟩ : ∃ k, E + k = 127 := ⟨127 - E, by omega⟩
    have := bf_dn d M hT k 0 (by omega)
    rw [show 127 - 0 - k = E by omega] at this
    rw [E_Tv_bitsOfFloat_15, if_pos (by omega), if_pos (by
      rw [f3_two, f3_cmpq (by omega) hT (by omega), if_pos (by omega)]
      decide), v_eq]
    exact this
theorem S_Fl_bits (d : Nat) (M : am_M) {E T : Nat} (hE : 2 ≤ E ∧ E < 254) (hT : T < 8388608) : am_m am_P (d + 2) j_Fl_floatToIntBits [am_f (f3_of E T)] M = some (some (am_i ((E * 8388608 + T : Nat) : Int)), M) := by
  have h1 : am_m am_P (d + 1) j_Fl_isNaN [am_f (f3_of E T)] M = some (some (am_i 0), M) := by
    show am_at am_P d j_Fl_isNaN 0 [am_f (f3_of E T)] [] M = _
    rw [E_Fl_isNaN_0, f3_cmps (by omega) hT, if_pos (by decide), if_b0]
  show am_at am_P (d + 1) j_Fl_floatToIntBits 0 [am_f (f3_of E T)] [] M = _
  rw [E_Fl_floatToIntBits_0, h1, bI_some, if_pos rfl]
  have : (f3_of E T).toInt32.toInt = ((E * 8388608 + T : Nat) : Int) := to_nI (n := E * 8388608 + T) (by omega)
  rw [this]
/-! doubles -/
theorem or_addL {E T : Nat} (hE : E ≤ 2046) (hT : T < 4503599627370496) : (Int64.ofNat E <<< ((Int32.ofInt 52).toInt64 &&& 63)) ||| Int64.ofInt (T : Int) = (d6_of E T).toInt64 := by
  have e2 : E * 4503599627370496 ||| T = E * 4503599627370496 + T := by
    have h4 := (Nat.two_pow_add_eq_or_of_lt (i := 52) (b := T) (by omega) E).symm
    rw [Nat.mul_comm] at h4
    exact h4
  apply Int64.toBitVec_inj.mp
  apply BitVec.eq_of_toNat_eq
  have es : ((Int32.ofInt 52).toInt64 &&& 63).toBitVec.smod 64 = 52#64 := by decide +kernel
  have e1 : (Int64.ofNat E <<< ((Int32.ofInt 52).toInt64 &&& 63)).toBitVec = BitVec.ofNat 64 E <<< (52#64) := by
    show BitVec.ofNat 64 E <<< (((Int32.ofInt 52).toInt64 &&& 63).toBitVec.smod 64) = _
    rw [es]
  have e3 : (BitVec.ofNat 64 E <<< (52#64)).toNat = E * 4503599627370496 := by
    rw [BitVec.shiftLeft_eq', BitVec.toNat_shiftLeft, BitVec.toNat_ofNat, BitVec.toNat_ofNat, Nat.shiftLeft_eq, show (52 % 2 ^ 64 : Nat) = 52 by decide, Nat.mod_eq_of_lt (show E < 2 ^ 64 by omega)]
    omega
  have e4 : (Int64.ofInt (T : Int)).toBitVec.toNat = T := by
    rw [Int64.ofInt_eq_ofNat]
    show (BitVec.ofNat 64 T).toNat = T
    rw [BitVec.toNat_ofNat]
    omega
  have e5 : (d6_of E T).toInt64.toBitVec.toNat = E * 4503599627370496 + T := by
    show (BitVec.ofNat 64 (E * 4503599627370496 + T)).toNat = _
    rw [BitVec.toNat_ofNat]
    omega
  rw [Int64.toBitVec_or, BitVec.toNat_or, e1, e3, e4, e5, e2]
theorem bd_end (d : Nat) (M : am_M) {T : Nat} (hT : T < 4503599627370496) {E : Nat} (hE : E ≤ 2046) (i : Int) : am_at am_P d j_Tv_bitsOfDouble 55 [am_u, am_u, am_d (d6_of 1023 T), am_u, am_l (Int64.ofNat E), am_u, am_i i] [] M = some (some (am_l (d6_of E T).toInt64), M) := by
  obtain ⟨y, z, y1, z1, t1, t2, t3⟩ := d6_tail hT
  have hfin : am_if (FP.dsub (d6_of 1023 T) FP.dconst1 &&& 0x7fffffffffffffff ≤ 0x7ff0000000000000) (am_if (FP.dmul (FP.dsub (d6_of 1023 T) FP.dconst1) 4841369599423283200 &&& 0x7fffffffffffffff ≤ 0x7ff0000000000000) (some (some (am_l ((Int64.ofNat E <<< ((Int32.ofInt 52).toInt64 &&& 63)) ||| (FP.d2l (FP.dmul (FP.dsub (d6_of 1023 T) FP.dconst1) 4841369599423283200)))), M))) = some (some (am_l (d6_of E T).toInt64), M) := by
    rw [t1, t2, t3, if_t (d6_ok y1), if_t (d6_ok z1), or_addL hE hT]
  rw [E_Tv_bitsOfDouble_55, hfin]
  split
  · rw [d6_one, d6_cmpq (by omega) hT (by omega), if_neg (by
      rw [if_neg (by decide)]
      split <;> decide)]
  · rfl
theorem bd_up (d : Nat) (M : am_M) {T : Nat} (hT : T < 4503599627370496) : ∀ (k i : Nat), i + k ≤ 1023 → am_at am_P d j_Tv_bitsOfDouble 18 [am_u, am_u, am_d (d6_of (1023 + k) T), am_u, am_l (Int64.ofNat (1023 + i)), am_u, am_i (i : Int)] [] M = some (some (am_l (d6_of (1023 + i + k) T).toInt64), M)
  | 0, i, h => by
    rw [E_Tv_bitsOfDouble_18]
    have := bd_end d M hT (E := 1023 + i) (by omega) 0
    split
    · rw [d6_two, d6_cmpq (by omega) hT (by omega), if_pos (by
        rw [if_pos (by decide)]
        decide), v_eq]
      exact this
    · rw [v_eq]
      exact this
  | k + 1, i, h => by
    have ih := bd_up d M hT k (i + 1) (by omega)
    rw [E_Tv_bitsOfDouble_18, if_pos (by omega)]
    have hh : FP.ddiv (d6_of (1023 + (k + 1)) T) 4611686018427387904 = d6_of (1023 + k) T := d6_half (by omega) hT
    rw [hh, if_neg (by
      rw [d6_two, d6_cmpq (by omega) hT (by omega), if_neg (by omega)]
      split <;> decide), if_t (d6_ok (by omega)), v_eq, wr_id (by omega) (by omega)]
    rw [show 1023 + (i + 1) + k = 1023 + i + (k + 1) by omega, show Int64.ofNat (1023 + (i + 1)) = Int64.ofNat (1023 + i) + 1 from Int64.ofNat_add (1023 + i) 1] at ih
    exact ih
theorem bd_dn (d : Nat) (M : am_M) {T : Nat} (hT : T < 4503599627370496) : ∀ (k i : Nat), i + k ≤ 1022 → am_at am_P d j_Tv_bitsOfDouble 55 [am_u, am_u, am_d (d6_of (1023 - k) T), am_u, am_l (Int64.ofNat (1023 - i)), am_u, am_i (i : Int)] [] M = some (some (am_l (d6_of (1023 - i - k) T).toInt64), M)
  | 0, i, h => bd_end d M hT (E := 1023 - i) (by omega) i
  | k + 1, i, h => by
    have ih := bd_dn d M hT k (i + 1) (by omega)
    rw [E_Tv_bitsOfDouble_55, if_pos (by omega)]
    have hh : FP.dmul (d6_of (1023 - (k + 1)) T) 4611686018427387904 = d6_of (1023 - k) T := by
      have := d6_dbl (E := 1023 - (k + 1)) (T := T) (by omega) hT
      rw [show 1023 - (k + 1) + 1 = 1023 - k by omega] at this
      exact this
    have hw : Int64.ofNat (1023 - i) - 1 = Int64.ofNat (1023 - (i + 1)) := by
      rw [show 1023 - i = (1023 - (i + 1)) + 1 by omega, Int64.ofNat_add]
      exact Int64.add_sub_cancel _ _
    rw [hh, if_pos (by
      rw [d6_one, d6_cmpq (by omega) hT (by omega), if_pos (by omega)]
      decide), if_t (d6_ok (by omega)), v_eq, wr_id (by omega) (by omega), hw]
    rw [show 1023 - (i + 1) - k = 1023 - i - (k + 1) by omega] at ih
    exact ih
theorem S_Tv_bitsOfDouble (d : Nat) (M : am_M) {E T : Nat} (hE : 2 ≤ E ∧ E < 2046) (hT : T < 4503599627370496) : am_m am_P (d + 1) j_Tv_bitsOfDouble [am_d (d6_of E T)] M = some (some (am_l (d6_of E T).toInt64), M) := by
  show am_at am_P d j_Tv_bitsOfDouble 0 [am_d (d6_of E T), am_u, am_u, am_u, am_u, am_u, am_u] [] M = _
  rw [E_Tv_bitsOfDouble_0, d6_cmp0 (by omega) hT, if_pos (by decide), v_eq]
  by_cases h : 1023 ≤ E
  · obtain ⟨k, rfl⟩ : ∃ k, E = 1023 + k := ⟨E - 1023, by omega⟩
    exact bd_up d M hT k 0 (by omega)
  · obtain ⟨k, hk⟩ : ∃ k, E + k = 1023 := ⟨1023 - E, by omega⟩
    have := bd_dn d M hT k 0 (by omega)
    rw [show 1023 - 0 - k = E by omega] at this
    rw [E_Tv_bitsOfDouble_18, if_pos (by omega), if_pos (by
      rw [d6_two, d6_cmpq (by omega) hT (by omega), if_pos (by omega)]
      decide), v_eq]
    exact this
theorem S_Du_bits (d : Nat) (M : am_M) {E T : Nat} (hE : 2 ≤ E ∧ E < 2046) (hT : T < 4503599627370496) : am_m am_P (d + 2) j_Du_doubleToLongBits [am_d (d6_of E T)] M = some (some (am_l (d6_of E T).toInt64), M) := by
  have h1 : am_m am_P (d + 1) j_Du_isNaN [am_d (d6_of E T)] M = some (some (am_i 0), M) := by
    show am_at am_P d j_Du_isNaN 0 [am_d (d6_of E T), am_u] [] M = _
    rw [E_Du_isNaN_0, d6_cmps (by omega) hT, if_pos (by decide), if_b0]
  show am_at am_P (d + 1) j_Du_doubleToLongBits 0 [am_d (d6_of E T), am_u] [] M = _
  rw [E_Du_doubleToLongBits_0, h1, bI_some, if_pos rfl]
