/-! FORMAT b64 -/
theorem d6_fmt : (1 ≤ FP.Core.b64.p) ∧ FP.Core.b64.tails = 4503599627370496 ∧ FP.Core.b64.exps = 2048 ∧ FP.Core.b64.qmin = -1074 ∧ FP.Core.b64.qmax = 971 ∧ FP.Core.b64.p = 53 ∧ 2 ^ FP.Core.b64.p = 9007199254740992 := by decide +kernel
theorem d6_dec {n : Nat} (h1 : 4503599627370496 ≤ n) (h2 : n < 9218868437227405312) : FP.Core.decode FP.Core.b64 n = .fin false (4503599627370496 + n % 4503599627370496) (-1074 + ((n / 4503599627370496 : Nat) : Int) - 1) := by
  obtain ⟨-, f1, f2, f3, f4, -⟩ := d6_fmt
  have e1 : n / 4503599627370496 % 2048 = n / 4503599627370496 := by omega
  unfold FP.Core.decode FP.Core.fieldE FP.Core.fieldT FP.Core.fieldS
  rw [f1, f2, f3, e1, if_neg (by omega), if_neg (by omega)]
  have e2 : (n / 4503599627370496 / 2048 % 2 == 1) = false := by
    have : n / 4503599627370496 / 2048 = 0 := by omega
    rw [this]; rfl
  rw [e2]
  congr 1
  omega
theorem d6_dec0 : FP.Core.decode FP.Core.b64 0 = .fin false 0 (-1074) := by decide +kernel
theorem d6_enc {c : Nat} {q : Int} (h1 : 4503599627370496 ≤ c) : FP.Core.encode FP.Core.b64 (.fin false c q) = ((q + 1074).toNat + 1) * 4503599627370496 + (c - 4503599627370496) := by
  obtain ⟨-, f1, f2, f3, f4, -⟩ := d6_fmt
  unfold FP.Core.encode FP.Core.assemble
  dsimp only
  rw [f1, f2, f3, if_neg (by omega)]
  simp only [Bool.toNat_false, Nat.zero_mul, Nat.zero_add]
  congr 3
theorem d6_enc0 (q : Int) : FP.Core.encode FP.Core.b64 (.fin false 0 q) = 0 := by
  obtain ⟨-, f1, f2, f3, f4, -⟩ := d6_fmt
  unfold FP.Core.encode FP.Core.assemble
  dsimp only
  rw [f1, f2, if_pos (by omega)]
  simp only [Bool.toNat_false, Nat.zero_mul, Nat.zero_add]
/-- the bits of a number -/
abbrev d6_of (E T : Nat) : UInt64 := UInt64.ofNat (E * 4503599627370496 + T)
theorem d6_ed {E T : Nat} (hE : 1 ≤ E ∧ E ≤ 2046) (hT : T < 4503599627370496) : FP.Core.decode FP.Core.b64 (d6_of E T).toNat = .fin false (4503599627370496 + T) ((E : Int) - 1075) := by
  have e : (d6_of E T).toNat = E * 4503599627370496 + T := UInt64.toNat_ofNat_of_lt' (by show _ < 18446744073709551616; omega)
  rw [e, d6_dec (by omega) (by omega), show (E * 4503599627370496 + T) % 4503599627370496 = T by omega, show (E * 4503599627370496 + T) / 4503599627370496 = E by omega]
  congr 1
  omega
theorem d6_ee {E T : Nat} (hE : 1 ≤ E) : UInt64.ofNat (FP.Core.encode FP.Core.b64 (.fin false (4503599627370496 + T) ((E : Int) - 1075))) = d6_of E T := by
  rw [d6_enc (by omega), show ((E : Int) - 1075 + 1074).toNat + 1 = E by omega, show 4503599627370496 + T - 4503599627370496 = T by omega]
theorem d6_ok {n : Nat} (h : n ≤ 9218868437227405312) : (UInt64.ofNat n) &&& 0x7fffffffffffffff ≤ (0x7ff0000000000000 : UInt64) := by
  rw [UInt64.le_iff_toNat_le, UInt64.toNat_and]
  have e : (UInt64.ofNat n).toNat = n := UInt64.toNat_ofNat_of_lt' (by show _ < 18446744073709551616; omega)
  rw [e]
  exact Nat.le_trans Nat.and_le_left (by show n ≤ 9218868437227405312; exact h)
theorem d6_half {E T : Nat} (hE : 2 ≤ E ∧ E ≤ 2046) (hT : T < 4503599627370496) : FP.ddiv (d6_of E T) 4611686018427387904 = d6_of (E - 1) T := by
  obtain ⟨f0, f1, f2, f3, f4, f5, f6⟩ := d6_fmt
  show UInt64.ofNat (FP.Core.encode FP.Core.b64 (FP.Core.quotient FP.Core.b64 (FP.Core.decode FP.Core.b64 (d6_of E T).toNat) (FP.Core.decode FP.Core.b64 (4611686018427387904 : UInt64).toNat))) = _
  rw [d6_ed (by omega) hT, show FP.Core.decode FP.Core.b64 (4611686018427387904 : UInt64).toNat = .fin false 4503599627370496 (-51) by decide +kernel]
  unfold FP.Core.quotient
  dsimp only
  rw [if_neg (by omega), show (false != false) = false from rfl, rr_ex FP.Core.b64 false (c := 4503599627370496 + T) (q := ((E - 1 : Nat) : Int) - 1075) (by omega) f0 (by omega) (by omega) (by omega) (by omega) (by
    rw [show ((E : Int) - 1075 - -51 - (((E - 1 : Nat) : Int) - 1075)).toNat = 52 by omega, show (((E - 1 : Nat) : Int) - 1075 - ((E : Int) - 1075 - -51)).toNat = 0 by omega]), d6_ee (by omega)]
theorem d6_dbl {E T : Nat} (hE : 1 ≤ E ∧ E < 2046) (hT : T < 4503599627370496) : FP.dmul (d6_of E T) 4611686018427387904 = d6_of (E + 1) T := by
  obtain ⟨f0, f1, f2, f3, f4, f5, f6⟩ := d6_fmt
  show UInt64.ofNat (FP.Core.encode FP.Core.b64 (FP.Core.round FP.Core.b64 (FP.Core.exactProduct (FP.Core.decode FP.Core.b64 (d6_of E T).toNat) (FP.Core.decode FP.Core.b64 (4611686018427387904 : UInt64).toNat)))) = _
  rw [d6_ed (by omega) hT, show FP.Core.decode FP.Core.b64 (4611686018427387904 : UInt64).toNat = .fin false 4503599627370496 (-51) by decide +kernel]
  show UInt64.ofNat (FP.Core.encode FP.Core.b64 (FP.Core.roundRatio FP.Core.b64 (false != false) ((4503599627370496 + T) * 4503599627370496) 1 ((E : Int) - 1075 + -51))) = _
  rw [show (false != false) = false from rfl, rr_ex FP.Core.b64 false (c := 4503599627370496 + T) (q := ((E + 1 : Nat) : Int) - 1075) (by omega) f0 (by omega) (by omega) (by omega) (by omega) (by
    rw [show ((E : Int) - 1075 + -51 - (((E + 1 : Nat) : Int) - 1075)).toNat = 0 by omega, show (((E + 1 : Nat) : Int) - 1075 - ((E : Int) - 1075 + -51)).toNat = 52 by omega]
    omega), d6_ee (by omega)]
theorem d6_cmpq {E T : Nat} (hE : 1 ≤ E ∧ E ≤ 2046) (hT : T < 4503599627370496) {B : Nat} (hB : 1 ≤ B ∧ B ≤ 2046) : FP.dcmp (d6_of E T) (d6_of B 0) = some (if E < B then .lt else if E = B ∧ T = 0 then .eq else .gt) := by
  show FP.Core.order (FP.Core.decode FP.Core.b64 (d6_of E T).toNat) (FP.Core.decode FP.Core.b64 (d6_of B 0).toNat) = _
  rw [d6_ed hE hT, d6_ed hB (by omega)]
  unfold FP.Core.order
  dsimp only
  unfold FP.Core.signed FP.Core.inUnits
  rw [if_neg (by decide), if_neg (by decide)]
  congr 1
  by_cases h : E < B
  · rw [if_pos h]
    obtain ⟨k, rfl⟩ : ∃ k, B = E + k + 1 := ⟨B - E - 1, by omega⟩
    rw [show ((E : Int) - 1075 - min ((E : Int) - 1075) (((E + k + 1 : Nat) : Int) - 1075)).toNat = 0 by omega, show (((E + k + 1 : Nat) : Int) - 1075 - min ((E : Int) - 1075) (((E + k + 1 : Nat) : Int) - 1075)).toNat = k + 1 by omega, Nat.pow_zero, Nat.mul_one, Nat.pow_succ]
    have : 0 < 2 ^ k := Nat.pow_pos (by decide)
    generalize 2 ^ k = z at this ⊢
    exact Int.compare_eq_lt.mpr (by omega)
  · rw [if_neg h]
    obtain ⟨k, rfl⟩ : ∃ k, E = B + k := ⟨E - B, by omega⟩
    rw [show (((B + k : Nat) : Int) - 1075 - min (((B + k : Nat) : Int) - 1075) ((B : Int) - 1075)).toNat = k by omega, show ((B : Int) - 1075 - min (((B + k : Nat) : Int) - 1075) ((B : Int) - 1075)).toNat = 0 by omega, Nat.pow_zero, Nat.mul_one]
    by_cases h2 : B + k = B ∧ T = 0
    · rw [if_pos h2]
      obtain ⟨h3, rfl⟩ := h2
      have : k = 0 := by omega
      subst this
      rw [Nat.pow_zero]
      exact Int.compare_eq_eq.mpr (by omega)
    · rw [if_neg h2]
      cases k with
      | zero => rw [Nat.pow_zero]; exact Int.compare_eq_gt.mpr (by omega)
      | succ k =>
        rw [Nat.pow_succ]
        have : 0 < 2 ^ k := Nat.pow_pos (by decide)
        have h5 : (4503599627370496 + T) * (2 ^ k * 2) = (4503599627370496 + T) * 2 ^ k * 2 := (Nat.mul_assoc _ _ _).symm
        have h6 : (4503599627370496 + T) * 1 ≤ (4503599627370496 + T) * 2 ^ k := Nat.mul_le_mul_left _ this
        rw [h5]
        generalize (4503599627370496 + T) * 2 ^ k = z at h6 ⊢
        exact Int.compare_eq_gt.mpr (by omega)
theorem d6_cmp0 {E T : Nat} (hE : 1 ≤ E ∧ E ≤ 2046) (hT : T < 4503599627370496) : FP.dcmp (d6_of E T) FP.dconst0 = some .gt := by
  show FP.Core.order (FP.Core.decode FP.Core.b64 (d6_of E T).toNat) (FP.Core.decode FP.Core.b64 0) = _
  rw [d6_ed hE hT, d6_dec0]
  unfold FP.Core.order
  dsimp only
  unfold FP.Core.signed FP.Core.inUnits
  rw [if_neg (by decide), if_neg (by decide), Nat.zero_mul]
  congr 1
  have : 0 < 2 ^ ((E : Int) - 1075 - min ((E : Int) - 1075) (-1074)).toNat := Nat.pow_pos (by decide)
  have h6 : (4503599627370496 + T) * 1 ≤ (4503599627370496 + T) * 2 ^ ((E : Int) - 1075 - min ((E : Int) - 1075) (-1074)).toNat := Nat.mul_le_mul_left _ this
  generalize (4503599627370496 + T) * 2 ^ ((E : Int) - 1075 - min ((E : Int) - 1075) (-1074)).toNat = z at h6 ⊢
  exact Int.compare_eq_gt.mpr (by omega)
theorem d6_cmps {E T : Nat} (hE : 1 ≤ E ∧ E ≤ 2046) (hT : T < 4503599627370496) : FP.dcmp (d6_of E T) (d6_of E T) = some .eq := by
  show FP.Core.order (FP.Core.decode FP.Core.b64 (d6_of E T).toNat) (FP.Core.decode FP.Core.b64 (d6_of E T).toNat) = _
  rw [d6_ed hE hT]
  unfold FP.Core.order
  dsimp only
  congr 1
  exact Int.compare_eq_eq.mpr rfl
/-- what is behind the point of a number from 1 to 2 -/
theorem d6_tail {T : Nat} (hT : T < 4503599627370496) : ∃ (y z : Nat), y ≤ 9218868437227405312 ∧ z ≤ 9218868437227405312 ∧ FP.dsub (d6_of 1023 T) FP.dconst1 = UInt64.ofNat y ∧ FP.dmul (UInt64.ofNat y) 4841369599423283200 = UInt64.ofNat z ∧ FP.d2l (UInt64.ofNat z) = Int64.ofInt (T : Int) := by
  obtain ⟨f0, f1, f2, f3, f4, f5, f6⟩ := d6_fmt
  rcases Nat.eq_zero_or_pos T with rfl | h0
  · exact ⟨0, 0, by decide, by decide, by decide +kernel, by decide +kernel, by decide +kernel⟩
  · have l1 := Nat.log2_self_le (n := T) (by omega)
    have l2 := Nat.lt_log2_self (n := T)
    have l3 : T.log2 < 52 := (Nat.log2_lt (by omega)).mpr (by omega)
    generalize T.log2 = L at l1 l2 l3
    obtain ⟨c, hc⟩ : ∃ c, c = T * 2 ^ (52 - L) := ⟨_, rfl⟩
    have c1 : 4503599627370496 ≤ c := by
      have : 2 ^ L * 2 ^ (52 - L) ≤ T * 2 ^ (52 - L) := Nat.mul_le_mul_right _ l1
      rw [← Nat.pow_add, show L + (52 - L) = 52 by omega] at this
      omega
    have c2 : c < 9007199254740992 := by
      have : T * 2 ^ (52 - L) < 2 ^ (L + 1) * 2 ^ (52 - L) := Nat.mul_lt_mul_of_pos_right l2 (Nat.pow_pos (by decide))
      rw [← Nat.pow_add, show L + 1 + (52 - L) = 53 by omega] at this
      omega
    obtain ⟨T', rfl⟩ : ∃ T', c = 4503599627370496 + T' := ⟨c - 4503599627370496, by omega⟩
    refine ⟨(L + 971) * 4503599627370496 + T', (L + 1023) * 4503599627370496 + T', by omega, by omega, ?_, ?_, ?_⟩
    · show UInt64.ofNat (FP.Core.encode FP.Core.b64 (FP.Core.round FP.Core.b64 (FP.Core.exactSum (FP.Core.decode FP.Core.b64 (d6_of 1023 T).toNat) (FP.Core.negate (FP.Core.decode FP.Core.b64 (FP.dconst1).toNat))))) = _
      rw [d6_ed (by omega) hT, show FP.Core.decode FP.Core.b64 (FP.dconst1).toNat = .fin false 4503599627370496 (-52) by decide +kernel]
      show UInt64.ofNat (FP.Core.encode FP.Core.b64 (FP.Core.roundRatio FP.Core.b64 (FP.Core.sumSign false true (FP.Core.sumUnits false (4503599627370496 + T) (((1023 : Nat) : Int) - 1075) true 4503599627370496 (-52) (min (((1023 : Nat) : Int) - 1075) (-52)))) (FP.Core.sumUnits false (4503599627370496 + T) (((1023 : Nat) : Int) - 1075) true 4503599627370496 (-52) (min (((1023 : Nat) : Int) - 1075) (-52))).natAbs 1 (min (((1023 : Nat) : Int) - 1075) (-52)))) = _
      rw [show min (((1023 : Nat) : Int) - 1075) (-52) = -52 by decide]
      have hv : FP.Core.sumUnits false (4503599627370496 + T) (((1023 : Nat) : Int) - 1075) true 4503599627370496 (-52) (-52) = (T : Int) := by
        unfold FP.Core.sumUnits FP.Core.signed FP.Core.inUnits
        rw [if_neg (by decide), if_pos rfl, show (((1023 : Nat) : Int) - 1075 - -52).toNat = 0 by decide, show ((-52 : Int) - -52).toNat = 0 by decide, Nat.pow_zero]
        omega
      have hs : FP.Core.sumSign false true (T : Int) = false := by
        unfold FP.Core.sumSign
        rw [if_neg (by omega)]
        exact decide_eq_false (by omega)
      rw [hv, hs, Int.natAbs_natCast, rr_ex FP.Core.b64 false (c := 4503599627370496 + T') (q := ((L + 971 : Nat) : Int) - 1075) (by omega) f0 (by omega) (by omega) (by omega) (by omega) (by
        rw [show (-52 - (((L + 971 : Nat) : Int) - 1075)).toNat = 52 - L by omega, show (((L + 971 : Nat) : Int) - 1075 - -52).toNat = 0 by omega, hc, Nat.pow_zero, Nat.mul_one]), d6_ee (by omega)]
    · show UInt64.ofNat (FP.Core.encode FP.Core.b64 (FP.Core.round FP.Core.b64 (FP.Core.exactProduct (FP.Core.decode FP.Core.b64 (d6_of (L + 971) T').toNat) (FP.Core.decode FP.Core.b64 (4841369599423283200 : UInt64).toNat)))) = _
      rw [d6_ed (by omega) (by omega), show FP.Core.decode FP.Core.b64 (4841369599423283200 : UInt64).toNat = .fin false 4503599627370496 0 by decide +kernel]
      show UInt64.ofNat (FP.Core.encode FP.Core.b64 (FP.Core.roundRatio FP.Core.b64 (false != false) ((4503599627370496 + T') * 4503599627370496) 1 (((L + 971 : Nat) : Int) - 1075 + 0))) = _
      rw [show (false != false) = false from rfl, rr_ex FP.Core.b64 false (c := 4503599627370496 + T') (q := ((L + 1023 : Nat) : Int) - 1075) (by omega) f0 (by omega) (by omega) (by omega) (by omega) (by
        rw [show (((L + 971 : Nat) : Int) - 1075 + 0 - (((L + 1023 : Nat) : Int) - 1075)).toNat = 0 by omega, show (((L + 1023 : Nat) : Int) - 1075 - (((L + 971 : Nat) : Int) - 1075 + 0)).toNat = 52 by omega]
        omega), d6_ee (by omega)]
    · show Int64.ofInt (FP.Core.toInt _ _ (FP.Core.decode FP.Core.b64 (d6_of (L + 1023) T').toNat)) = _
      rw [d6_ed (by omega) (by omega)]
      unfold FP.Core.toInt FP.Core.truncate FP.Core.signed
      dsimp only
      rw [if_neg (by decide), show (((L + 1023 : Nat) : Int) - 1075).toNat = 0 by omega, show (-(((L + 1023 : Nat) : Int) - 1075)).toNat = 52 - L by omega, Nat.pow_zero, Nat.mul_one, hc, Nat.mul_div_cancel _ (Nat.pow_pos (by decide))]
      congr 1
      omega
theorem d6_int {n : Nat} (hn : n < 9007199254740992) : FP.Core.fromInt FP.Core.b64 (n : Int) ≤ 9218868437227405312 ∧ FP.Core.decode FP.Core.b64 (UInt64.ofNat (FP.Core.fromInt FP.Core.b64 (n : Int))).toNat = rp FP.Core.b64 n := by
  obtain ⟨f0, f1, f2, f3, f4, f5, f6⟩ := d6_fmt
  rw [int_rp FP.Core.b64 f0 (by rw [f3, f5]; decide) (by rw [f4]; decide) (by omega)]
  obtain ⟨c, q, e1, e2, e3, e4, e5⟩ := rp_sp FP.Core.b64 f0 (by rw [f3, f5]; decide) (n := n) (by omega)
  by_cases h0 : n = 0
  · subst h0
    unfold rp
    rw [if_pos rfl, d6_enc0, f3]
    exact ⟨by decide, d6_dec0⟩
  · obtain ⟨e6, e7, e8⟩ := e5 h0
    rw [f5] at e8
    rw [e1]
    obtain ⟨T', rfl⟩ : ∃ T', c = 4503599627370496 + T' := ⟨c - 4503599627370496, by omega⟩
    obtain ⟨E, hE⟩ : ∃ E : Nat, q = (E : Int) - 1075 := ⟨(q + 1075).toNat, by omega⟩
    subst hE
    have hE1 : 1 ≤ E ∧ E ≤ 2046 := by omega
    rw [d6_ee hE1.1, d6_ed hE1 (by omega), d6_enc (by omega)]
    exact ⟨by omega, rfl⟩
/-- a quotient of whole numbers -/
theorem d6_quo {a d : Nat} (ha : a < 9007199254740992) (hd0 : 0 < d) (hd : d < 9007199254740992) : (a = 0 ∧ FP.ddiv (UInt64.ofNat (FP.Core.fromInt FP.Core.b64 (a : Int))) (UInt64.ofNat (FP.Core.fromInt FP.Core.b64 (d : Int))) = 0) ∨ ∃ E T : Nat, (2 ≤ E ∧ E < 2046) ∧ T < 4503599627370496 ∧ FP.ddiv (UInt64.ofNat (FP.Core.fromInt FP.Core.b64 (a : Int))) (UInt64.ofNat (FP.Core.fromInt FP.Core.b64 (d : Int))) = d6_of E T := by
  obtain ⟨f0, f1, f2, f3, f4, f5, f6⟩ := d6_fmt
  obtain ⟨c, q, e1, e2, e3, e4, e5⟩ := rp_sp FP.Core.b64 f0 (by rw [f3, f5]; decide) (n := a) (by omega)
  obtain ⟨c', q', g1, g2, g3, g4, g5⟩ := rp_sp FP.Core.b64 f0 (by rw [f3, f5]; decide) (n := d) (by omega)
  obtain ⟨g6, g7, g8⟩ := g5 (by omega)
  rw [f5] at g8
  have hX : FP.ddiv (UInt64.ofNat (FP.Core.fromInt FP.Core.b64 (a : Int))) (UInt64.ofNat (FP.Core.fromInt FP.Core.b64 (d : Int))) = UInt64.ofNat (FP.Core.encode FP.Core.b64 (FP.Core.roundRatio FP.Core.b64 false c c' (q - q'))) := by
    show UInt64.ofNat (FP.Core.encode FP.Core.b64 (FP.Core.quotient FP.Core.b64 (FP.Core.decode FP.Core.b64 (UInt64.ofNat (FP.Core.fromInt FP.Core.b64 (a : Int))).toNat) (FP.Core.decode FP.Core.b64 (UInt64.ofNat (FP.Core.fromInt FP.Core.b64 (d : Int))).toNat))) = _
    rw [(d6_int ha).2, (d6_int hd).2, e1, g1]
    unfold FP.Core.quotient
    dsimp only
    rw [if_neg (by omega)]
    rfl
  rw [hX]
  by_cases h0 : a = 0
  · refine Or.inl ⟨h0, ?_⟩
    unfold FP.Core.roundRatio
    rw [if_pos (by rw [e4, h0, Nat.zero_mul]), d6_enc0]
    rfl
  · obtain ⟨e6, e7, e8⟩ := e5 h0
    rw [f5] at e8
    obtain ⟨C, Q, k1, k2, k3, k4, k5⟩ := rr_in FP.Core.b64 false (num := c) (den := c') (e := q - q') f0 e6 (by omega) g6 (by omega) (by omega) (by omega) (by omega)
    rw [f5] at k4 k5
    rw [k1]
    obtain ⟨T', rfl⟩ : ∃ T', C = 4503599627370496 + T' := ⟨C - 4503599627370496, by omega⟩
    obtain ⟨E, hE⟩ : ∃ E : Nat, Q = (E : Int) - 1075 := ⟨(Q + 1075).toNat, by omega⟩
    subst hE
    exact Or.inr ⟨E, T', by omega, by omega, d6_ee (by omega)⟩
