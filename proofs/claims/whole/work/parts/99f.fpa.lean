/-! FORMAT b32 -/
theorem f3_fmt : (1 ≤ FP.Core.b32.p) ∧ FP.Core.b32.tails = 8388608 ∧ FP.Core.b32.exps = 256 ∧ FP.Core.b32.qmin = -149 ∧ FP.Core.b32.qmax = 104 ∧ FP.Core.b32.p = 24 ∧ 2 ^ FP.Core.b32.p = 16777216 := by decide +kernel
theorem f3_dec {n : Nat} (h1 : 8388608 ≤ n) (h2 : n < 2139095040) : FP.Core.decode FP.Core.b32 n = .fin false (8388608 + n % 8388608) (-149 + ((n / 8388608 : Nat) : Int) - 1) := by
  obtain ⟨-, f1, f2, f3, f4, -⟩ := f3_fmt
  have e1 : n / 8388608 % 256 = n / 8388608 := by omega
  unfold FP.Core.decode FP.Core.fieldE FP.Core.fieldT FP.Core.fieldS
  rw [f1, f2, f3, e1, if_neg (by omega), if_neg (by omega)]
  have e2 : (n / 8388608 / 256 % 2 == 1) = false := by
    have : n / 8388608 / 256 = 0 := by omega
    rw [this]; rfl
  rw [e2]
  congr 1
  omega
theorem f3_dec0 : FP.Core.decode FP.Core.b32 0 = .fin false 0 (-149) := by decide +kernel
theorem f3_enc {c : Nat} {q : Int} (h1 : 8388608 ≤ c) : FP.Core.encode FP.Core.b32 (.fin false c q) = ((q + 149).toNat + 1) * 8388608 + (c - 8388608) := by
  obtain ⟨-, f1, f2, f3, f4, -⟩ := f3_fmt
  unfold FP.Core.encode FP.Core.assemble
  dsimp only
  rw [f1, f2, f3, if_neg (by omega)]
  simp only [Bool.toNat_false, Nat.zero_mul, Nat.zero_add]
  congr 3
theorem f3_enc0 (q : Int) : FP.Core.encode FP.Core.b32 (.fin false 0 q) = 0 := by
  obtain ⟨-, f1, f2, f3, f4, -⟩ := f3_fmt
  unfold FP.Core.encode FP.Core.assemble
  dsimp only
  rw [f1, f2, if_pos (by omega)]
  simp only [Bool.toNat_false, Nat.zero_mul, Nat.zero_add]
/-- the bits of a number -/
abbrev f3_of (E T : Nat) : UInt32 := UInt32.ofNat (E * 8388608 + T)
theorem f3_ed {E T : Nat} (hE : 1 ≤ E ∧ E ≤ 254) (hT : T < 8388608) : FP.Core.decode FP.Core.b32 (f3_of E T).toNat = .fin false (8388608 + T) ((E : Int) - 150) := by
  have e : (f3_of E T).toNat = E * 8388608 + T := UInt32.toNat_ofNat_of_lt' (by show _ < 4294967296; omega)
  rw [e, f3_dec (by omega) (by omega), show (E * 8388608 + T) % 8388608 = T by omega, show (E * 8388608 + T) / 8388608 = E by omega]
  congr 1
  omega
theorem f3_ee {E T : Nat} (hE : 1 ≤ E) : UInt32.ofNat (FP.Core.encode FP.Core.b32 (.fin false (8388608 + T) ((E : Int) - 150))) = f3_of E T := by
  rw [f3_enc (by omega), show ((E : Int) - 150 + 149).toNat + 1 = E by omega, show 8388608 + T - 8388608 = T by omega]
theorem f3_ok {n : Nat} (h : n ≤ 2139095040) : (UInt32.ofNat n) &&& 0x7fffffff ≤ (0x7f800000 : UInt32) := by
  rw [UInt32.le_iff_toNat_le, UInt32.toNat_and]
  have e : (UInt32.ofNat n).toNat = n := UInt32.toNat_ofNat_of_lt' (by show _ < 4294967296; omega)
  rw [e]
  exact Nat.le_trans Nat.and_le_left (by show n ≤ 2139095040; exact h)
theorem f3_half {E T : Nat} (hE : 2 ≤ E ∧ E ≤ 254) (hT : T < 8388608) : FP.fdiv (f3_of E T) FP.fconst2 = f3_of (E - 1) T := by
  obtain ⟨f0, f1, f2, f3, f4, f5, f6⟩ := f3_fmt
  show UInt32.ofNat (FP.Core.encode FP.Core.b32 (FP.Core.quotient FP.Core.b32 (FP.Core.decode FP.Core.b32 (f3_of E T).toNat) (FP.Core.decode FP.Core.b32 (FP.fconst2 : UInt32).toNat))) = _
  rw [f3_ed (by omega) hT, show FP.Core.decode FP.Core.b32 (FP.fconst2 : UInt32).toNat = .fin false 8388608 (-22) by decide +kernel]
  unfold FP.Core.quotient
  dsimp only
  rw [if_neg (by omega), show (false != false) = false from rfl, rr_ex FP.Core.b32 false (c := 8388608 + T) (q := ((E - 1 : Nat) : Int) - 150) (by omega) f0 (by omega) (by omega) (by omega) (by omega) (by
    rw [show ((E : Int) - 150 - -22 - (((E - 1 : Nat) : Int) - 150)).toNat = 23 by omega, show (((E - 1 : Nat) : Int) - 150 - ((E : Int) - 150 - -22)).toNat = 0 by omega]), f3_ee (by omega)]
theorem f3_dbl {E T : Nat} (hE : 1 ≤ E ∧ E < 254) (hT : T < 8388608) : FP.fmul (f3_of E T) FP.fconst2 = f3_of (E + 1) T := by
  obtain ⟨f0, f1, f2, f3, f4, f5, f6⟩ := f3_fmt
  show UInt32.ofNat (FP.Core.encode FP.Core.b32 (FP.Core.round FP.Core.b32 (FP.Core.exactProduct (FP.Core.decode FP.Core.b32 (f3_of E T).toNat) (FP.Core.decode FP.Core.b32 (FP.fconst2 : UInt32).toNat)))) = _
  rw [f3_ed (by omega) hT, show FP.Core.decode FP.Core.b32 (FP.fconst2 : UInt32).toNat = .fin false 8388608 (-22) by decide +kernel]
  show UInt32.ofNat (FP.Core.encode FP.Core.b32 (FP.Core.roundRatio FP.Core.b32 (false != false) ((8388608 + T) * 8388608) 1 ((E : Int) - 150 + -22))) = _
  rw [show (false != false) = false from rfl, rr_ex FP.Core.b32 false (c := 8388608 + T) (q := ((E + 1 : Nat) : Int) - 150) (by omega) f0 (by omega) (by omega) (by omega) (by omega) (by
    rw [show ((E : Int) - 150 + -22 - (((E + 1 : Nat) : Int) - 150)).toNat = 0 by omega, show (((E + 1 : Nat) : Int) - 150 - ((E : Int) - 150 + -22)).toNat = 23 by omega]
    omega), f3_ee (by omega)]
theorem f3_cmpq {E T : Nat} (hE : 1 ≤ E ∧ E ≤ 254) (hT : T < 8388608) {B : Nat} (hB : 1 ≤ B ∧ B ≤ 254) : FP.fcmp (f3_of E T) (f3_of B 0) = some (if E < B then .lt else if E = B ∧ T = 0 then .eq else .gt) := by
  show FP.Core.order (FP.Core.decode FP.Core.b32 (f3_of E T).toNat) (FP.Core.decode FP.Core.b32 (f3_of B 0).toNat) = _
  rw [f3_ed hE hT, f3_ed hB (by omega)]
  unfold FP.Core.order
  dsimp only
  unfold FP.Core.signed FP.Core.inUnits
  rw [if_neg (by decide), if_neg (by decide)]
  congr 1
  by_cases h : E < B
  · rw [if_pos h]
    obtain ⟨k, rfl⟩ : ∃ k, B = E + k + 1 := ⟨B - E - 1, by omega⟩
    rw [show ((E : Int) - 150 - min ((E : Int) - 150) (((E + k + 1 : Nat) : Int) - 150)).toNat = 0 by omega, show (((E + k + 1 : Nat) : Int) - 150 - min ((E : Int) - 150) (((E + k + 1 : Nat) : Int) - 150)).toNat = k + 1 by omega, Nat.pow_zero, Nat.mul_one, Nat.pow_succ]
    have : 0 < 2 ^ k := Nat.pow_pos (by decide)
    generalize 2 ^ k = z at this ⊢
    exact Int.compare_eq_lt.mpr (by omega)
  · rw [if_neg h]
    obtain ⟨k, rfl⟩ : ∃ k, E = B + k := ⟨E - B, by omega⟩
    rw [show (((B + k : Nat) : Int) - 150 - min (((B + k : Nat) : Int) - 150) ((B : Int) - 150)).toNat = k by omega, show ((B : Int) - 150 - min (((B + k : Nat) : Int) - 150) ((B : Int) - 150)).toNat = 0 by omega, Nat.pow_zero, Nat.mul_one]
    by_cases h2 : B + k = B ∧ T = 0
    · rw [if_pos h2]
      obtain ⟨h3, rfl⟩ := h2
      have : k = 0 := by omega
      subst this
      rw [Nat.pow_zero]
      exact Int.compare_eq_eq.mpr (by omega)
    · rw [if_neg h2]
      cases k with
      | zero => rw [Nat.pow_zero]; exact Int.compare_eq_gt.mpr (by omega)
      | succ k =>
        rw [Nat.pow_succ]
        have : 0 < 2 ^ k := Nat.pow_pos (by decide)
        have h5 : (8388608 + T) * (2 ^ k * 2) = (8388608 + T) * 2 ^ k * 2 := (Nat.mul_assoc _ _ _).symm
        have h6 : (8388608 + T) * 1 ≤ (8388608 + T) * 2 ^ k := Nat.mul_le_mul_left _ this
        rw [h5]
        generalize (8388608 + T) * 2 ^ k = z at h6 ⊢
        exact Int.compare_eq_gt.mpr (by omega)
theorem f3_cmp0 {E T : Nat} (hE : 1 ≤ E ∧ E ≤ 254) (hT : T < 8388608) : FP.fcmp (f3_of E T) FP.fconst0 = some .gt := by
  show FP.Core.order (FP.Core.decode FP.Core.b32 (f3_of E T).toNat) (FP.Core.decode FP.Core.b32 0) = _
  rw [f3_ed hE hT, f3_dec0]
  unfold FP.Core.order
  dsimp only
  unfold FP.Core.signed FP.Core.inUnits
  rw [if_neg (by decide), if_neg (by decide), Nat.zero_mul]
  congr 1
  have : 0 < 2 ^ ((E : Int) - 150 - min ((E : Int) - 150) (-149)).toNat := Nat.pow_pos (by decide)
  have h6 : (8388608 + T) * 1 ≤ (8388608 + T) * 2 ^ ((E : Int) - 150 - min ((E : Int) - 150) (-149)).toNat := Nat.mul_le_mul_left _ this
  generalize (8388608 + T) * 2 ^ ((E : Int) - 150 - min ((E : Int) - 150) (-149)).toNat = z at h6 ⊢
  exact Int.compare_eq_gt.mpr (by omega)
theorem f3_cmps {E T : Nat} (hE : 1 ≤ E ∧ E ≤ 254) (hT : T < 8388608) : FP.fcmp (f3_of E T) (f3_of E T) = some .eq := by
  show FP.Core.order (FP.Core.decode FP.Core.b32 (f3_of E T).toNat) (FP.Core.decode FP.Core.b32 (f3_of E T).toNat) = _
  rw [f3_ed hE hT]
  unfold FP.Core.order
  dsimp only
  congr 1
  exact Int.compare_eq_eq.mpr rfl
/-- what is behind the point of a number from 1 to 2 -/
theorem f3_tail {T : Nat} (hT : T < 8388608) : ∃ (y z : Nat), y ≤ 2139095040 ∧ z ≤ 2139095040 ∧ FP.fsub (f3_of 127 T) FP.fconst1 = UInt32.ofNat y ∧ FP.fmul (UInt32.ofNat y) 1258291200 = UInt32.ofNat z ∧ FP.f2i (UInt32.ofNat z) = Int32.ofInt (T : Int) := by
  obtain ⟨f0, f1, f2, f3, f4, f5, f6⟩ := f3_fmt
  rcases Nat.eq_zero_or_pos T with rfl | h0
  · exact ⟨0, 0, by decide, by decide, by decide +kernel, by decide +kernel, by decide +kernel⟩
  · have l1 := Nat.log2_self_le (n := T) (by omega)
    have l2 := Nat.lt_log2_self (n := T)
    have l3 : T.log2 < 23 := (Nat.log2_lt (by omega)).mpr (by omega)
    generalize T.log2 = L at l1 l2 l3
    obtain ⟨c, hc⟩ : ∃ c, c = T * 2 ^ (23 - L) := ⟨_, rfl⟩
    have c1 : 8388608 ≤ c := by
      have : 2 ^ L * 2 ^ (23 - L) ≤ T * 2 ^ (23 - L) := Nat.mul_le_mul_right _ l1
      rw [← Nat.pow_add, show L + (23 - L) = 23 by omega] at this
      omega
    have c2 : c < 16777216 := by
      have : T * 2 ^ (23 - L) < 2 ^ (L + 1) * 2 ^ (23 - L) := Nat.mul_lt_mul_of_pos_right l2 (Nat.pow_pos (by decide))
      rw [← Nat.pow_add, show L + 1 + (23 - L) = 24 by omega] at this
      omega
    obtain ⟨T', rfl⟩ : ∃ T', c = 8388608 + T' := ⟨c - 8388608, by omega⟩
    refine ⟨(L + 104) * 8388608 + T', (L + 127) * 8388608 + T', by omega, by omega, ?_, ?_, ?_⟩
    · show UInt32.ofNat (FP.Core.encode FP.Core.b32 (FP.Core.round FP.Core.b32 (FP.Core.exactSum (FP.Core.decode FP.Core.b32 (f3_of 127 T).toNat) (FP.Core.negate (FP.Core.decode FP.Core.b32 (FP.fconst1).toNat))))) = _
      rw [f3_ed (by omega) hT, show FP.Core.decode FP.Core.b32 (FP.fconst1).toNat = .fin false 8388608 (-23) by decide +kernel]
      show UInt32.ofNat (FP.Core.encode FP.Core.b32 (FP.Core.roundRatio FP.Core.b32 (FP.Core.sumSign false true (FP.Core.sumUnits false (8388608 + T) (((127 : Nat) : Int) - 150) true 8388608 (-23) (min (((127 : Nat) : Int) - 150) (-23)))) (FP.Core.sumUnits false (8388608 + T) (((127 : Nat) : Int) - 150) true 8388608 (-23) (min (((127 : Nat) : Int) - 150) (-23))).natAbs 1 (min (((127 : Nat) : Int) - 150) (-23)))) = _
      rw [show min (((127 : Nat) : Int) - 150) (-23) = -23 by decide]
      have hv : FP.Core.sumUnits false (8388608 + T) (((127 : Nat) : Int) - 150) true 8388608 (-23) (-23) = (T : Int) := by
        unfold FP.Core.sumUnits FP.Core.signed FP.Core.inUnits
        rw [if_neg (by decide), if_pos rfl, show (((127 : Nat) : Int) - 150 - -23).toNat = 0 by decide, show ((-23 : Int) - -23).toNat = 0 by decide, Nat.pow_zero]
        omega
      have hs : FP.Core.sumSign false true (T : Int) = false := by
        unfold FP.Core.sumSign
        rw [if_neg (by omega)]
        exact decide_eq_false (by omega)
      rw [hv, hs, Int.natAbs_natCast, rr_ex FP.Core.b32 false (c := 8388608 + T') (q := ((L + 104 : Nat) : Int) - 150) (by omega) f0 (by omega) (by omega) (by omega) (by omega) (by
        rw [show (-23 - (((L + 104 : Nat) : Int) - 150)).toNat = 23 - L by omega, show (((L + 104 : Nat) : Int) - 150 - -23).toNat = 0 by omega, hc, Nat.pow_zero, Nat.mul_one]), f3_ee (by omega)]
    · show UInt32.ofNat (FP.Core.encode FP.Core.b32 (FP.Core.round FP.Core.b32 (FP.Core.exactProduct (FP.Core.decode FP.Core.b32 (f3_of (L + 104) T').toNat) (FP.Core.decode FP.Core.b32 (1258291200 : UInt32).toNat)))) = _
      rw [f3_ed (by omega) (by omega), show FP.Core.decode FP.Core.b32 (1258291200 : UInt32).toNat = .fin false 8388608 0 by decide +kernel]
      show UInt32.ofNat (FP.Core.encode FP.Core.b32 (FP.Core.roundRatio FP.Core.b32 (false != false) ((8388608 + T') * 8388608) 1 (((L + 104 : Nat) : Int) - 150 + 0))) = _
      rw [show (false != false) = false from rfl, rr_ex FP.Core.b32 false (c := 8388608 + T') (q := ((L + 127 : Nat) : Int) - 150) (by omega) f0 (by omega) (by omega) (by omega) (by omega) (by
        rw [show (((L + 104 : Nat) : Int) - 150 + 0 - (((L + 127 : Nat) : Int) - 150)).toNat = 0 by omega, show (((L + 127 : Nat) : Int) - 150 - (((L + 104 : Nat) : Int) - 150 + 0)).toNat = 23 by omega]
        omega), f3_ee (by omega)]
    · show Int32.ofInt (FP.Core.toInt _ _ (FP.Core.decode FP.Core.b32 (f3_of (L + 127) T').toNat)) = _
      rw [f3_ed (by omega) (by omega)]
      unfold FP.Core.toInt FP.Core.truncate FP.Core.signed
      dsimp only
      rw [if_neg (by decide), show (((L + 127 : Nat) : Int) - 150).toNat = 0 by omega, show (-(((L + 127 : Nat) : Int) - 150)).toNat = 23 - L by omega, Nat.pow_zero, Nat.mul_one, hc, Nat.mul_div_cancel _ (Nat.pow_pos (by decide))]
      congr 1
      omega
theorem f3_int {n : Nat} (hn : n < 16777216) : FP.Core.fromInt FP.Core.b32 (n : Int) ≤ 2139095040 ∧ FP.Core.decode FP.Core.b32 (UInt32.ofNat (FP.Core.fromInt FP.Core.b32 (n : Int))).toNat = rp FP.Core.b32 n := by
  obtain ⟨f0, f1, f2, f3, f4, f5, f6⟩ := f3_fmt
  rw [int_rp FP.Core.b32 f0 (by rw [f3, f5]; decide) (by rw [f4]; decide) (by omega)]
  obtain ⟨c, q, e1, e2, e3, e4, e5⟩ := rp_sp FP.Core.b32 f0 (by rw [f3, f5]; decide) (n := n) (by omega)
  by_cases h0 : n = 0
  · subst h0
    unfold rp
    rw [if_pos rfl, f3_enc0, f3]
    exact ⟨by decide, f3_dec0⟩
  · obtain ⟨e6, e7, e8⟩ := e5 h0
    rw [f5] at e8
    rw [e1]
    obtain ⟨T', rfl⟩ : ∃ T', c = 8388608 + T' := ⟨c - 8388608, by omega⟩
    obtain ⟨E, hE⟩ : ∃ E : Nat, q = (E : Int) - 150 := ⟨(q + 150).toNat, by omega⟩
    subst hE
    have hE1 : 1 ≤ E ∧ E ≤ 254 := by omega
    rw [f3_ee hE1.1, f3_ed hE1 (by omega), f3_enc (by omega)]
    exact ⟨by omega, rfl⟩
/-- a quotient of whole numbers -/
theorem f3_quo {a d : Nat} (ha : a < 16777216) (hd0 : 0 < d) (hd : d < 16777216) : (a = 0 ∧ FP.fdiv (UInt32.ofNat (FP.Core.fromInt FP.Core.b32 (a : Int))) (UInt32.ofNat (FP.Core.fromInt FP.Core.b32 (d : Int))) = 0) ∨ ∃ E T : Nat, (2 ≤ E ∧ E < 254) ∧ T < 8388608 ∧ FP.fdiv (UInt32.ofNat (FP.Core.fromInt FP.Core.b32 (a : Int))) (UInt32.ofNat (FP.Core.fromInt FP.Core.b32 (d : Int))) = f3_of E T := by
  obtain ⟨f0, f1, f2, f3, f4, f5, f6⟩ := f3_fmt
  obtain ⟨c, q, e1, e2, e3, e4, e5⟩ := rp_sp FP.Core.b32 f0 (by rw [f3, f5]; decide) (n := a) (by omega)
  obtain ⟨c', q', g1, g2, g3, g4, g5⟩ := rp_sp FP.Core.b32 f0 (by rw [f3, f5]; decide) (n := d) (by omega)
  obtain ⟨g6, g7, g8⟩ := g5 (by omega)
  rw [f5] at g8
  have hX : FP.fdiv (UInt32.ofNat (FP.Core.fromInt FP.Core.b32 (a : Int))) (UInt32.ofNat (FP.Core.fromInt FP.Core.b32 (d : Int))) = UInt32.ofNat (FP.Core.encode FP.Core.b32 (FP.Core.roundRatio FP.Core.b32 false c c' (q - q'))) := by
    show UInt32.ofNat (FP.Core.encode FP.Core.b32 (FP.Core.quotient FP.Core.b32 (FP.Core.decode FP.Core.b32 (UInt32.ofNat (FP.Core.fromInt FP.Core.b32 (a : Int))).toNat) (FP.Core.decode FP.Core.b32 (UInt32.ofNat (FP.Core.fromInt FP.Core.b32 (d : Int))).toNat))) = _
    rw [(f3_int ha).2, (f3_int hd).2, e1, g1]
    unfold FP.Core.quotient
    dsimp only
    rw [if_neg (by omega)]
    rfl
  rw [hX]
  by_cases h0 : a = 0
  · refine Or.inl ⟨h0, ?_⟩
    unfold FP.Core.roundRatio
    rw [if_pos (by rw [e4, h0, Nat.zero_mul]), f3_enc0]
    rfl
  · obtain ⟨e6, e7, e8⟩ := e5 h0
    rw [f5] at e8
    obtain ⟨C, Q, k1, k2, k3, k4, k5⟩ := rr_in FP.Core.b32 false (num := c) (den := c') (e := q - q') f0 e6 (by omega) g6 (by omega) (by omega) (by omega) (by omega)
    rw [f5] at k4 k5
    rw [k1]
    obtain ⟨T', rfl⟩ : ∃ T', C = 8388608 + T' := ⟨C - 8388608, by omega⟩
    obtain ⟨E, hE⟩ : ∃ E : Nat, Q = (E : Int) - 150 := ⟨(Q + 150).toNat, by omega⟩
    subst hE
    exact Or.inr ⟨E, T', by omega, by omega, f3_ee (by omega)⟩
