/-! FLOATS AND DOUBLES, in any format: the leading digit, exact results -/
abbrev fpF : Type := FP.Core.Fmt
abbrev fpD : Type := FP.Core.Datum
/-- 2 ^ K is no more than num / den -/
def fpL (num den : Nat) (K : Int) : Prop := den * 2 ^ K.toNat ≤ num * 2 ^ (-K).toNat
theorem fpL_dn {num den : Nat} {K : Int} (h : fpL num den (K + 1)) : fpL num den K := by
  unfold fpL at h ⊢
  by_cases hK : 0 ≤ K
  · obtain ⟨k, rfl⟩ := Int.eq_ofNat_of_zero_le hK
    rw [show ((k : Int) + 1).toNat = k + 1 by omega, show (-((k : Int) + 1)).toNat = 0 by omega] at h
    rw [show ((k : Int)).toNat = k by omega, show (-(k : Int)).toNat = 0 by omega]
    exact Nat.le_trans (Nat.mul_le_mul_left den (Nat.pow_le_pow_right (by decide) (by omega))) h
  · obtain ⟨j, rfl⟩ : ∃ j : Nat, K = -((j : Int) + 1) := ⟨(-K - 1).toNat, by omega⟩
    rw [show (-((j : Int) + 1) + 1).toNat = 0 by omega, show (-(-((j : Int) + 1) + 1)).toNat = j by omega] at h
    rw [show (-((j : Int) + 1)).toNat = 0 by omega, show (- -((j : Int) + 1)).toNat = j + 1 by omega]
    exact Nat.le_trans h (Nat.mul_le_mul_left num (Nat.pow_le_pow_right (by decide) (by omega)))
theorem fpL_le {num den : Nat} : ∀ (n : Nat) {K K' : Int}, K' = K + n → fpL num den K' → fpL num den K
  | 0, K, K', e, h => by
    have : K' = K := by omega
    rw [← this]; exact h
  | n + 1, K, K', e, h => fpL_dn (fpL_le n (K := K + 1) (by omega) h)
theorem fpL_mono {num den : Nat} {K K' : Int} (hK : K ≤ K') (h : fpL num den K') : fpL num den K := fpL_le (K' - K).toNat (by omega) h
theorem ld_spec {num den : Nat} (hn : 0 < num) (hd : 0 < den) : fpL num den (FP.Core.leading num den) ∧ ¬ fpL num den (FP.Core.leading num den + 1) := by
  have n1 := Nat.log2_self_le (n := num) (by omega)
  have n2 := Nat.lt_log2_self (n := num)
  have d1 := Nat.log2_self_le (n := den) (by omega)
  have d2 := Nat.lt_log2_self (n := den)
  unfold FP.Core.leading
  generalize num.log2 = ln at n1 n2 ⊢
  generalize den.log2 = ld at d1 d2 ⊢
  dsimp only
  by_cases h : den * 2 ^ ((ln : Int) - (ld : Int)).toNat ≤ num * 2 ^ (-((ln : Int) - (ld : Int))).toNat
  · rw [if_pos h]
    refine ⟨h, fun q => ?_⟩
    unfold fpL at q
    by_cases hk : ld ≤ ln
    · obtain ⟨k, rfl⟩ : ∃ k, ln = ld + k := ⟨ln - ld, by omega⟩
      rw [show (((ld + k : Nat) : Int) - (ld : Int) + 1).toNat = k + 1 by omega, show (-(((ld + k : Nat) : Int) - (ld : Int) + 1)).toNat = 0 by omega] at q
      have h1 : 2 ^ ld * 2 ^ (k + 1) ≤ den * 2 ^ (k + 1) := Nat.mul_le_mul_right _ d1
      rw [← Nat.pow_add] at h1
      rw [show ld + (k + 1) = ld + k + 1 by omega] at h1
      omega
    · obtain ⟨j, rfl⟩ : ∃ j, ld = ln + j + 1 := ⟨ld - ln - 1, by omega⟩
      rw [show ((ln : Int) - ((ln + j + 1 : Nat) : Int) + 1).toNat = 0 by omega, show (-((ln : Int) - ((ln + j + 1 : Nat) : Int) + 1)).toNat = j by omega] at q
      have h1 : num * 2 ^ j < 2 ^ (ln + 1) * 2 ^ j := Nat.mul_lt_mul_of_pos_right n2 (Nat.pow_pos (by decide))
      rw [← Nat.pow_add, show ln + 1 + j = ln + j + 1 by omega] at h1
      omega
  · rw [if_neg h]
    refine ⟨?_, fun q => h ?_⟩
    · unfold fpL
      by_cases hk : ld < ln
      · obtain ⟨i, rfl⟩ : ∃ i, ln = ld + i + 1 := ⟨ln - ld - 1, by omega⟩
        rw [show (((ld + i + 1 : Nat) : Int) - (ld : Int) - 1).toNat = i by omega, show (-(((ld + i + 1 : Nat) : Int) - (ld : Int) - 1)).toNat = 0 by omega]
        have h1 : den * 2 ^ i < 2 ^ (ld + 1) * 2 ^ i := Nat.mul_lt_mul_of_pos_right d2 (Nat.pow_pos (by decide))
        rw [← Nat.pow_add, show ld + 1 + i = ld + i + 1 by omega] at h1
        omega
      · obtain ⟨j, rfl⟩ : ∃ j, ld = ln + j := ⟨ld - ln, by omega⟩
        rw [show ((ln : Int) - ((ln + j : Nat) : Int) - 1).toNat = 0 by omega, show (-((ln : Int) - ((ln + j : Nat) : Int) - 1)).toNat = j + 1 by omega]
        have h1 : 2 ^ ln * 2 ^ (j + 1) ≤ num * 2 ^ (j + 1) := Nat.mul_le_mul_right _ n1
        rw [← Nat.pow_add, show ln + (j + 1) = ln + j + 1 by omega] at h1
        omega
    · rw [show (ln : Int) - (ld : Int) - 1 + 1 = (ln : Int) - (ld : Int) by omega] at q
      exact q
theorem ld_eq {num den : Nat} {K : Int} (hn : 0 < num) (hd : 0 < den) (h1 : fpL num den K) (h2 : ¬ fpL num den (K + 1)) : FP.Core.leading num den = K := by
  obtain ⟨g1, g2⟩ := ld_spec hn hd
  rcases (show FP.Core.leading num den < K ∨ FP.Core.leading num den = K ∨ K < FP.Core.leading num den by omega) with h | h | h
  · exact absurd (fpL_mono (by omega) h1) g2
  · exact h
  · exact absurd (fpL_mono (by omega) g1) h2
theorem fpL_units {num den m : Nat} {y : Int} : fpL num den (y + m) ↔ 2 ^ m * (den * 2 ^ y.toNat) ≤ num * 2 ^ (-y).toNat := by
  unfold fpL
  by_cases hy : 0 ≤ y
  · obtain ⟨a, rfl⟩ := Int.eq_ofNat_of_zero_le hy
    rw [show ((a : Int) + (m : Int)).toNat = a + m by omega, show (-((a : Int) + (m : Int))).toNat = 0 by omega, show ((a : Int)).toNat = a by omega, show (-(a : Int)).toNat = 0 by omega, Nat.pow_add, Nat.mul_comm (2 ^ m), Nat.mul_assoc]
  · obtain ⟨j, rfl⟩ : ∃ j : Nat, y = -(j : Int) := ⟨(-y).toNat, by omega⟩
    rw [show (-(j : Int)).toNat = 0 by omega, show (- -(j : Int)).toNat = j by omega]
    by_cases hm : j ≤ m
    · obtain ⟨i, rfl⟩ : ∃ i, m = j + i := ⟨m - j, by omega⟩
      rw [show (-(j : Int) + ((j + i : Nat) : Int)).toNat = i by omega, show (-(-(j : Int) + ((j + i : Nat) : Int))).toNat = 0 by omega, Nat.pow_zero, Nat.mul_one, Nat.mul_one, Nat.pow_add, ← Nat.mul_le_mul_right_iff (k := 2 ^ j) (Nat.pow_pos (by decide))]
      rw [show den * 2 ^ i * 2 ^ j = 2 ^ j * 2 ^ i * den by rw [Nat.mul_comm, Nat.mul_comm den, ← Nat.mul_assoc]]
    · obtain ⟨i, rfl⟩ : ∃ i, j = m + i := ⟨j - m, by omega⟩
      rw [show (-((m + i : Nat) : Int) + (m : Int)).toNat = 0 by omega, show (-(-((m + i : Nat) : Int) + (m : Int))).toNat = i by omega, Nat.pow_zero, Nat.mul_one, ← Nat.mul_le_mul_right_iff (k := 2 ^ m) (Nat.pow_pos (by decide)), Nat.mul_comm den, Nat.mul_assoc, ← Nat.pow_add, Nat.add_comm i m]
/-- an exact result is not changed by rounding -/
theorem rr_ex (f : fpF) (s : Bool) {num den c : Nat} {e q : Int} (hden : 0 < den) (hp : 1 ≤ f.p) (hc1 : f.tails ≤ c) (hc2 : c < 2 ^ f.p) (hq1 : f.qmin ≤ q) (hq2 : q ≤ f.qmax) (h : num * 2 ^ (e - q).toNat = c * (den * 2 ^ (q - e).toNat)) : FP.Core.roundRatio f s num den e = .fin s c q := by
  have ht : 0 < f.tails := Nat.pow_pos (by decide)
  have hD : 0 < den * 2 ^ (q - e).toNat := Nat.mul_pos hden (Nat.pow_pos (by decide))
  have hn : 0 < num := by
    rcases Nat.eq_zero_or_pos num with e0 | e0
    · rw [e0, Nat.zero_mul] at h
      have := Nat.mul_pos (show 0 < c by omega) hD
      omega
    · exact e0
  have ey : (-(q - e)).toNat = (e - q).toNat := by congr 1; omega
  have hK : FP.Core.leading num den = q - e + ((f.p - 1 : Nat) : Int) := by
    refine ld_eq hn hden (fpL_units.mpr ?_) ?_
    · rw [ey, h]
      exact Nat.mul_le_mul_right _ hc1
    · rw [show q - e + ((f.p - 1 : Nat) : Int) + 1 = q - e + ((f.p : Nat) : Int) by omega, fpL_units, ey, h, Nat.mul_le_mul_right_iff hD]
      omega
  have hqt : FP.Core.quantum f num den e = q := by
    unfold FP.Core.quantum
    rw [hK]
    omega
  unfold FP.Core.roundRatio
  rw [if_neg (by omega), hqt]
  unfold FP.Core.roundAt FP.Core.unitsNum FP.Core.unitsDen
  rw [h]
  have hnr : FP.Core.nearest (c * (den * 2 ^ (q - e).toNat)) (den * 2 ^ (q - e).toNat) = c := by
    unfold FP.Core.nearest
    rw [Nat.mul_mod_left, if_pos (by omega), Nat.mul_div_cancel _ hD]
  rw [hnr]
  unfold FP.Core.settle FP.Core.bound
  rw [if_pos hc2, if_pos hq2]
/-- a quotient of two numbers alike in size is a number of the format -/
theorem rr_in (f : fpF) (s : Bool) {num den : Nat} {e : Int} (hp : 1 ≤ f.p) (hn1 : f.tails ≤ num) (hn2 : num < 2 * f.tails) (hd1 : f.tails ≤ den) (hd2 : den < 2 * f.tails) (h2 : 2 ^ f.p = 2 * f.tails) (hq1 : f.qmin ≤ e - f.p) (hq2 : e - f.p + 2 ≤ f.qmax) : ∃ (c : Nat) (q : Int), FP.Core.roundRatio f s num den e = .fin s c q ∧ f.tails ≤ c ∧ c < 2 ^ f.p ∧ e - f.p ≤ q ∧ q ≤ e - f.p + 2 := by
  have ht : 0 < f.tails := Nat.pow_pos (by decide)
  have hn : 0 < num := by omega
  have hd : 0 < den := by omega
  obtain ⟨g1, g2⟩ := ld_spec hn hd
  have hK1 : FP.Core.leading num den ≤ 0 := by
    apply Classical.byContradiction
    intro hc
    have := fpL_mono (K := 1) (by omega) g1
    unfold fpL at this
    rw [show ((1 : Int)).toNat = 1 from rfl, show (-(1 : Int)).toNat = 0 from rfl] at this
    omega
  have hK2 : -1 ≤ FP.Core.leading num den := by
    apply Classical.byContradiction
    intro hc
    refine g2 (fpL_mono (K' := -1) (by omega) ?_)
    unfold fpL
    rw [show (-(1 : Int)).toNat = 0 from rfl, show (- -(1 : Int)).toNat = 1 from rfl]
    omega
  unfold FP.Core.roundRatio
  rw [if_neg (by omega)]
  have hqt : FP.Core.quantum f num den e = FP.Core.leading num den + e - ((f.p : Int) - 1) := by
    unfold FP.Core.quantum
    omega
  rw [hqt]
  generalize FP.Core.leading num den = K at g1 g2 hK1 hK2 ⊢
  obtain ⟨q, hq⟩ : ∃ q, q = K + e - ((f.p : Int) - 1) := ⟨_, rfl⟩
  rw [← hq]
  have ey : (-(q - e)).toNat = (e - q).toNat := by congr 1; omega
  rw [show K = q - e + ((f.p - 1 : Nat) : Int) by omega, fpL_units, ey] at g1
  rw [show K + 1 = q - e + ((f.p : Nat) : Int) by omega, fpL_units, ey] at g2
  unfold FP.Core.roundAt FP.Core.unitsNum FP.Core.unitsDen
  have hD : 0 < den * 2 ^ (q - e).toNat := Nat.mul_pos hd (Nat.pow_pos (by decide))
  generalize num * 2 ^ (e - q).toNat = U at g1 g2 ⊢
  generalize den * 2 ^ (q - e).toNat = D at g1 g2 hD ⊢
  have b1 : f.tails ≤ U / D := (Nat.le_div_iff_mul_le hD).mpr g1
  have b2' : U / D < 2 ^ f.p := (Nat.div_lt_iff_lt_mul hD).mpr (by omega)
  have hnr : U / D ≤ FP.Core.nearest U D ∧ FP.Core.nearest U D ≤ U / D + 1 := by
    unfold FP.Core.nearest
    repeat' split
    all_goals omega
  generalize FP.Core.nearest U D = c at hnr ⊢
  unfold FP.Core.settle FP.Core.bound
  by_cases hc : c < 2 ^ f.p
  · rw [if_pos hc, if_pos (by omega)]
    exact ⟨c, q, rfl, by omega, hc, by omega, by omega⟩
  · rw [if_neg hc, if_pos (by omega)]
    exact ⟨f.tails, q + 1, rfl, Nat.le_refl _, by omega, by omega, by omega⟩
/-- a whole number as the format has it -/
def rp (f : fpF) (n : Nat) : fpD := if n = 0 then .fin false 0 f.qmin else .fin false (n * 2 ^ (f.p - 1 - n.log2)) ((n.log2 : Int) - ((f.p - 1 : Nat) : Int))
theorem rp_sp (f : fpF) (hp : 1 ≤ f.p) (hq : f.qmin ≤ -((f.p - 1 : Nat) : Int)) {n : Nat} (hn : n < 2 ^ f.p) : ∃ (c : Nat) (q : Int), rp f n = .fin false c q ∧ f.qmin ≤ q ∧ q ≤ 0 ∧ c = n * 2 ^ (-q).toNat ∧ (n ≠ 0 → f.tails ≤ c ∧ c < 2 ^ f.p ∧ -((f.p - 1 : Nat) : Int) ≤ q) := by
  unfold rp
  by_cases h0 : n = 0
  · rw [if_pos h0]
    exact ⟨0, f.qmin, rfl, Int.le_refl _, by omega, by rw [h0, Nat.zero_mul], fun q => absurd h0 q⟩
  · rw [if_neg h0]
    have l1 := Nat.log2_self_le h0
    have l2 := Nat.lt_log2_self (n := n)
    have l3 : n.log2 < f.p := (Nat.log2_lt h0).mpr hn
    refine ⟨_, _, rfl, by omega, by omega, ?_, fun _ => ⟨?_, ?_, by omega⟩⟩
    · congr 2; omega
    · unfold FP.Core.Fmt.tails
      have : 2 ^ n.log2 * 2 ^ (f.p - 1 - n.log2) ≤ n * 2 ^ (f.p - 1 - n.log2) := Nat.mul_le_mul_right _ l1
      rw [← Nat.pow_add, show n.log2 + (f.p - 1 - n.log2) = f.p - 1 by omega] at this
      exact this
    · have : n * 2 ^ (f.p - 1 - n.log2) < 2 ^ (n.log2 + 1) * 2 ^ (f.p - 1 - n.log2) := Nat.mul_lt_mul_of_pos_right l2 (Nat.pow_pos (by decide))
      rw [← Nat.pow_add, show n.log2 + 1 + (f.p - 1 - n.log2) = f.p by omega] at this
      exact this
theorem round_rp (f : fpF) (hp : 1 ≤ f.p) (hq : f.qmin ≤ -((f.p - 1 : Nat) : Int)) (hq2 : 0 ≤ f.qmax) {n num : Nat} {e : Int} (hn : n < 2 ^ f.p) (he : e ≤ 0) (h : num = n * 2 ^ (-e).toNat) : FP.Core.round f (.fin false num e) = rp f n := by
  obtain ⟨c, q, h1, h2, h3, h4, h5⟩ := rp_sp f hp hq hn
  rw [h1]
  show FP.Core.roundRatio f false num 1 e = _
  by_cases h0 : n = 0
  · unfold FP.Core.roundRatio
    rw [if_pos (by rw [h, h0, Nat.zero_mul])]
    unfold rp at h1
    rw [if_pos h0] at h1
    exact h1
  · obtain ⟨h6, h7, h8⟩ := h5 h0
    refine rr_ex f false (by omega) hp h6 h7 h2 (by omega) ?_
    rw [h, h4, Nat.one_mul, Nat.mul_assoc, Nat.mul_assoc, ← Nat.pow_add, ← Nat.pow_add]
    congr 2
    omega
theorem int_rp (f : fpF) (hp : 1 ≤ f.p) (hq : f.qmin ≤ -((f.p - 1 : Nat) : Int)) (hq2 : 0 ≤ f.qmax) {n : Nat} (hn : n < 2 ^ f.p) : FP.Core.fromInt f (n : Int) = FP.Core.encode f (rp f n) := by
  unfold FP.Core.fromInt FP.Core.ofInt
  rw [decide_eq_false (by omega), Int.natAbs_natCast]
  rw [round_rp f hp hq hq2 hn (Int.le_refl 0) (by rw [show (-(0 : Int)).toNat = 0 from rfl, Nat.pow_zero, Nat.mul_one])]
theorem sum_rp (f : fpF) (hp : 1 ≤ f.p) (hq : f.qmin ≤ -((f.p - 1 : Nat) : Int)) (hq2 : 0 ≤ f.qmax) {a b : Nat} (h : a + b < 2 ^ f.p) : FP.Core.round f (FP.Core.exactSum (rp f a) (rp f b)) = rp f (a + b) := by
  obtain ⟨c, q, e1, e2, e3, e4, -⟩ := rp_sp f hp hq (n := a) (by omega)
  obtain ⟨d, r, g1, g2, g3, g4, -⟩ := rp_sp f hp hq (n := b) (by omega)
  rw [e1, g1]
  unfold FP.Core.exactSum
  dsimp only
  have hm : min q r ≤ q ∧ min q r ≤ r ∧ min q r ≤ 0 := by omega
  generalize min q r = m at hm ⊢
  have hv : FP.Core.sumUnits false c q false d r m = (((a + b) * 2 ^ (-m).toNat : Nat) : Int) := by
    unfold FP.Core.sumUnits FP.Core.signed FP.Core.inUnits
    rw [if_neg (by decide), if_neg (by decide), e4, g4, Nat.mul_assoc, Nat.mul_assoc, ← Nat.pow_add, ← Nat.pow_add, show (-q).toNat + (q - m).toNat = (-m).toNat by omega, show (-r).toNat + (r - m).toNat = (-m).toNat by omega, Nat.add_mul]
    omega
  rw [hv, Int.natAbs_natCast]
  have hs : FP.Core.sumSign false false (((a + b) * 2 ^ (-m).toNat : Nat) : Int) = false := by
    unfold FP.Core.sumSign
    split
    · rfl
    · exact decide_eq_false (by omega)
  rw [hs]
  exact round_rp f hp hq hq2 h hm.2.2 rfl
theorem prod_rp (f : fpF) (hp : 1 ≤ f.p) (hq : f.qmin ≤ -((f.p - 1 : Nat) : Int)) (hq2 : 0 ≤ f.qmax) {a b : Nat} (ha : a < 2 ^ f.p) (hb : b < 2 ^ f.p) (h : a * b < 2 ^ f.p) : FP.Core.round f (FP.Core.exactProduct (rp f a) (rp f b)) = rp f (a * b) := by
  obtain ⟨c, q, e1, e2, e3, e4, -⟩ := rp_sp f hp hq ha
  obtain ⟨d, r, g1, g2, g3, g4, -⟩ := rp_sp f hp hq hb
  rw [e1, g1]
  unfold FP.Core.exactProduct
  dsimp only
  rw [show (false != false) = false from rfl]
  refine round_rp f hp hq hq2 h (by omega) ?_
  rw [e4, g4, show (-(q + r)).toNat = (-q).toNat + (-r).toNat by omega, Nat.pow_add]
  rw [Nat.mul_assoc, Nat.mul_assoc, Nat.mul_left_comm (2 ^ (-q).toNat)]
