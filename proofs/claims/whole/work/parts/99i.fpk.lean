/-! TOLD AS FLOATS: saved, full, mean: both sides -/
theorem i2f_n {n : Nat} (h : n < 2147483648) : FP.i2f (Int32.ofInt (n : Int)) = UInt32.ofNat (FP.Core.fromInt FP.Core.b32 (n : Int)) := by
  show UInt32.ofNat (FP.Core.fromInt FP.Core.b32 (Int32.ofInt (n : Int)).toInt) = _
  rw [of_nI, to_nI h]
theorem i2d_n {n : Nat} (h : n < 2147483648) : FP.i2d (Int32.ofInt (n : Int)) = UInt64.ofNat (FP.Core.fromInt FP.Core.b64 (n : Int)) := by
  show UInt64.ofNat (FP.Core.fromInt FP.Core.b64 (Int32.ofInt (n : Int)).toInt) = _
  rw [of_nI, to_nI h]
theorem d6_add {a b : Nat} (h : a + b < 9007199254740992) : FP.dadd (UInt64.ofNat (FP.Core.fromInt FP.Core.b64 (a : Int))) (UInt64.ofNat (FP.Core.fromInt FP.Core.b64 (b : Int))) = UInt64.ofNat (FP.Core.fromInt FP.Core.b64 ((a + b : Nat) : Int)) := by
  obtain ⟨f0, f1, f2, f3, f4, f5, f6⟩ := d6_fmt
  show UInt64.ofNat (FP.Core.encode FP.Core.b64 (FP.Core.round FP.Core.b64 (FP.Core.exactSum (FP.Core.decode FP.Core.b64 (UInt64.ofNat (FP.Core.fromInt FP.Core.b64 (a : Int))).toNat) (FP.Core.decode FP.Core.b64 (UInt64.ofNat (FP.Core.fromInt FP.Core.b64 (b : Int))).toNat)))) = _
  rw [(d6_int (n := a) (by omega)).2, (d6_int (n := b) (by omega)).2, sum_rp FP.Core.b64 f0 (by rw [f3, f5]; decide) (by rw [f4]; decide) (by omega), int_rp FP.Core.b64 f0 (by rw [f3, f5]; decide) (by rw [f4]; decide) (by omega)]
theorem d6_mul {a b : Nat} (ha : a < 9007199254740992) (hb : b < 9007199254740992) (h : a * b < 9007199254740992) : FP.dmul (UInt64.ofNat (FP.Core.fromInt FP.Core.b64 (a : Int))) (UInt64.ofNat (FP.Core.fromInt FP.Core.b64 (b : Int))) = UInt64.ofNat (FP.Core.fromInt FP.Core.b64 ((a * b : Nat) : Int)) := by
  obtain ⟨f0, f1, f2, f3, f4, f5, f6⟩ := d6_fmt
  show UInt64.ofNat (FP.Core.encode FP.Core.b64 (FP.Core.round FP.Core.b64 (FP.Core.exactProduct (FP.Core.decode FP.Core.b64 (UInt64.ofNat (FP.Core.fromInt FP.Core.b64 (a : Int))).toNat) (FP.Core.decode FP.Core.b64 (UInt64.ofNat (FP.Core.fromInt FP.Core.b64 (b : Int))).toNat)))) = _
  rw [(d6_int ha).2, (d6_int hb).2, prod_rp FP.Core.b64 f0 (by rw [f3, f5]; decide) (by rw [f4]; decide) (by omega) (by omega) (by omega), int_rp FP.Core.b64 f0 (by rw [f3, f5]; decide) (by rw [f4]; decide) (by omega)]
theorem J_saved (d : Nat) {M : am_M} {n : Int} (hG : GR M n) : AG M (n + 1) (am_m am_P (d + 20) j_Tv_saved [am_r 5 0] M) (am_m am_P (d + 20) j_Md_saved [am_r 6 504]) := by
  have hX : am_m am_P (d + 20) j_Tv_saved [am_r 5 0] M = am_at am_P (d + 19) j_Tv_saved 0 [am_r 5 0, am_u] [] M := rfl
  have hY : am_m am_P (d + 20) j_Md_saved [am_r 6 504] M = am_at am_P (d + 19) j_Md_saved 0 [am_r 6 504] [] M := rfl
  obtain ⟨A, c, hR, hJ, hP⟩ := hG.sr
  have eu : am_m am_P (d + 19) j_Po_usedBlocks [am_r 2 2] M = some (some (am_i (nz (M 4) 96)), M) := S_Po_usedBlocks (d + 18) 2 M
  have eb : am_m am_P (d + 19) j_Md_blocks [am_r 6 504] M = some (some (am_i (nz (M 4) 96)), M) := by
    rw [S_Md_blocks (d + 17), hR, nz_wc]
  have em := S_St_mappedInAll (d + 12) M
  have er := A_mapped (d + 14) hR hJ
  have b1 := nz_bd (M 4) 96
  have b2' := sm_bd (f := usS M) (c := 512) 12 (fun i _ => by have := usS_bd M i; omega)
  generalize nz (M 4) 96 = x at eu eb b1
  generalize sm (usS M) 12 = y at em er b2'
  obtain ⟨z, rfl⟩ : ∃ z : Nat, x = (z : Int) := ⟨x.toNat, by omega⟩
  obtain ⟨w, rfl⟩ : ∃ w : Nat, y = (w : Int) := ⟨y.toNat, by omega⟩
  by_cases h0 : (z : Int) = 0
  · refine AG.same hG (a := am_i 0) ?_ ?_
    · rw [hX, E_Tv_saved_0]
      simp only [Nat.reduceAdd]
      rw [eu, bI_some, v_eq, if_pos h0]
    · rw [hY, E_Md_saved_0, eb, bI_some, if_pos h0]
  · rcases f3_quo (a := w) (d := z) (by omega) (by omega) (by omega) with ⟨q1, q2⟩ | ⟨E, T, q1, q2, q3⟩
    · have hx : am_m am_P (d + 19) j_Tv_bitsOfFloat [am_f 0] M = some (some (am_i 0), M) := by
        show am_at am_P (d + 18) j_Tv_bitsOfFloat 0 [am_f 0, am_u, am_u, am_u] [] M = _
        rw [E_Tv_bitsOfFloat_0, if_neg (by decide +kernel)]
      have hy : am_m am_P (d + 19) j_Fl_floatToIntBits [am_f 0] M = some (some (am_i 0), M) := by
        have h1 : am_m am_P (d + 18) j_Fl_isNaN [am_f 0] M = some (some (am_i 0), M) := by
          show am_at am_P (d + 17) j_Fl_isNaN 0 [am_f 0] [] M = _
          rw [E_Fl_isNaN_0, if_pos (by decide +kernel), if_b0]
        show am_at am_P (d + 18) j_Fl_floatToIntBits 0 [am_f 0] [] M = _
        rw [E_Fl_floatToIntBits_0, h1, bI_some, if_pos rfl]
        rfl
      refine AG.same hG (a := am_i 0) ?_ ?_
      · rw [hX, E_Tv_saved_0]
        simp only [Nat.reduceAdd]
        rw [eu, bI_some, v_eq, if_neg h0, em, bI_some, i2f_n (by omega), i2f_n (by omega), q2, if_t (by decide +kernel), hx, bI_some]
      · rw [hY, E_Md_saved_0, eb, bI_some, if_neg h0, er, bI_some, eb, bI_some, i2f_n (by omega), i2f_n (by omega), q2, if_t (by decide +kernel), hy, bI_some]
    · refine AG.same hG (a := am_i ((E * 8388608 + T : Nat) : Int)) ?_ ?_
      · rw [hX, E_Tv_saved_0]
        simp only [Nat.reduceAdd]
        rw [eu, bI_some, v_eq, if_neg h0, em, bI_some, i2f_n (by omega), i2f_n (by omega), q3, if_t (f3_ok (by omega)), S_Tv_bitsOfFloat (d + 18) M q1 q2, bI_some]
      · rw [hY, E_Md_saved_0, eb, bI_some, if_neg h0, er, bI_some, eb, bI_some, i2f_n (by omega), i2f_n (by omega), q3, if_t (f3_ok (by omega)), S_Fl_bits (d + 17) M q1 q2, bI_some]
theorem J_full (d : Nat) {M : am_M} {n : Int} (hG : GR M n) (v : Int) : AG M (n + 1) (am_m am_P (d + 20) j_Tv_full [am_r 5 0, am_i v] M) (am_m am_P (d + 20) j_Md_full [am_r 6 504, am_i v]) := by
  have hX : am_m am_P (d + 20) j_Tv_full [am_r 5 0, am_i v] M = am_at am_P (d + 19) j_Tv_full 0 [am_r 5 0, am_i v] [] M := rfl
  have hY : am_m am_P (d + 20) j_Md_full [am_r 6 504, am_i v] M = am_at am_P (d + 19) j_Md_full 0 [am_r 6 504, am_i v] [] M := rfl
  obtain ⟨A, c, hR, hJ, hP⟩ := hG.sr
  obtain ⟨u1, u2, u3⟩ := hJ.un
  by_cases hv : thS M v
  · have hs := (u3.2 v hv.1 hv.2.1).1
    have hs0 := hv.2.2
    have hz := (MV.vd u3 hv).1
    have hg := R_got (d + 18) (v := v) (w := 1) ⟨hv.1, hv.2.1⟩ (by omega) hR
    rw [show 1796 + 9 * v + 1 = 1797 + 9 * v by omega, hz] at hg
    have eu := S_St_usedOf (d + 13) v M
    have er := A_used (d + 15) hR hJ hv
    have hb := usS_bd M v
    generalize usS M v = x at eu er hb
    obtain ⟨a, rfl⟩ : ∃ a : Nat, x = (a : Int) := ⟨x.toNat, by omega⟩
    obtain ⟨z, hz2⟩ : ∃ z : Nat, M 7 v = (z : Int) := ⟨(M 7 v).toNat, by omega⟩
    have em : FP.dmul (FP.i2d (Int32.ofInt (a : Int))) 4652007308841189376 = UInt64.ofNat (FP.Core.fromInt FP.Core.b64 ((a * 1000 : Nat) : Int)) := by
      rw [i2d_n (by omega), show (4652007308841189376 : UInt64) = UInt64.ofNat (FP.Core.fromInt FP.Core.b64 ((1000 : Nat) : Int)) by decide +kernel]
      exact d6_mul (by omega) (by omega) (by omega)
    have ok1 := d6_ok (d6_int (n := a * 1000) (by omega)).1
    have ok2 : FP.ddiv (UInt64.ofNat (FP.Core.fromInt FP.Core.b64 ((a * 1000 : Nat) : Int))) (UInt64.ofNat (FP.Core.fromInt FP.Core.b64 (z : Int))) &&& 0x7fffffffffffffff ≤ 0x7ff0000000000000 := by
      rcases d6_quo (a := a * 1000) (d := z) (by omega) (by omega) (by omega) with ⟨_, q2⟩ | ⟨E, T, q1, q2, q3⟩
      · rw [q2]; decide +kernel
      · rw [q3]; exact d6_ok (by omega)
    refine AG.same hG (a := am_i (FP.d2i (FP.ddiv (UInt64.ofNat (FP.Core.fromInt FP.Core.b64 ((a * 1000 : Nat) : Int))) (UInt64.ofNat (FP.Core.fromInt FP.Core.b64 (z : Int))))).toInt) ?_ ?_
    · rw [hX, E_Tv_full_0]
      simp only [Nat.reduceAdd]
      rw [S_St_isThere, bI_some, b2_t hv, if_neg (by decide), eu, bI_some, em, if_t ok1, if_t ⟨hv.1, hv.2.1⟩, hz2, i2d_n (n := z) (by omega), if_t ok2]
    · rw [hY, E_Md_full_0, R_isVol (d + 17) u3 hR, bI_some, b2_t hv, if_neg (by decide), er, bI_some, em, if_t ok1, hg, bI_some, hz2, i2d_n (n := z) (by omega), if_t ok2]
  · refine AG.same hG (a := am_i (-1)) ?_ ?_
    · rw [hX, E_Tv_full_0]
      simp only [Nat.reduceAdd]
      rw [S_St_isThere, bI_some, b2_f hv, if_pos rfl]
    · rw [hY, E_Md_full_0, R_isVol (d + 17) u3 hR, bI_some, b2_f hv, if_pos rfl]
theorem vat_bd {M : am_M} {A c : Int → Int} {n : Int} (hJ : JX (am_st M 4 c) A n) {v : Int} (hv : thS M v) (a : Int) : 0 ≤ vatS M v a ∧ vatS M v a ≤ 999999 := by
  obtain ⟨z, hz⟩ : ∃ z : Nat, v = (z : Int) := ⟨v.toNat, by have := hv.1; omega⟩
  subst hz
  have h12 := hv.2.1
  have hv' := (th_st M c z).mpr hv
  have := bk_ok hJ.1.rv hJ.1.pi (w := z) (by omega) a
  rw [← blk_th hv', blk_st, st_eq] at this
  unfold vatS valS
  rcases this with e | ⟨e1, e2, e3⟩
  · rw [e, if_neg (by omega)]; omega
  · have hb := hJ.1.rb _ e1 e2 (by rw [st_eq]; exact e3)
    rw [st_ne _ _ (by decide)] at hb
    rw [if_pos ⟨e1, e2⟩]
    exact hb.2
theorem J_mean (d : Nat) {M : am_M} {n : Int} (hG : GR M n) (v : Int) : AG M (n + 1) (am_m am_P (d + 20) j_Tv_mean [am_r 5 0, am_i v] M) (am_m am_P (d + 20) j_Md_mean [am_r 6 504, am_i v]) := by
  have hX : am_m am_P (d + 20) j_Tv_mean [am_r 5 0, am_i v] M = am_at am_P (d + 19) j_Tv_mean 0 [am_r 5 0, am_i v, am_u, am_u, am_u, am_u] [] M := rfl
  have hY : am_m am_P (d + 20) j_Md_mean [am_r 6 504, am_i v] M = am_at am_P (d + 19) j_Md_mean 0 [am_r 6 504, am_i v, am_u, am_u, am_u] [] M := rfl
  obtain ⟨A, c, hR, hJ, hP⟩ := hG.sr
  obtain ⟨u1, u2, u3⟩ := hJ.un
  by_cases hv : thS M v
  · have hs := (u3.2 v hv.1 hv.2.1).1
    have hs0 := hv.2.2
    obtain ⟨m, hm⟩ : ∃ m : Nat, M 7 v = (m : Int) := ⟨(M 7 v).toNat, by omega⟩
    have eu := S_St_usedOf (d + 13) v M
    have er := A_used (d + 15) hR hJ hv
    have hb := usS_bd M v
    generalize usS M v = x at eu er hb
    obtain ⟨u, rfl⟩ : ∃ u : Nat, x = (u : Int) := ⟨x.toNat, by omega⟩
    have hvb := vat_bd hJ hv
    have hsb := fun k : Nat => sm_bd (f := vatS M v) (c := 999999) k (fun i _ => by have := hvb i; omega)
    have hext : sm (vatS M v) 512 = sm (vatS M v) m := by
      obtain ⟨k, hk⟩ : ∃ k, 512 = m + k := ⟨512 - m, by omega⟩
      rw [hk, sm_add, sm_zero k (fun i hi => ?_)]
      · omega
      · (try dsimp only)
        unfold vatS
        rw [mp_sz hJ hv (by omega) (by omega)]
        rfl
    by_cases h0 : (u : Int) = 0
    · refine AG.same hG (a := am_l 0) ?_ ?_
      · rw [hX, E_Tv_mean_0]
        simp only [Nat.reduceAdd]
        rw [S_St_isThere, bI_some, b2_t hv, if_neg (by decide), eu, bI_some, v_eq, if_pos h0]
      · rw [hY, E_Md_mean_0, R_isVol (d + 17) u3 hR, bI_some, b2_t hv, if_neg (by decide), er, bI_some, if_pos h0]
    · obtain ⟨S, hS⟩ : ∃ S : Nat → Nat, ∀ k, sm (vatS M v) k = (S k : Int) := ⟨fun k => (sm (vatS M v) k).toNat, fun k => by have := hsb k; (try dsimp only); omega⟩
      have hSb : ∀ k : Nat, k ≤ 512 → S k ≤ 600000000 := fun k hk => by have := hsb k; have := hS k; omega
      have hS1 : ∀ k : Nat, ((S (k + 1) : Nat) : Int) = (S k : Int) + vatS M v k := fun k => by rw [← hS, ← hS]; rfl
      have hquo := d6_quo (a := S m) (d := u) (by have := hSb m (by omega); omega) (by omega) (by omega)
      have hcls : ∀ (k i : Nat), i + k = m → am_at am_P (d + 19) j_Tv_mean 33 [am_r 5 0, am_i v, am_i (u : Int), am_d (UInt64.ofNat (FP.Core.fromInt FP.Core.b64 ((S i : Nat) : Int))), am_u, am_i (i : Int)] [] M = am_if (FP.ddiv (UInt64.ofNat (FP.Core.fromInt FP.Core.b64 ((S m : Nat) : Int))) (UInt64.ofNat (FP.Core.fromInt FP.Core.b64 (u : Int))) &&& 0x7fffffffffffffff ≤ 0x7ff0000000000000) (am_bL (am_m am_P (d + 19) j_Tv_bitsOfDouble [am_d (FP.ddiv (UInt64.ofNat (FP.Core.fromInt FP.Core.b64 ((S m : Nat) : Int))) (UInt64.ofNat (FP.Core.fromInt FP.Core.b64 (u : Int))))] M) fun y2 M1 => some (some (am_l y2), M1)) := by
        intro k
        induction k with
        | zero =>
          intro i hi
          have him : i = m := by omega
          subst him
          rw [E_Tv_mean_33, if_t ⟨hv.1, hv.2.1⟩]
          simp only [Nat.reduceAdd]
          rw [if_neg (by omega), i2d_n (n := u) (by omega)]
        | succ k ih =>
          intro i hi
          have h1 := hvb i
          obtain ⟨y, hy⟩ : ∃ y : Nat, vatS M v i = (y : Int) := ⟨(vatS M v i).toNat, by omega⟩
          have h2 := hS1 i
          have h3 := hSb i (by omega)
          have e1 : S (i + 1) = S i + y := by omega
          have ihp := ih (i + 1) (by omega)
          rw [E_Tv_mean_33, if_t ⟨hv.1, hv.2.1⟩]
          simp only [Nat.reduceAdd]
          rw [if_pos (by omega), S_St_valueAt (d + 15), bI_some, hy, i2d_n (n := y) (by omega), d6_add (by omega), if_t (d6_ok (d6_int (by omega)).1), v_eq, wr_id (by omega) (by omega)]
          rw [e1, Int.natCast_succ] at ihp
          exact ihp
      have href : ∀ (k i : Nat), i + k = 512 → am_at am_P (d + 19) j_Md_mean 23 [am_r 6 504, am_i v, am_l (Int64.ofNat (S i)), am_u, am_i (i : Int)] [] M = am_if (FP.ddiv (UInt64.ofNat (FP.Core.fromInt FP.Core.b64 ((S m : Nat) : Int))) (UInt64.ofNat (FP.Core.fromInt FP.Core.b64 (u : Int))) &&& 0x7fffffffffffffff ≤ 0x7ff0000000000000) (am_bL (am_m am_P (d + 19) j_Du_doubleToLongBits [am_d (FP.ddiv (UInt64.ofNat (FP.Core.fromInt FP.Core.b64 ((S m : Nat) : Int))) (UInt64.ofNat (FP.Core.fromInt FP.Core.b64 (u : Int))))] M) fun y4 M3 => some (some (am_l y4), M3)) := by
        intro k
        induction k with
        | zero =>
          intro i hi
          have him : i = 512 := by omega
          subst him
          have e5 : S 512 = S m := by have := hS 512; have := hS m; omega
          have el : FP.l2d (Int64.ofNat (S m)) = UInt64.ofNat (FP.Core.fromInt FP.Core.b64 ((S m : Nat) : Int)) := by
            show UInt64.ofNat (FP.Core.fromInt FP.Core.b64 (Int64.ofNat (S m)).toInt) = _
            rw [Int64.toInt_ofNat_of_lt (by have := hSb m (by omega); omega)]
          rw [E_Md_mean_23, if_neg (by omega), er, bI_some, e5, el, i2d_n (n := u) (by omega)]
        | succ k ih =>
          intro i hi
          have h1 := hvb i
          obtain ⟨y, hy⟩ : ∃ y : Nat, vatS M v i = (y : Int) := ⟨(vatS M v i).toNat, by omega⟩
          have h2 := hS1 i
          have e1 : S (i + 1) = S i + y := by omega
          have ihp := ih (i + 1) (by omega)
          have ey : (Int32.ofInt (y : Int)).toInt64 = Int64.ofNat y := by
            apply Int64.toInt_inj.mp
            rw [Int32.toInt_toInt64, of_nI, to_nI (by omega), Int64.toInt_ofNat_of_lt (by omega)]
          rw [E_Md_mean_23, if_pos (by omega), A_read (d + 15) hR hJ hv (by omega), bI_some, hy, ey, v_eq, wr_id (by omega) (by omega), ← Int64.ofNat_add]
          rw [e1, Int.natCast_succ] at ihp
          exact ihp
      have hS0 : S 0 = 0 := by have : sm (vatS M v) 0 = 0 := rfl; have := hS 0; omega
      have hc0 := hcls m 0 (by omega)
      have hr0 := href 512 0 (by omega)
      rw [hS0] at hc0 hr0
      have hx0 : ∀ (ans : Int64), (FP.ddiv (UInt64.ofNat (FP.Core.fromInt FP.Core.b64 ((S m : Nat) : Int))) (UInt64.ofNat (FP.Core.fromInt FP.Core.b64 (u : Int))) &&& 0x7fffffffffffffff ≤ 0x7ff0000000000000) → am_m am_P (d + 19) j_Tv_bitsOfDouble [am_d (FP.ddiv (UInt64.ofNat (FP.Core.fromInt FP.Core.b64 ((S m : Nat) : Int))) (UInt64.ofNat (FP.Core.fromInt FP.Core.b64 (u : Int))))] M = some (some (am_l ans), M) → am_m am_P (d + 19) j_Du_doubleToLongBits [am_d (FP.ddiv (UInt64.ofNat (FP.Core.fromInt FP.Core.b64 ((S m : Nat) : Int))) (UInt64.ofNat (FP.Core.fromInt FP.Core.b64 (u : Int))))] M = some (some (am_l ans), M) → AG M (n + 1) (am_m am_P (d + 20) j_Tv_mean [am_r 5 0, am_i v] M) (am_m am_P (d + 20) j_Md_mean [am_r 6 504, am_i v]) := by
        intro ans k1 k2 k3
        rw [if_t k1, k2, bL_some] at hc0
        rw [if_t k1, k3, bL_some] at hr0
        refine AG.same hG (a := am_l ans) ?_ ?_
        · rw [hX, E_Tv_mean_0]
          simp only [Nat.reduceAdd]
          rw [S_St_isThere, bI_some, b2_t hv, if_neg (by decide), eu, bI_some, v_eq, if_neg h0, v_eq, show FP.dconst0 = UInt64.ofNat (FP.Core.fromInt FP.Core.b64 ((0 : Nat) : Int)) by decide +kernel]
          exact hc0
        · rw [hY, E_Md_mean_0, R_isVol (d + 17) u3 hR, bI_some, b2_t hv, if_neg (by decide), er, bI_some, if_neg h0, v_eq]
          exact hr0
      rcases hquo with ⟨q1, q2⟩ | ⟨E, T, q1, q2, q3⟩
      · refine hx0 0 ?_ ?_ ?_
        · rw [q2]; decide +kernel
        · rw [q2]
          show am_at am_P (d + 18) j_Tv_bitsOfDouble 0 [am_d 0, am_u, am_u, am_u, am_u, am_u, am_u] [] M = _
          rw [E_Tv_bitsOfDouble_0, if_neg (by decide +kernel)]
        · rw [q2]
          have h1 : am_m am_P (d + 18) j_Du_isNaN [am_d 0] M = some (some (am_i 0), M) := by
            show am_at am_P (d + 17) j_Du_isNaN 0 [am_d 0, am_u] [] M = _
            rw [E_Du_isNaN_0, if_pos (by decide +kernel), if_b0]
          show am_at am_P (d + 18) j_Du_doubleToLongBits 0 [am_d 0, am_u] [] M = _
          rw [E_Du_doubleToLongBits_0, h1, bI_some, if_pos rfl]
          rfl
      · refine hx0 (d6_of E T).toInt64 ?_ ?_ ?_
        · rw [q3]; exact d6_ok (by omega)
        · rw [q3]; exact S_Tv_bitsOfDouble (d + 18) M q1 q2
        · rw [q3]; exact S_Du_bits (d + 17) M q1 q2
  · refine AG.same hG (a := am_l 0) ?_ ?_
    · rw [hX, E_Tv_mean_0]
      simp only [Nat.reduceAdd]
      rw [S_St_isThere, bI_some, b2_f hv, if_pos rfl]
    · rw [hY, E_Md_mean_0, R_isVol (d + 17) u3 hR, bI_some, b2_f hv, if_pos rfl]
