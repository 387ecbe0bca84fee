/-! A VOLUME OPEN TO HAND; changes one after another; written -/
/-- class and reference answer alike, and all stays related -/
def AG (M : am_M) (n : Int) (X : Option am_O) (Y : am_M → Option am_O) : Prop := ∃ (a : am_V) (M1 M2 : am_M), X = some (some a, M1) ∧ Y M1 = some (some a, M2) ∧ GR M2 n ∧ ∀ k : Nat, 517 ≤ k → M2 k = M k
theorem RF.gr {M N : am_M} {n n' : Int} (hG : GR M n) (hn : n ≤ n') {K : am_M} (hK : ∀ k : Nat, (k ≤ 500 ∨ 504 ≤ k) → K k = M k) (h : RF K N) : GR N n' ∧ ∀ k : Nat, 517 ≤ k → N k = M k := by
  refine ⟨hG.same hn (fun k hk => ?_) ?_ ?_ ?_ ?_ (fun k k1 k2 => ?_), fun k hk => ?_⟩
  · rw [h.1 k (by omega), hK k (by omega)]
  · rw [h.1 505 (by omega), hK 505 (by omega)]
  · rw [h.1 506 (by omega), hK 506 (by omega)]
  · rw [h.2.1, hK 504 (by omega)]
  · rw [h.2.2, hK 504 (by omega)]
  · rw [h.1 k (by omega), hK k (by omega)]
  · rw [h.1 k (by omega), hK k (by omega)]
/-- the state and the row, with the counts as they are or were -/
theorem GR.sr {M : am_M} {n : Int} (h : GR M n) : ∃ (A c : Int → Int), M 505 = wc A (M 4) ∧ JX (am_st M 4 c) A n ∧ SP M c := by
  obtain ⟨A, ⟨c, hJ, hP⟩, hR⟩ := h.2.row
  exact ⟨A, c, hR, hJ, hP⟩
theorem S_Md_isOpen (d : Nat) {M : am_M} {A : Int → Int} {n : Int} {c : Int → Int} (hJ : JX (am_st M 4 c) A n) (hP : SP M c) {N : am_M} (hN : N 505 = wc A (M 4)) (v : Int) : ∃ N', am_m am_P (d + 5) j_Md_isOpen [am_r 6 504, am_i v] N = some (some (am_i (b2 (wrS M c = -1 ∧ thS M v ∧ M 9 v = 0))), N') ∧ RF N N' := by
  obtain ⟨u1, u2, u3⟩ := hJ.un
  have hX : am_m am_P (d + 5) j_Md_isOpen [am_r 6 504, am_i v] N = am_at am_P (d + 4) j_Md_isOpen 0 [am_r 6 504, am_i v] [] N := rfl
  refine ⟨mem2 N (lyS c (M 6) (M 10) (N 508, N 509)), ?_, RF.mem2 _ _⟩
  rw [hX, E_Md_isOpen_0, S_Md_wrong d hJ hP hN, bI_some]
  generalize lyS c (M 6) (M 10) (N 508, N 509) = s
  simp only [if_ot, if_to]
  have hrow : mem2 N s = am_st (mem2 N s) 505 (wc A (M 4)) := by
    conv => lhs; rw [← st_self (mem2 N s) 505]
    rw [mem2_o _ _ (by decide) (by decide), hN]
  by_cases h1 : wrS M c = -1
  · rw [if_pos h1]
    have e1 : am_m am_P (d + 4) j_Md_isVolume [am_r 6 504, am_i v] (mem2 N s) = some (some (am_i (b2 (thS M v))), mem2 N s) := by
      rw [hrow]; exact R_isVolume (d + 2) u3 v (M 4) _
    rw [e1, bI_some]
    by_cases h2 : thS M v
    · have e2 : am_m am_P (d + 4) j_Md_get [am_r 6 504, am_i v, am_i 3] (mem2 N s) = some (some (am_i (M 9 v)), mem2 N s) := by
        have := R_get (d + 3) (v := v) (w := 3) ⟨h2.1, h2.2.1⟩ (by omega) A (M 4) (mem2 N s)
        rw [← hrow, show 1796 + 9 * v + 3 = 1799 + 9 * v by omega, (u3.vd h2).2.2.1] at this
        exact this
      rw [if_neg (by rw [b2_t h2]; omega), e2, bI_some]
      by_cases h3 : M 9 v = 0
      · rw [if_pos h3, b2_t ⟨h1, h2, h3⟩]
      · rw [if_neg h3, b2_f (fun q => h3 q.2.2)]
    · rw [if_pos (b2_f h2), b2_f (fun q => h2 q.2.1)]
  · rw [if_neg h1, b2_f (fun q => h1 q.1)]
/-- both look whether a volume is open to hand -/
theorem opn_both (d e : Nat) {M : am_M} {n : Int} (hG : GR M n) (v : Int) :
    (∃ M', am_m am_P (d + 6) j_Tv_isOpenToHand [am_r 5 0, am_i v] M = some (some (am_i 0), M') ∧ (∀ k : Nat, k ≠ 503 → M' k = M k) ∧ ∀ N : am_M, N 505 = M 505 → ∃ N', am_m am_P (e + 5) j_Md_isOpen [am_r 6 504, am_i v] N = some (some (am_i 0), N') ∧ RF N N') ∨
    (∃ (M' : am_M) (A : Int → Int), am_m am_P (d + 6) j_Tv_isOpenToHand [am_r 5 0, am_i v] M = some (some (am_i 1), M') ∧ (∀ k : Nat, k ≠ 503 → M' k = M k) ∧ GR M' n ∧ M' 505 = wc A (M' 4) ∧ JX M' A n ∧ thS M' v ∧ M' 9 v = 0 ∧ ∀ N : am_M, N 505 = M 505 → ∃ N', am_m am_P (e + 5) j_Md_isOpen [am_r 6 504, am_i v] N = some (some (am_i 1), N') ∧ RF N N') := by
  obtain ⟨A, c, hR, hJ, hP⟩ := hG.sr
  obtain ⟨s1, s2, s3⟩ := sd_sp hJ hP
  have hro := fun N (hN : N 505 = M 505) => S_Md_isOpen e hJ hP (N := N) (hN.trans hR) v
  have hw := wr_m1 hP.1
  rw [S_Tv_isOpenToHand]
  by_cases h1 : thS M v ∧ M 9 v = 0
  · rw [if_pos h1]
    by_cases h2 : (sdS M).1 = 0
    · rw [if_pos h2]
      refine Or.inl ⟨_, rfl, s3, fun N hN => ?_⟩
      obtain ⟨N', e1, e2⟩ := hro N hN
      rw [b2_f (fun q => by have := s2.mpr (hw.mp q.1); omega)] at e1
      exact ⟨N', e1, e2⟩
    · rw [if_neg h2]
      have hc : M 4 = c := s2.mp (by omega)
      have hJM : JX M A n := by rw [← hc, st_self] at hJ; exact hJ
      have e4 : (sdS M).2 4 = M 4 := s3 4 (by decide)
      refine Or.inr ⟨_, A, rfl, s3, hG.same (Int.le_refl _) (fun k hk => s3 k (by omega)) (s3 505 (by decide)) (s3 506 (by decide)) (by rw [s3 504 (by decide)]) (by rw [s3 504 (by decide)]) (fun k k1 k2 => s3 k (by omega)), by rw [s3 505 (by decide), e4]; exact hR, hJM.congr (Int.le_refl _) (EQ_of (fun k k1 k2 => s3 k (by omega))) (fun x hx => by rw [e4]; exact hJM.1.pi.zo x hx) (fun _ _ _ => rfl), ⟨h1.1.1, h1.1.2.1, by rw [s3 7 (by decide)]; exact h1.1.2.2⟩, by rw [s3 9 (by decide)]; exact h1.2, fun N hN => ?_⟩
      obtain ⟨N', e1, e2⟩ := hro N hN
      rw [b2_t ⟨hw.mpr hc, h1⟩] at e1
      exact ⟨N', e1, e2⟩
  · rw [if_neg h1]
    refine Or.inl ⟨_, rfl, fun _ _ => rfl, fun N hN => ?_⟩
    obtain ⟨N', e1, e2⟩ := hro N hN
    rw [b2_f (fun q => h1 q.2)] at e1
    exact ⟨N', e1, e2⟩
/-- changes of volume v one after another: class from M0, reference from N1; r whether all could be done -/
def OPR (A0 : Int → Int) (M0 N1 : am_M) (v : Nat) (r : Int) (M N : am_M) : Prop :=
  (∀ k : Nat, k ≠ 3 → k ≠ 4 → k ≠ 5 → k ≠ 6 → k ≠ 10 → M k = M0 k) ∧ OZ M0 M ∧
  ((r = 0 ∧ ∃ R : Int → Int, N = am_set (am_st N1 505 R) 504 2 1 ∧ ∀ y : Int, (y < 2 ∨ 1904 ≤ y) → R y = A0 y) ∨
   (r = 1 ∧ ∃ A : Int → Int, N = am_st N1 505 (wc A (M 4)) ∧ (∀ y : Int, (y < 4 ∨ 1796 ≤ y) → y ≠ 1796 + 9 * (v : Int) + 4 → A y = A0 y) ∧ PI A (M 4) (M 5) (M 6) (M 10) (fun _ => 0) ∧ RV M A ∧ RB M A ∧ (∀ w : Int, w ≠ v → M 10 w = M0 10 w) ∧ (∀ w : Nat, w < 12 → w ≠ v → ∀ b : Int, 0 ≤ b ∧ b < 512 → ct (M 6) (M 10) w b = ct (M0 6) (M0 10) w b) ∧ (∀ b : Int, M0 7 v ≤ b → b < 512 → ct (M 6) (M 10) v b = -1)))
theorem OPR.init {A0 : Int → Int} {M0 N1 : am_M} {v : Nat} {n : Int} (hJ : JY M0 A0 n) (hv : thS M0 v) (hN : N1 505 = wc A0 (M0 4)) : OPR A0 M0 N1 v 1 M0 N1 := by
  have hv12 : v < 12 := by have := hv.2.1; omega
  exact ⟨fun _ _ _ _ _ _ => rfl, OZ_rfl _, Or.inr ⟨rfl, A0, by rw [← hN, st_self], fun _ _ _ => rfl, hJ.pi, hJ.rv, hJ.rb, fun _ _ => rfl, fun _ _ _ _ _ => rfl, fun b h1 h2 => hJ.ci v hv12 hv.2.2 b h1 h2⟩⟩
theorem OPR.step {A0 : Int → Int} {M0 N1 M N : am_M} {v : Nat} (hv12 : v < 12) {a : Int} (ha : a < M0 7 v) (h7 : 0 ≤ M0 7 v) (h : OPR A0 M0 N1 v 1 M N) {r : Int × am_M} {f : am_M → Option am_O} (hf : ∀ A, PI A (M 4) (M 5) (M 6) (M 10) (fun _ => 0) → RV M A → RB M A → A 2 = A0 2 → WR A (fun _ => 0) M v N1 r (f (am_st N1 505 (wc A (M 4))))) (hO : OZ M r.2) (hc : ∀ A, PI A (M 4) (M 5) (M 6) (M 10) (fun _ => 0) → RV M A → r.1 = 1 → ∀ w : Nat, w < 12 → ∀ b : Int, 0 ≤ b ∧ b < 512 → ¬ (w = v ∧ b = a) → ct (r.2 6) (r.2 10) w b = ct (M 6) (M 10) w b) :
    ∃ N', f N = some (none, N') ∧ (r.1 = 0 ∨ r.1 = 1) ∧ OPR A0 M0 N1 v r.1 r.2 N' := by
  obtain ⟨h1, h2, h3⟩ := h
  rcases h3 with ⟨q, _⟩ | ⟨_, A, a1, a2, a3, a4, a5, a6, a7, a8⟩
  · omega
  · obtain ⟨w1, w2⟩ := hf A a3 a4 a5 (a2 2 (by omega) (by omega))
    rw [← a1] at w2
    have hfr : ∀ k : Nat, k ≠ 3 → k ≠ 4 → k ≠ 5 → k ≠ 6 → k ≠ 10 → r.2 k = M0 k := fun k k3 k4 k5 k6 k10 => by rw [w1 k k3 k4 k5 k6 k10, h1 k k3 k4 k5 k6 k10]
    rcases w2 with ⟨R, r1, r2, r3⟩ | ⟨A', r1, r2, r3, r4, r5, r6, r7⟩
    · exact ⟨_, r2, Or.inl r1, hfr, h2.trans hO, Or.inl ⟨r1, R, rfl, fun y hy => by rw [r3 y (by omega), a2 y (by omega) (by omega)]⟩⟩
    · have hct := hc A a3 a4 r1
      refine ⟨_, r2, Or.inr r1, hfr, h2.trans hO, Or.inr ⟨r1, A', rfl, fun y hy hyv => by rw [r7 y hy hyv, a2 y hy hyv], r3, r4, r5, fun w hw => by rw [r6 w hw, a6 w hw], fun w hw hwv b hb => by rw [hct w hw b hb (fun q => hwv q.1), a7 w hw hwv b hb], fun b b1 b2 => ?_⟩⟩
      rw [hct v hv12 b (by omega) (fun q => by have := q.2; omega)]
      exact a8 b b1 b2
/-- it was all done, or not: what the reference ends with -/
theorem OPR.dn {A0 : Int → Int} {M0 N1 M N : am_M} {v : Nat} {r n : Int} (hJ : JY M0 A0 n) (hv : thS M0 v) (h : OPR A0 M0 N1 v r M N) : DN A0 M N1 N r n ∧ (r = 1 → ∃ A, MV M A) := by
  obtain ⟨h1, h2, h3⟩ := h
  have hv12 : v < 12 := by have := hv.2.1; omega
  rcases h3 with ⟨q, R, r1, r2⟩ | ⟨q, A, a1, a2, a3, a4, a5, a6, a7, a8⟩
  · exact ⟨Or.inl ⟨q, R, r1, r2⟩, fun e => by omega⟩
  · have e1 : M 1 = M0 1 := h1 1 (by decide) (by decide) (by decide) (by decide) (by decide)
    have e7 : M 7 = M0 7 := h1 7 (by decide) (by decide) (by decide) (by decide) (by decide)
    have e8 : M 8 = M0 8 := h1 8 (by decide) (by decide) (by decide) (by decide) (by decide)
    have e9 : M 9 = M0 9 := h1 9 (by decide) (by decide) (by decide) (by decide) (by decide)
    have e11 : M 11 = M0 11 := h1 11 (by decide) (by decide) (by decide) (by decide) (by decide)
    have e12 : M 12 = M0 12 := h1 12 (by decide) (by decide) (by decide) (by decide) (by decide)
    have e13 : M 13 = M0 13 := h1 13 (by decide) (by decide) (by decide) (by decide) (by decide)
    have e14 : M 14 = M0 14 := h1 14 (by decide) (by decide) (by decide) (by decide) (by decide)
    obtain ⟨⟨m1, m2, m3⟩, m4⟩ := hJ.mv
    have hMV : MV M A := by
      refine ⟨⟨by rw [a2 2 (by omega) (by omega), e1]; exact m1, by rw [a2 3 (by omega) (by omega), e1]; exact m2, by rw [e1]; exact m3⟩, fun w w0 w12 => ?_⟩
      obtain ⟨⟨k1, k2, k3, k4⟩, k5⟩ := m4 w w0 w12
      rw [e7, a2 (1796 + 9 * w) (by omega) (by omega)]
      refine ⟨⟨k1, k2, k3, fun q => ?_⟩, fun q => ?_⟩
      · by_cases ew : w = v
        · have := hv.2.2
          rw [ew] at q
          omega
        · rw [a6 w ew]; exact k4 q
      · have := k5 q
        unfold VD at this ⊢
        rw [e7, e8, e9, e11, e12, e13, e14, a2 (1797 + 9 * w) (by omega) (by omega), a2 (1798 + 9 * w) (by omega) (by omega), a2 (1799 + 9 * w) (by omega) (by omega), a2 (1801 + 9 * w) (by omega) (by omega), a2 (1802 + 9 * w) (by omega) (by omega), a2 (1803 + 9 * w) (by omega) (by omega), a2 (1804 + 9 * w) (by omega) (by omega)]
        exact this
    refine ⟨Or.inr ⟨q, A, a1, fun y hy => a2 y (by omega) (by omega), a3, a4, a5, hMV, ?_, fun w hw hw7 b b1 b2 => ?_⟩, fun _ => ⟨A, hMV⟩⟩
    · have := hJ.pr
      unfold PRt thS at this ⊢
      rw [e1, e7, e13, e14]
      exact this
    · rw [e7] at hw7 b1
      by_cases ew : w = v
      · subst ew; exact a8 b b1 b2
      · have := (m4 w (by omega) (by omega)).1
        rw [a7 w hw ew b (by omega)]
        exact hJ.ci w hw hw7 b b1 b2
theorem OPR.us {A0 : Int → Int} {M0 N1 M N : am_M} {v : Nat} {r n : Int} (hJ : JX M0 A0 n) (h : OPR A0 M0 N1 v r M N) (hr : r = 1) (w : Nat) (hw : w < 12) (hwv : w ≠ v) (ht : thS M w) : usS M w ≤ M 8 w := by
  obtain ⟨h1, h2, h3⟩ := h
  rcases h3 with ⟨q, _⟩ | ⟨q, A, a1, a2, a3, a4, a5, a6, a7, a8⟩
  · omega
  · have e7 : M 7 = M0 7 := h1 7 (by decide) (by decide) (by decide) (by decide) (by decide)
    have ht0 : thS M0 w := ⟨ht.1, ht.2.1, by rw [← e7]; exact ht.2.2⟩
    have e : usS M w = usS M0 w := by
      unfold usS
      rw [if_pos ht, if_pos ht0, mu_um, mu_um]
      exact sm_congr 512 (fun a ha => by (try dsimp only); rw [a7 w hw hwv a (by omega)])
    rw [e, h1 8 (by decide) (by decide) (by decide) (by decide) (by decide)]
    exact hJ.2.1 w ht0
