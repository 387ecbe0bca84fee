/-! OPEN TO HAND, BEGUN, SETTLED: class and reference -/
/-- the reference's cells behind its beginning, M the memory the class left -/
def BN (M N : am_M) : Prop := (∀ k : Nat, (k ≤ 494 ∨ (501 ≤ k ∧ k ≤ 503) ∨ k = 505 ∨ k = 506 ∨ 517 ≤ k) → N k = M k) ∧ (∀ j : Int, 0 ≤ j → j < 1902 → N 507 j = M 505 (j + 2)) ∧ N 504 2 = 0
/-- the reference's cells where nothing of the state was touched -/
def RF (M N : am_M) : Prop := (∀ k : Nat, (k ≤ 503 ∨ k = 505 ∨ k = 506 ∨ 513 ≤ k) → N k = M k) ∧ N 504 13 = M 504 13 ∧ N 504 16 = M 504 16
theorem RF_rfl (M : am_M) : RF M M := ⟨fun _ _ => rfl, rfl, rfl⟩
theorem RF.trans {M N K : am_M} (h : RF M N) (h' : RF N K) : RF M K := ⟨fun k hk => (h'.1 k hk).trans (h.1 k hk), h'.2.1.trans h.2.1, h'.2.2.trans h.2.2⟩
theorem RF.mem2 (N : am_M) (s : (Int → Int) × (Int → Int)) : RF N (mem2 N s) := ⟨fun k hk => mem2_o _ _ (by omega) (by omega), by rw [mem2_o _ _ (by decide) (by decide)], by rw [mem2_o _ _ (by decide) (by decide)]⟩
theorem R_begin (d : Nat) {M N : am_M} (h : RF M N) : ∃ N', am_m am_P (d + 1) j_Md_begin [am_r 6 504] N = some (none, N') ∧ BN M N' ∧ (∀ k : Nat, (k ≤ 503 ∨ k = 506 ∨ 513 ≤ k) → N' k = N k) ∧ ∀ j : Int, j ≠ 2 → N' 504 j = N 504 j := by
  refine ⟨_, S_Md_begin d N, ⟨fun k hk => ?_, fun j j1 j2 => ?_, ?_⟩, fun k hk => ?_, fun j hj => ?_⟩
  · rw [set_ne _ _ _ (by omega), st_ne _ _ (by omega), h.1 k (by omega)]
  · rw [set_ne _ _ _ (by decide), st_eq, cpF_in (by omega), h.1 505 (by omega)]; congr 1; omega
  · rw [set_eq, up_eq]
  · rw [set_ne _ _ _ (by omega), st_ne _ _ (by omega)]
  · rw [set_eq, up_ne _ _ hj, st_ne _ _ (by decide)]
/-- a change of the state that could be done, or not: r whether, M2 the class's memory, N2 the reference's -/
def DN (A : Int → Int) (M2 N1 N2 : am_M) (r : Int) (n : Int) : Prop :=
  (r = 0 ∧ ∃ R : Int → Int, N2 = am_set (am_st N1 505 R) 504 2 1 ∧ ∀ y : Int, (y < 2 ∨ 1904 ≤ y) → R y = A y) ∨
  (r = 1 ∧ ∃ A' : Int → Int, N2 = am_st N1 505 (wc A' (M2 4)) ∧ (∀ y : Int, (y < 2 ∨ 1904 ≤ y) → A' y = A y) ∧ JY M2 A' n)
theorem R_back (d : Nat) {A : Int → Int} {M M3 N1 N2 : am_M} {R : Int → Int} (hb : BN M3 N1) (h5 : M3 505 = M 505) (hA : ∀ y : Int, (y < 2 ∨ 1904 ≤ y) → M 505 y = A y) (h2 : ∀ k : Nat, k ≠ 504 → k ≠ 505 → N2 k = N1 k) (hR : N2 505 = R) (hRA : ∀ y : Int, (y < 2 ∨ 1904 ≤ y) → R y = A y) :
    ∃ N', am_m am_P (d + 1) j_Md_bringBack [am_r 6 504] N2 = some (none, N') ∧ N' 505 = M 505 ∧ (∀ k : Nat, k ≠ 505 → N' k = N2 k) := by
  refine ⟨_, S_Md_bringBack d N2, ?_, fun k hk => st_ne _ _ hk⟩
  rw [st_eq]
  funext y
  by_cases hy : 2 ≤ y ∧ y < 1904
  · rw [cpF_in (by omega), h2 507 (by decide) (by decide), hb.2.1 _ (by omega) (by omega), h5]; congr 1; omega
  · rw [cpF_out (by omega), hR, hRA y (by omega), hA y (by omega)]
theorem al_iff {M : am_M} {v : Nat} (hv : thS M v) (ho : ∀ w : Nat, w < 12 → w ≠ v → thS M w → usS M w ≤ M 8 w) : alS M ↔ (usS M v ≤ M 8 v ∧ sm (hfS M) 12 ≤ 96 - nz (M 4) 96) := by
  constructor
  · rintro ⟨h1, h2⟩
    exact ⟨h1 v hv, h2⟩
  · rintro ⟨h1, h2⟩
    refine ⟨fun w hw => ?_, h2⟩
    obtain ⟨u, hu⟩ : ∃ u : Nat, w = (u : Int) := ⟨w.toNat, by have := hw.1; omega⟩
    subst hu
    by_cases e : u = v
    · rw [e]; exact h1
    · exact ho u (by have := hw.2.1; omega) e hw
theorem JX.row {M : am_M} {A : Int → Int} (h : M 505 = wc A (M 4)) (y : Int) (hy : y < 2 ∨ 1904 ≤ y) : M 505 y = A y := by rw [h, wc_o _ _ (by omega)]
/-- the class settles; the reference ends -/
theorem settle_fin (d e : Nat) {M : am_M} {n n' : Int} (hG : GR M n) (hn : n ≤ n') {A : Int → Int} (hJ : JX M A n) (hR : M 505 = wc A (M 4)) {q : Nat} (hq : M 0 1 = (q : Int)) {M2 : am_M} {r : Int} (hM2 : ∀ k : Nat, (k = 0 ∨ 15 ≤ k) → M2 k = csS q 1 M k) (hz : OZ M M2) (h11 : M2 1 11 = M 1 11) {v : Nat} (hv : thS M2 v) (hr : r = 1 → MV M2 A ∨ ∃ A', MV M2 A') (hr01 : r = 0 ∨ r = 1) (ho : r = 1 → ∀ w : Nat, w < 12 → w ≠ v → thS M2 w → usS M2 w ≤ M2 8 w) :
    ∃ (b : Int) (M3 : am_M), am_m am_P (d + 8) j_Tv_settle [am_r 5 0, am_i r] M2 = some (some (am_i b), M3) ∧ (b = 0 ∨ b = 1) ∧ (∀ k : Nat, 495 ≤ k → M3 k = M k) ∧
      ∀ N1 N2 : am_M, BN M3 N1 → DN A M2 N1 N2 r n' → ∃ M6, am_m am_P (e + 7) j_Md_end [am_r 6 504, am_i v] N2 = some (some (am_i b), M6) ∧ GX M6 n' ∧ (∀ k : Nat, k ≠ 504 → k ≠ 505 → M6 k = N1 k) ∧ ∀ j : Int, j ≠ 2 → M6 504 j = N1 504 j := by
  have hqB : isB (q : Int) := by rw [← hq]; exact hG.1.1.1
  have hqr := isB_rng hqB
  have hoff : ∀ k : Nat, (k = 0 ∨ 15 ≤ k) → (k < q ∨ q + 13 < k) → M2 k = M k := fun k k1 k2 => by rw [hM2 k k1, cs_off _ _ _ k2]
  have h20 : M2 0 = M 0 := hoff 0 (by omega) (by omega)
  have hhi : ∀ k : Nat, 255 ≤ k → M2 k = M k := fun k hk => hoff k (by omega) (by omega)
  have hz2 : ∀ x, ¬ TA x → M2 4 x = 0 := fun x hx => by rw [hz x hx]; exact hJ.1.pi.zo x hx
  have hX : am_m am_P (d + 8) j_Tv_settle [am_r 5 0, am_i r] M2 = am_at am_P (d + 7) j_Tv_settle 0 [am_r 5 0, am_i r] [] M2 := rfl
  have hqf : M2 q 11 = 0 ∨ M2 q 11 = 1 := by
    rw [hM2 q (by omega)]
    have e := (cs_EQ (r0 := q) (r1 := 1) (by omega) M).2.2.2.2.2.2.2
    have e' : csS q 1 M q 11 = M 1 11 := e
    rw [e']
    exact hG.2.fl
  have hMA := JX.row hR
  -- going back
  have hback : am_m am_P (d + 7) j_St_copyFrom [am_r 4 1, am_r 4 q] M2 = some (none, csS 1 q M2) ∧ (∀ k : Nat, 495 ≤ k → csS 1 q M2 k = M k) ∧ ∀ N1 N2 : am_M, BN (csS 1 q M2) N1 → (∀ k : Nat, k ≠ 504 → k ≠ 505 → N2 k = N1 k) → (∀ j : Int, j ≠ 2 → N2 504 j = N1 504 j) → (∀ y : Int, (y < 2 ∨ 1904 ≤ y) → N2 505 y = A y) → ∃ M6, am_m am_P (e + 6) j_Md_bringBack [am_r 6 504] N2 = some (none, M6) ∧ GX M6 n' ∧ (∀ k : Nat, k ≠ 504 → k ≠ 505 → M6 k = N1 k) ∧ ∀ j : Int, j ≠ 2 → M6 504 j = N1 504 j := by
    have hk : ∀ k : Nat, 495 ≤ k → csS 1 q M2 k = M k := fun k hk => by rw [cs_off _ _ _ (by omega), hhi k (by omega)]
    refine ⟨S_St_copyFrom (d + 5) M2 (by omega) hqf, hk, fun N1 N2 hb h2 h4 h5 => ?_⟩
    obtain ⟨N', n1, n2, n3⟩ := R_back (e + 5) (M := M) hb (hk 505 (by omega)) hMA h2 rfl h5
    have n3' : ∀ k : Nat, k ≠ 504 → k ≠ 505 → N' k = N1 k := fun k k4 k5 => by rw [n3 k k5, h2 k k4 k5]
    refine ⟨N', n1, ?_, n3', fun j hj => by rw [n3 504 (by decide), h4 j hj]⟩
    refine GX.back hG hn hq hM2 hz2 (fun k hk' => by rw [n3' k (by omega) (by omega), hb.1 k (by omega)]) n2 ?_
    rw [n3' 506 (by decide) (by decide), hb.1 506 (by omega), hk 506 (by omega)]
  obtain ⟨hb1, hb2, hb3⟩ := hback
  rw [hX, E_Tv_settle_0]
  simp only [Nat.reduceAdd, if_ot, if_to]
  have e0 : (M2 0 1).toNat = q := by rw [h20, hq, Int.toNat_natCast]
  rcases hr01 with r0 | r1
  · rw [if_pos r0, e0, hb1, bV_some]
    refine ⟨0, _, rfl, Or.inl rfl, hb2, fun N1 N2 hb hd => ?_⟩
    rcases hd with ⟨_, R, d1, d2⟩ | ⟨d1, _⟩
    · have hE : am_m am_P (e + 7) j_Md_end [am_r 6 504, am_i (v : Int)] N2 = am_at am_P (e + 6) j_Md_end 0 [am_r 6 504, am_i (v : Int)] [] N2 := rfl
      have h22 : N2 504 2 = 1 := by rw [d1, set_eq, up_eq]
      obtain ⟨M6, m1, m2, m3, m4⟩ := hb3 N1 N2 hb (fun k k4 k5 => by rw [d1, set_ne _ _ _ k4, st_ne _ _ k5]) (fun j hj => by rw [d1, set_eq, up_ne _ _ hj, st_ne _ _ (by decide)]) (fun y hy => by rw [d1, set_ne _ _ _ (by decide), st_eq]; exact d2 y hy)
      refine ⟨M6, ?_, m2, m3, m4⟩
      rw [hE, E_Md_end_0, S_Md_isRight_s (e + 5) _ h22, bI_some, if_pos rfl, m1, bV_some]
      simp only [if_ot, if_to]
    · omega
  · rw [if_neg (by omega)]
    have hMV : ∃ A', MV M2 A' := by
      rcases hr r1 with h | h
      · exact ⟨_, h⟩
      · exact h
    obtain ⟨Am, hMV⟩ := hMV
    rw [S_St_isAllowed d M2 (fun w hw => (hMV.vd hw).2.2.2.2.2.2.2.2.2.1), bI_some]
    have hiff := al_iff hv (ho r1)
    by_cases hal : alS M2
    · rw [bc_t hal, if_neg (by decide), S_Tv_keepStep (d + 5) M2 (by rw [hoff 29 (by omega) (by omega)]; exact hG.1.2.1.1.1), bV_some]
      have hks := ks_spec (M := M2) (by unfold BQ; rw [h20, hoff 30 (by omega) (by omega)]; exact hG.1.1) (by rw [hoff 29 (by omega) (by omega)]; exact hG.1.2.1.1)
      have hk : ∀ k : Nat, 495 ≤ k → ksS M2 k = M k := fun k hk => by rw [hks.1 k (by omega) (by omega) (by omega), hhi k (by omega)]
      refine ⟨1, _, rfl, Or.inr rfl, hk, fun N1 N2 hb hd => ?_⟩
      rcases hd with ⟨d1, _⟩ | ⟨_, A', d1, d2, d3⟩
      · omega
      · have hE : am_m am_P (e + 7) j_Md_end [am_r 6 504, am_i (v : Int)] N2 = am_at am_P (e + 6) j_Md_end 0 [am_r 6 504, am_i (v : Int)] [] N2 := rfl
        have hright := S_Md_isRight e d3.pi d3.rv d3.mv hv (N := N1) hb.2.2
        rw [← d1, b2_t (hiff.mp hal)] at hright
        have h505 : N2 505 = wc A' (M2 4) := by rw [d1, st_eq]
        have h2k : ∀ k : Nat, k ≠ 505 → N2 k = N1 k := fun k hk => by rw [d1, st_ne _ _ hk]
        have hlow : ∀ y : Int, (y < 2 ∨ 1904 ≤ y) → N2 505 y = M 505 y := fun y hy => by rw [h505, wc_o _ _ (by omega), d2 y hy, hMA y hy]
        have c1 := hG.1.2.1
        have hs0 : 0 ≤ N2 505 0 ∧ N2 505 0 ≤ 16 := by rw [hlow 0 (by omega), c1.2.1]; exact c1.1
        have hs1 : 0 ≤ N2 505 1 ∧ N2 505 1 < 16 := by rw [hlow 1 (by omega)]; exact c1.2.2.1
        obtain ⟨R, q1', q2, q3, q4, q5, q6⟩ := S_Md_keep N2 hs0 hs1
        have q1 := q1' (e + 4)
        have eF : kpF (N2 505) = kpF (M 505) := by unfold kpF; rw [hlow 0 (by omega), hlow 1 (by omega)]
        have eS : kpS (N2 505) = kpS (M 505) := by unfold kpS; rw [hlow 0 (by omega)]
        rw [eF, eS] at q5 q6
        rw [eS] at q2
        rw [eF] at q3
        have hN1 : ∀ k : Nat, k ≤ 494 → N1 k = ksS M2 k := fun k hk => hb.1 k (by omega)
        refine ⟨am_st N2 505 R, ?_, ?_, fun k _ hk' => by rw [st_ne _ _ hk', h2k k hk'], fun j _ => by rw [st_ne _ _ (by decide), h2k 504 (by decide)]⟩
        · rw [hE, E_Md_end_0, hright, bI_some, if_neg (by decide), q1, bV_some]
          simp only [if_ot, if_to]
        · refine GX.kept hG hn hq (fun k hk _ => hM2 k hk) (fun k hk' => by rw [st_ne _ _ (by omega), h2k k (by omega), hN1 k hk']) ?_ ?_ ?_
          · rw [st_eq]
            have hS : SS M2 (wc A' (M2 4)) n' := SS.of (SR.of ⟨d3, hal⟩ (by rw [h11]; exact hG.2.fl))
            refine hS.congr (Int.le_refl _) (EQ_rfl _) hz2 (fun y y1 y2 => ?_)
            rw [q4 y y1 y2, h505]
          · rw [st_eq]
            refine ⟨q2, q3, fun k k1 k2 => ?_, fun j k j1 j2 j3 k1 k2 => ?_⟩
            · rw [q5 k k1 k2, h2k 507 (by decide), hb.2.1 k k1 k2, hk 505 (by omega)]
            · rw [q6 j k j1 j2 j3 k1 k2, hlow _ (by omega)]
          · rw [st_ne _ _ (by decide), h2k 506 (by decide), hb.1 506 (by omega), hk 506 (by omega)]
    · rw [bc_f hal, if_pos rfl, e0, hb1, bV_some]
      refine ⟨0, _, rfl, Or.inl rfl, hb2, fun N1 N2 hb hd => ?_⟩
      rcases hd with ⟨d1, _⟩ | ⟨_, A', d1, d2, d3⟩
      · omega
      · have hE : am_m am_P (e + 7) j_Md_end [am_r 6 504, am_i (v : Int)] N2 = am_at am_P (e + 6) j_Md_end 0 [am_r 6 504, am_i (v : Int)] [] N2 := rfl
        have hright := S_Md_isRight e d3.pi d3.rv d3.mv hv (N := N1) hb.2.2
        rw [← d1, b2_f (fun q => hal (hiff.mpr q))] at hright
        obtain ⟨M6, m1, m2, m3, m4⟩ := hb3 N1 N2 hb (fun k _ k5 => by rw [d1, st_ne _ _ k5]) (fun j hj => by rw [d1, st_ne _ _ (by decide)]) (fun y hy => by rw [d1, st_eq, wc_o _ _ (by omega)]; exact d2 y hy)
        refine ⟨M6, ?_, m2, m3, m4⟩
        rw [hE, E_Md_end_0, hright, bI_some, if_pos rfl, m1, bV_some]
        simp only [if_ot, if_to]
