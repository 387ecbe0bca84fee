/-! MENDED -/
theorem me_sp (M : am_M) {c : Int → Int} (hc : ∀ t, TA t → cpS 503 M 503 t = c t) (ho : ∀ k : Nat, k ≠ 503 → cpS 503 M k = M k) : (meS 503 M).1 = sm (fun t => if M 4 t = c t then 0 else 1) 256 ∧ (∀ t, TA t → (meS 503 M).2 4 t = c t) ∧ (∀ t, ¬ TA t → (meS 503 M).2 4 t = M 4 t) ∧ ∀ k : Nat, k ≠ 4 → k ≠ 503 → (meS 503 M).2 k = M k := by
  obtain ⟨n, hn⟩ : ∃ n : Nat, n = 256 := ⟨_, rfl⟩
  obtain ⟨K, hK⟩ : ∃ K, K = cpS 503 M := ⟨_, rfl⟩
  rw [← hK] at hc ho
  have key := it_inv (σ := Int × am_M) (b := fun t s => (if s.2 4 t = s.2 503 t then s.1 else s.1 + 1, am_set s.2 4 t (s.2 503 t))) (fun i s => ∃ j : Nat, i = (j : Int) ∧ j ≤ 256 ∧ s.1 = sm (fun t => if M 4 t = c t then 0 else 1) j ∧ (∀ t : Int, 0 ≤ t → t < j → s.2 4 t = c t) ∧ (∀ t : Int, ¬ (0 ≤ t ∧ t < j) → s.2 4 t = M 4 t) ∧ (∀ t, TA t → s.2 503 t = c t) ∧ ∀ k : Nat, k ≠ 4 → k ≠ 503 → s.2 k = M k) n 0 (0, K) ⟨0, rfl, by omega, rfl, fun t h1 h2 => by omega, fun t _ => by (try dsimp only); rw [ho 4 (by decide)], hc, fun k _ k3 => ho k k3⟩ (fun i s i1 i2 hs => by
    obtain ⟨j, rfl, hj, h1, h2, h3, h4, h5⟩ := hs
    have hT : TA (j : Int) := ⟨by omega, by omega⟩
    have e4 : s.2 4 j = M 4 j := h3 j (by omega)
    have e5 : s.2 503 j = c j := h4 j hT
    refine ⟨j + 1, by omega, by omega, ?_, fun t t1 t2 => ?_, fun t ht => ?_, fun t ht => ?_, fun k k4 k5 => ?_⟩
    · (try dsimp only)
      rw [e4, e5, h1]
      show _ = sm (fun t => if M 4 t = c t then 0 else 1) j + (if M 4 (j : Int) = c j then 0 else 1)
      by_cases h : M 4 (j : Int) = c j
      · rw [if_pos h, if_pos h, Int.add_zero]
      · rw [if_neg h, if_neg h]
    · (try dsimp only)
      rw [set_eq]
      by_cases e : t = (j : Int)
      · rw [e, up_eq, e5]
      · rw [up_ne _ _ e]; exact h2 t t1 (by omega)
    · (try dsimp only)
      rw [set_eq, up_ne _ _ (by omega)]
      exact h3 t (by omega)
    · (try dsimp only)
      rw [set_ne _ _ _ (by decide)]; exact h4 t ht
    · (try dsimp only)
      rw [set_ne _ _ _ k4]; exact h5 k k4 k5)
  obtain ⟨j, hj, hj2, h1, h2, h3, h4, h5⟩ := key
  have : j = 256 := by omega
  subst this
  have e : itS (fun t (s : Int × am_M) => (if s.2 4 t = s.2 503 t then s.1 else s.1 + 1, am_set s.2 4 t (s.2 503 t))) n 0 (0, K) = meS 503 M := by rw [hn, hK]; rfl
  rw [e] at h1 h2 h3 h4 h5
  exact ⟨h1, fun t ht => h2 t ht.1 (by have := ht.2; omega), fun t ht => h3 t (fun q => ht ⟨q.1, by omega⟩), h5⟩
theorem R_isWB (d : Nat) {M : am_M} {A1 c : Int → Int} {n : Int} (hP : SP M c) {N : am_M} {i : Int} (hi : 0 ≤ i ∧ i < 96) (h5 : N 505 (5 + 2 * i) = M 4 i) (h8 : N 508 i = c i) : am_m am_P (d + 2) j_Md_isWrongBlock [am_r 6 504, am_i i] N = some (some (am_i (b2 (¬ M 4 i = c i))), N) := by
  show am_at am_P (d + 1) j_Md_isWrongBlock 0 [am_r 6 504, am_i i] [] N = _
  obtain ⟨p1, p2, p3⟩ := hP.2.1 i hi.1 hi.2
  rw [E_Md_isWrongBlock_0, S_Md_blockCount d hi, bI_some, h5]
  simp only [if_ot, if_to]
  by_cases h0 : M 4 i = 0
  · rw [if_pos h0, b2_f (fun q => q (by rw [h0, p3.mp h0]))]
  · rw [if_neg h0, S_Md_blockCount d hi, bI_some, h5, if_t hi]
    simp only [Nat.reduceAdd]
    rw [h8]
    by_cases h3 : M 4 i = c i
    · rw [if_pos h3, b2_f (fun q => q h3)]
    · rw [if_neg h3, b2_t h3]
theorem J_mend (d : Nat) {M : am_M} {n : Int} (hG : GR M n) : AG M (n + 1) (am_m am_P (d + 20) j_Tv_mend [am_r 5 0] M) (am_m am_P (d + 20) j_Md_mend [am_r 6 504]) := by
  have hX : am_m am_P (d + 20) j_Tv_mend [am_r 5 0] M = am_at am_P (d + 19) j_Tv_mend 0 [am_r 5 0, am_u] [] M := rfl
  have hY : ∀ N, am_m am_P (d + 20) j_Md_mend [am_r 6 504] N = am_at am_P (d + 19) j_Md_mend 0 [am_r 6 504, am_u, am_u] [] N := fun _ => rfl
  obtain ⟨A, c, hR, hJ, hP⟩ := hG.sr
  obtain ⟨u1, u2, u3⟩ := hJ.un
  obtain ⟨q, hq, hq2⟩ := hG.q
  have hqr := isB_rng (show isB (q : Int) by rw [← hq]; exact hG.1.1.1)
  have b0 : ∀ k : Nat, k ≤ 14 → csS q 1 M k = M k := fun k hk => cs_off _ _ _ (by omega)
  obtain ⟨c1, c2⟩ := cp_sp 503 (by decide) (csS q 1 M)
  have hcz : ∀ y, ¬ TA y → c y = 0 := fun y hy => by have := hJ.1.pi.zo y hy; rw [st_eq] at this; exact this
  obtain ⟨e1, e2, e3, e4⟩ := me_sp (csS q 1 M) (c := c) (fun t ht => by rw [c2 t ht, b0 4 (by omega), b0 6 (by omega), b0 10 (by omega), hP.cnt hJ ht]) c1
  rw [b0 4 (by omega)] at e1 e3
  obtain ⟨m, hm⟩ : ∃ m, m = meS 503 (csS q 1 M) := ⟨_, rfl⟩
  rw [← hm] at e1 e2 e3 e4
  have m4 : m.2 4 = c := by
    funext t
    by_cases ht : TA t
    · exact e2 t ht
    · rw [e3 t ht]; exact hP.1 t (fun q => ht ⟨q.1, by omega⟩)
  obtain ⟨M2, hM2⟩ : ∃ M2, M2 = am_set m.2 1 11 0 := ⟨_, rfl⟩
  have n4 : M2 4 = c := by rw [hM2, set_ne _ _ _ (by decide), m4]
  have n1' : M2 1 = am_up (M 1) 11 0 := by rw [hM2, set_eq, e4 1 (by decide) (by decide), b0 1 (by omega)]
  have no : ∀ k : Nat, k ≠ 1 → k ≠ 4 → k ≠ 503 → M2 k = csS q 1 M k := fun k k1 k4 k5 => by rw [hM2, set_ne _ _ _ k1, e4 k k4 k5]
  obtain ⟨k1, -, -, -, -⟩ := keep_fin (d + 16) hG hR hq (M2 := M2) (fun k hk hk' => no k (by omega) (by omega) hk')
  obtain ⟨-, k2, k3, k4, k5⟩ := keep_fin (d + 17) hG hR hq (M2 := M2) (fun k hk hk' => no k (by omega) (by omega) hk')
  have hcls : am_m am_P (d + 20) j_Tv_mend [am_r 5 0] M = some (some (am_i m.1), ksS M2) := by
    rw [hX, E_Tv_mend_0, k1, bV_some]
    simp only [Nat.reduceAdd]
    rw [S_St_mendCounts (d + 15) 503, bI_some, v_eq]
    simp only [if_ot, w_eq]
    rw [← hm, ← hM2, k2, bV_some]
  obtain ⟨N1, N2, A1, n1, n2, n3, n4', n5, n6, n7⟩ := k5 (ksS M2) (RF_rfl _)
  have hJ1 : JX (am_st (csS q 1 M) 4 c) A1 n := hJ.congr (Int.le_refl _) (EQ_of (fun k k1 k2 => by
    by_cases e : k = 4
    · rw [e, st_eq, st_eq]
    · rw [st_ne _ _ e, st_ne _ _ e, b0 k k2])) (fun y hy => by rw [st_eq]; exact hcz y hy) n6
  obtain ⟨w1, w2, w3⟩ := hJ1.un
  have hJ2 : JX M2 A1 (n + 1) := by
    -- cells beyond the state count for nothing
    have hE : JX (am_st (am_st (csS q 1 M) 4 c) 503 (M2 503)) A1 n := hJ1.congr (Int.le_refl _) (EQ_of (fun k k1 k2 => st_ne _ _ (by omega))) (fun y hy => by rw [st_ne _ _ (by decide), st_eq]; exact hcz y hy) (fun _ _ _ => rfl)
    have eo : ∀ k : Nat, k ≠ 1 → M2 k = am_st (am_st (csS q 1 M) 4 c) 503 (M2 503) k := fun k h1 => by
      by_cases e : k = 503
      · rw [e, st_eq]
      · rw [st_ne _ _ e]
        by_cases e' : k = 4
        · rw [e', st_eq, n4]
        · rw [st_ne _ _ e', no k h1 e' e]
    have e11 : M2 1 = am_up (am_st (am_st (csS q 1 M) 4 c) 503 (M2 503) 1) 11 0 := by rw [n1', st_ne _ _ (by decide), st_ne _ _ (by decide), b0 1 (by omega)]
    generalize am_st (am_st (csS q 1 M) 4 c) 503 (M2 503) = X at hE eo e11
    refine hE.meta (fun k h1 _ _ => eo k h1) (by rw [e11, up_ne _ _ (by decide)]) ?_ (fun _ _ _ _ => rfl) (fun _ _ => rfl) (fun v hv => by rw [eo 8 (by decide)]; exact hE.2.1 v hv)
    obtain ⟨⟨t1, t2, t3⟩, t4⟩ := hE.1.mv
    refine ⟨⟨by rw [e11, up_ne _ _ (by decide)]; exact t1, by rw [e11, up_ne _ _ (by decide)]; exact t2, by rw [e11, up_ne _ _ (by decide)]; exact t3⟩, fun u u0 u12 => ?_⟩
    obtain ⟨a1, a5⟩ := t4 u u0 u12
    rw [eo 7 (by decide), eo 10 (by decide)]
    refine ⟨a1, fun h7 => ?_⟩
    have := a5 h7
    unfold VD at this ⊢
    rw [eo 7 (by decide), eo 8 (by decide), eo 9 (by decide), eo 11 (by decide), eo 12 (by decide), eo 13 (by decide), eo 14 (by decide)]
    exact this
  -- the reference
  have hlay : am_m am_P (d + 19) j_Md_layPlaces [am_r 6 504] N2 = some (none, mem2 N2 (lyS c (M 6) (M 10) (N2 508, N2 509))) := S_Md_layPlaces (d + 16) (M := M) (A := A1) (c := c) (ex := fun _ => 0) (by rw [b0 5 (by omega), b0 6 (by omega), b0 10 (by omega)] at w1; exact w1) (fun v hv => by
    have := w2 v hv
    rw [b0 10 (by omega), b0 5 (by omega), b0 7 (by omega)] at this
    exact this) (by
    unfold MV VD at w3 ⊢
    rw [b0 1 (by omega), b0 7 (by omega), b0 8 (by omega), b0 9 (by omega), b0 10 (by omega), b0 11 (by omega), b0 12 (by omega), b0 13 (by omega), b0 14 (by omega)] at w3
    exact w3) (fun t ht => hP.1 t (by omega)) n5
  have hl := fun t ht => SP.lay hJ (s := (N2 508, N2 509)) (t := t) ht
  generalize lyS c (M 6) (M 10) (N2 508, N2 509) = s at hlay hl
  obtain ⟨ci, hci⟩ : ∃ ci : Nat → Int → Int, ci = fun (i : Nat) (t : Int) => if 0 ≤ t ∧ t < (i : Int) then c t else M 4 t := ⟨_, rfl⟩
  have hrow : ∀ (i : Nat), i ≤ 96 → ∀ m' : Int, m' = sm (fun t => if M 4 t = c t then 0 else 1) i → am_at am_P (d + 19) j_Md_mend 16 [am_r 6 504, am_i m', am_i (i : Int)] [] (am_st (mem2 N2 s) 505 (wc A1 (ci i))) = am_at am_P (d + 19) j_Md_mend 16 [am_r 6 504, am_i (sm (fun t => if M 4 t = c t then 0 else 1) 96), am_i 96] [] (am_st (mem2 N2 s) 505 (wc A1 (ci 96))) := by
    intro i hi
    obtain ⟨k, hk⟩ : ∃ k : Nat, i + k = 96 := ⟨96 - i, by omega⟩
    induction k generalizing i with
    | zero =>
      intro m' hm'
      have : i = 96 := by omega
      subst this
      rw [hm', show ((96 : Nat) : Int) = 96 from rfl]
    | succ k ih =>
      intro m' hm'
      have hir : 0 ≤ (i : Int) ∧ (i : Int) < 96 := by omega
      have hb := sm_bd (f := fun t => if M 4 t = c t then 0 else 1) (c := 1) i (fun k _ => by (try dsimp only); split <;> omega)
      have hpi := hP.2.1 i hir.1 hir.2
      have hci0 : ci i i = M 4 i := by rw [hci]; exact if_neg (by omega)
      have h5 : am_st (mem2 N2 s) 505 (wc A1 (ci i)) 505 (5 + 2 * (i : Int)) = M 4 i := by rw [st_eq, wc_b _ _ hir, hci0, if_neg (by omega)]
      have h8 : am_st (mem2 N2 s) 505 (wc A1 (ci i)) 508 i = c i := by
        rw [st_ne _ _ (by decide), mem2_8]
        have := hl i ⟨hir.1, by omega⟩
        unfold lyV at this
        rw [if_pos hir.2] at this
        exact this
      have hs : ci (i + 1) = am_up (ci i) i (c i) := by
        funext t
        rw [hci]
        (try dsimp only)
        by_cases e : t = (i : Int)
        · rw [e, up_eq, if_pos (by omega)]
        · rw [up_ne _ _ e]
          by_cases h : 0 ≤ t ∧ t < i
          · rw [if_pos h, if_pos (by omega)]
          · rw [if_neg h, if_neg (by omega)]
      have hnext := ih (i + 1) (by omega) (by omega) (sm (fun t => if M 4 t = c t then 0 else 1) (i + 1)) rfl
      have es : sm (fun t => if M 4 t = c t then 0 else 1) (i + 1) = sm (fun t => if M 4 t = c t then 0 else 1) i + (if M 4 (i : Int) = c i then 0 else 1) := rfl
      rw [es, show ((i + 1 : Nat) : Int) = (i : Int) + 1 by omega] at hnext
      rw [E_Md_mend_16, if_pos hir.2, R_isWB (d + 17) (A1 := A1) (n := n) hP hir h5 h8, bI_some]
      simp only [b2_0]
      by_cases h3 : M 4 (i : Int) = c i
      · rw [if_pos (fun q => q h3), v_eq, wr_id (by omega) (by omega), hm']
        rw [if_pos h3, Int.add_zero, hs, ← h3, ← hci0, up_self] at hnext
        exact hnext
      · have hc0 := (u1.bd i).1
        rw [if_neg (fun q => q h3), S_Md_valueOf (d + 18) hir, bI_some, if_t hir]
        simp only [Nat.reduceAdd]
        rw [h8, S_Md_letBlock (d + 18) hir, bV_some, st_eq, up_self, wc_upB _ _ hir (x := c i) (y := c i) (by rw [if_neg (by omega)]), st_st, ← hs, v_eq, v_eq, wr_id (z := m' + 1) (by omega) (by omega), wr_id (z := (i : Int) + 1) (by omega) (by omega), hm']
        rw [if_neg h3] at hnext
        exact hnext
  have hc96 : ci 96 = c := by
    funext t
    rw [hci]
    (try dsimp only)
    by_cases h : 0 ≤ t ∧ t < ((96 : Nat) : Int)
    · rw [if_pos h]
    · rw [if_neg h]; exact hP.1 t h
  have hc0 : ci 0 = M 4 := by funext t; rw [hci]; exact if_neg (by omega)
  have hparts : ∀ m' : Int, am_at am_P (d + 19) j_Md_mend 60 [am_r 6 504, am_i m', am_i 0] [] (am_st (mem2 N2 s) 505 (wc A1 c)) = some (some (am_i m'), am_st (mem2 N2 s) 505 (wc A1 c)) := fun m' => by
    have key := lp_it (σ := Unit) (F := fun i _ => am_at am_P (d + 19) j_Md_mend 60 [am_r 6 504, am_i m', am_i i] [] (am_st (mem2 N2 s) 505 (wc A1 c))) (b := fun _ u => u) (r := fun _ => some (some (am_i m'), am_st (mem2 N2 s) 505 (wc A1 c))) 160 0 () (fun _ => by
      try dsimp only
      rw [E_Md_mend_60, if_neg (by omega)]) (fun i _ h1 h2 => by
      try dsimp only
      have e : am_m am_P (d + 19) j_Md_isWrongPart [am_r 6 504, am_i i] (am_st (mem2 N2 s) 505 (wc A1 c)) = some (some (am_i 0), am_st (mem2 N2 s) 505 (wc A1 c)) := by
        show am_at am_P (d + 18) j_Md_isWrongPart 0 [am_r 6 504, am_i i] [] (am_st (mem2 N2 s) 505 (wc A1 c)) = _
        have hi : 0 ≤ i ∧ i < 160 := by omega
        rw [E_Md_isWrongPart_0, S_Md_partCount (d + 17) hi, bI_some, st_eq, wc_p _ _ hi]
        simp only [if_ot, if_to]
        by_cases h0 : c (i + 96) = 0
        · rw [if_pos h0]
        · have := hl (i + 96) ⟨by omega, by omega⟩
          unfold lyV at this
          rw [if_neg (by omega), show i + 96 - 96 = i by omega] at this
          rw [if_neg h0, S_Md_partCount (d + 17) hi, bI_some, st_eq, wc_p _ _ hi, if_t hi]
          simp only [Nat.reduceAdd]
          rw [st_ne _ _ (by decide), mem2_9, this, if_pos rfl]
      rw [E_Md_mend_60, if_pos (by omega), e, bI_some, if_pos rfl, v_eq, wr_id (by omega) (by omega)])
    exact key
  have hsum : sm (fun t => if M 4 t = c t then 0 else 1) 256 = sm (fun t => if M 4 t = c t then 0 else 1) 96 := by
    have := sm_add (fun t => if M 4 t = c t then 0 else 1) 96 160
    rw [show 96 + 160 = 256 from rfl] at this
    rw [this, sm_zero 160 (fun i hi => by (try dsimp only); exact if_pos (hP.1 _ (by omega)))]
    omega
  have hfin := n7 (am_st (mem2 N2 s) 505 (wc A1 c)) A1 (by rw [st_eq, n4]) (fun _ _ => rfl) (fun k hk => by rw [st_ne _ _ (by omega), mem2_o _ _ (by omega) (by omega)]) (by rw [st_ne _ _ (by decide), mem2_o _ _ (by decide) (by decide)]) (by rw [st_ne _ _ (by decide), mem2_o _ _ (by decide) (by decide)]) (SR.of hJ2 (by rw [n1', up_eq]; exact Or.inl rfl))
  refine ⟨_, ksS M2, _, hcls, ?_, hfin⟩
  have h00 := hrow 0 (by omega) 0 rfl
  rw [hc0, hc96, ← n5] at h00
  have hN2 : am_st (mem2 N2 s) 505 (N2 505) = mem2 N2 s := by
    have e : mem2 N2 s 505 = N2 505 := mem2_o _ _ (by decide) (by decide)
    rw [← e, st_self]
  rw [hN2] at h00
  rw [hY, E_Md_mend_0, n1 (d + 18), bV_some, n2 (d + 17), bV_some, hlay, bV_some, v_eq, v_eq]
  rw [show ((0 : Nat) : Int) = 0 from rfl] at h00
  rw [h00, E_Md_mend_16, if_neg (by decide), v_eq, hparts, e1, hsum]
