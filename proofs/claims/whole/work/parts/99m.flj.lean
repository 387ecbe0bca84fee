/-! PARTS FOLDED: replaced in all places; fold -/
theorem rep_up (d : Nat) {A0 A : Int → Int} {M0 M : am_M} (hF : FR A0 M0 M A) {q o : Nat} {m : Int} (hm : 0 ≤ m ∧ m ≤ 1) (hT : TW M q o m) (hq : M 4 ((q : Int) + 96) ≠ 0) (N0 : am_M) : ∃ A', FR A0 M0 (hiS M ((q : Int) + 96) ((o : Int) + 96)) A' ∧ am_m am_P (d + 19) j_Md_replace [am_r 6 504, am_i (q : Int), am_i (o : Int)] (am_st N0 505 (wc A (M 4))) = some (none, am_st N0 505 (wc A' (hiS M ((q : Int) + 96) ((o : Int) + 96) 4))) := by
  obtain ⟨t1, t2, t3, t4, t5, t6, t7⟩ := id hT
  have hpi := hF.2.2.1
  have hkq : kndS (M 4) (M 5) ((q : Int) + 96) = m := by rw [knd_u t1 (by have := (hpi.bd ((q : Int) + 96)).1; omega)]; exact t4
  have hX : am_m am_P (d + 19) j_Md_replace [am_r 6 504, am_i (q : Int), am_i (o : Int)] (am_st N0 505 (wc A (M 4))) = am_at am_P (d + 18) j_Md_replace 0 [am_r 6 504, am_i (q : Int), am_i (o : Int), am_u, am_u, am_u] [] (am_st N0 505 (wc A (M 4))) := rfl
  rw [hX, E_Md_replace_0, S_Md_kindOf (d + 17) (by omega), bI_some, v_eq, st_eq, wc_k _ _ (by omega), (hpi.co q t1 hq).1, t4, v_eq]
  unfold hiS
  rw [hkq, wr_id (z := m + 1) (by omega) (by omega)]
  have key := lp_rl (F := fun u N => am_at am_P (d + 18) j_Md_replace 9 [am_r 6 504, am_i (q : Int), am_i (o : Int), am_i m, am_i (u - 96), am_u] [] N) (b := fun u N => if kndS (N 4) (N 5) u = m + 1 then hi1 ((q : Int) + 96) ((o : Int) + 96) u N else N) (r := fun N => some (none, N)) (fun _ M N => ∃ A, FR A0 M0 M A ∧ TW M q o m ∧ N = am_st N0 505 (wc A (M 4))) 160 96 M (am_st N0 505 (wc A (M 4))) ⟨A, hF, hT, rfl⟩ (fun N => by
    (try dsimp only)
    rw [E_Md_replace_9, if_neg (by omega), v_eq, E_Md_replace_89, if_pos (by omega), if_neg (by omega)]) (fun u M1 N1 u1 u2 hR => by
    obtain ⟨A1, hF1, hT1, rfl⟩ := hR
    (try dsimp only)
    obtain ⟨p, hp⟩ : ∃ p : Nat, u = (p : Int) + 96 := ⟨(u - 96).toNat, by omega⟩
    subst hp
    have hp160 : p < 160 := by omega
    have hpi1 := hF1.2.2.1
    have hb1 := (hpi1.bd ((p : Int) + 96)).1
    rw [show (p : Int) + 96 - 96 = p by omega, show (p : Int) + 96 + 1 - 96 = (p : Int) + 1 by omega, E_Md_replace_9, if_pos (by omega), if_pos (by omega), v_eq]
    by_cases hk : kndS (M1 4) (M1 5) ((p : Int) + 96) = m + 1
    · rw [if_pos hk]
      have hu : M1 4 ((p : Int) + 96) ≠ 0 := fun e => by rw [knd_0 (by omega)] at hk; omega
      rw [knd_u hp160 (by omega)] at hk
      unfold hi1
      have inner := lp_rl (F := fun k N => am_at am_P (d + 18) j_Md_replace 25 [am_r 6 504, am_i (q : Int), am_i (o : Int), am_i m, am_i (p : Int), am_i k] [] N) (b := fun k N => if atS (N 6) ((p : Int) + 96) k = (q : Int) + 96 then hangS N ((p : Int) + 96) k ((o : Int) + 96) else N) (r := fun N => am_at am_P (d + 18) j_Md_replace 9 [am_r 6 504, am_i (q : Int), am_i (o : Int), am_i m, am_i ((p : Int) + 1), am_u] [] N) (fun _ M N => ∃ A, FR A0 M0 M A ∧ TW M q o m ∧ M 4 ((p : Int) + 96) ≠ 0 ∧ N = am_st N0 505 (wc A (M 4))) 8 0 M1 (am_st N0 505 (wc A1 (M1 4))) ⟨A1, hF1, hT1, hu, rfl⟩ (fun N => by
        (try dsimp only)
        rw [E_Md_replace_25, if_neg (by omega), v_eq, wr_id (by omega) (by omega)]) (fun k M2 N2 k1 k2 hR2 => by
        obtain ⟨A2, hF2, hT2, hu2, rfl⟩ := hR2
        (try dsimp only)
        obtain ⟨j, hj⟩ : ∃ j : Nat, k = (j : Int) := ⟨k.toNat, by omega⟩
        subst hj
        have hj8 : j < 8 := by omega
        have hk2 : M2 5 p = m + 1 := by rw [hF2.1 5 (by decide) (by decide) (by decide), ← hF1.1 5 (by decide) (by decide) (by decide)]; exact hk
        have hpi2 := hF2.2.2.1
        obtain ⟨c1, c2⟩ := hpi2.co p hp160 hu2
        have hat : atS (M2 6) ((p : Int) + 96) j = M2 6 ((p : Int) * 8 + j) := by rw [at_in ⟨by omega, by omega⟩ ⟨by omega, by omega⟩, show (p : Int) + 96 - 96 = p by omega]
        rw [hat, E_Md_replace_25, if_pos (by omega), S_Md_isPart (d + 16), bI_some, b2_t ⟨by omega, by omega, by rw [st_eq, wc_p _ _ (by omega)]; exact hu2⟩, if_neg (by decide), S_Md_kindOf (d + 17) (by omega), bI_some, st_eq, wc_k _ _ (by omega), c1, hk2, wr_id (z := m + 1) (by omega) (by omega), if_pos rfl, S_Md_placeOf (d + 17) (by omega) (by omega), bI_some, st_eq, wc_l _ _ (by omega) (by omega), c2 j hj8, hk2, dec_T (by omega)]
        have hdq : decT (M2 6 ((p : Int) * 8 + j)) = (q : Int) ↔ M2 6 ((p : Int) * 8 + j) = (q : Int) + 96 := by
          unfold decT
          constructor
          · intro e
            by_cases h0 : M2 6 ((p : Int) * 8 + j) = -1
            · rw [if_pos h0] at e; omega
            · rw [if_neg h0] at e; omega
          · intro e
            rw [if_neg (by omega)]; omega
        by_cases hq2 : M2 6 ((p : Int) * 8 + j) = (q : Int) + 96
        · obtain ⟨A3, b1, b2', b3, b4⟩ := up_step (d + 10) hF2 hm hT2 hp160 hj8 hu2 hk2 hq2 N0
          rw [if_pos hq2, if_pos (hdq.mpr hq2), b4, bV_some, v_eq, wr_id (by omega) (by omega)]
          exact ⟨_, rfl, A3, b1, b2', b3, rfl⟩
        · rw [if_neg hq2, if_neg (fun e => hq2 (hdq.mp e)), v_eq, wr_id (by omega) (by omega)]
          exact ⟨_, rfl, A2, hF2, hT2, hu2, rfl⟩)
      obtain ⟨N3, f1, A3, f2, f3, f4, f5⟩ := inner
      exact ⟨N3, f1, A3, f2, f3, f5⟩
    · rw [if_neg hk]
      refine ⟨_, ?_, A1, hF1, hT1, rfl⟩
      rw [E_Md_replace_25, if_pos (by omega), S_Md_isPart (d + 16), bI_some]
      by_cases hu : M1 4 ((p : Int) + 96) = 0
      · rw [b2_f (fun q => q.2.2 (by rw [st_eq, wc_p _ _ (by omega)]; exact hu)), if_pos rfl, v_eq, wr_id (by omega) (by omega)]
      · rw [knd_u hp160 (by omega)] at hk
        rw [b2_t ⟨by omega, by omega, by rw [st_eq, wc_p _ _ (by omega)]; exact hu⟩, if_neg (by decide), S_Md_kindOf (d + 17) (by omega), bI_some, st_eq, wc_k _ _ (by omega), (hpi1.co p hp160 hu).1, wr_id (z := m + 1) (by omega) (by omega), if_neg hk, v_eq, wr_id (by omega) (by omega)])
  obtain ⟨N', f1, A', f2, f3, rfl⟩ := key
  rw [show (96 : Int) - 96 = 0 by omega] at f1
  exact ⟨A', f2, f1⟩
theorem tr_step (d : Nat) {A0 A : Int → Int} {M0 M : am_M} (hF : FR A0 M0 M A) {q o : Nat} (hT : TW M q o 2) {v : Nat} (hv : thS M v) (htr : M 10 v = (q : Int) + 96) (N0 : am_M) : ∃ A', FR A0 M0 (hgTS M v ((o : Int) + 96)) A' ∧ TW (hgTS M v ((o : Int) + 96)) q o 2 ∧ am_m am_P (d + 6) j_Md_hangTrunk [am_r 6 504, am_i (v : Int), am_i (o : Int)] (am_st N0 505 (wc A (M 4))) = some (none, am_st N0 505 (wc A' (hgTS M v ((o : Int) + 96) 4))) := by
  obtain ⟨h1, h2, h3, h4, h5, h6, h7, h8⟩ := id hF
  obtain ⟨t1, t2, t3, t4, t5, t6, t7⟩ := hT
  have hv12 : v < 12 := by have := hv.2.1; omega
  have hb0 := fun x => h3.bd x
  have hdec : decT ((o : Int) + 96) = o := by unfold decT; rw [if_neg (by omega)]; omega
  obtain ⟨w1, w2⟩ := h4 v hv12
  obtain ⟨g1, g2⟩ := trunk_hang h3 hv12 (x := (o : Int) + 96) (Or.inr ⟨by omega, by omega, t6⟩) w1 (w2 hv.2.2) d N0
  rw [hdec, htr] at g1 g2
  have hpure := hgTS_pure M hv ((o : Int) + 96) (fun y => by have := hb0 y; omega)
  have er : rs (M 4) ((o : Int) + 96) = am_up (M 4) ((o : Int) + 96) (M 4 ((o : Int) + 96) + 1) := if_pos ⟨by omega, by omega⟩
  rw [htr] at hpure
  have e4 : hgTS M v ((o : Int) + 96) 4 = (LGc (M 6) 4 (rs (M 4) ((o : Int) + 96)) ((q : Int) + 96)).2 := by rw [hpure, st_eq]
  have e10 : hgTS M v ((o : Int) + 96) 10 = am_up (M 10) v ((o : Int) + 96) := by rw [hpure, st_ne _ _ (by decide), st_eq]
  have eo : ∀ k : Nat, k ≠ 4 → k ≠ 10 → hgTS M v ((o : Int) + 96) k = M k := fun k k4 k10 => by rw [hpure, st_ne _ _ k4, st_ne _ _ k10]
  have hz' : ∀ x : Int, M 4 x = 0 → hgTS M v ((o : Int) + 96) 4 x = 0 := fun x hx => by
    rw [e4]
    refine LGc_z' (c := M 4) g2 ?_
    rw [er, up_ne _ _ (fun e => by rw [e] at hx; exact t6 hx)]
    exact hx
  have hKW : KW (am_up (M 4) ((o : Int) + 96) (M 4 ((o : Int) + 96) + 1)) (M 5) (M 6) := h3.kw.mono (fun z hz h0 => by
    by_cases e : (z : Int) + 96 = (o : Int) + 96
    · rw [e]; exact t6
    · rwa [up_ne _ _ e] at h0)
  have hhi := fun x x1 x2 x3 x4 => LGc_hi hKW 4 2 (am_up (M 4) ((o : Int) + 96) (M 4 ((o : Int) + 96) + 1)) ((q : Int) + 96) (fun _ => Int.le_refl _) (Or.inr (Or.inr ⟨by omega, by omega, by rw [show (q : Int) + 96 - 96 = q by omega]; omega⟩)) x x1 x2 x3 x4
  rw [← er, ← e4] at hhi
  have hsame : ∀ i : Int, atS (M 6) ((o : Int) + 96) i = atS (M 6) ((q : Int) + 96) i := by
    intro i
    by_cases hi : 0 ≤ i ∧ i < 8
    · obtain ⟨j, hj⟩ : ∃ j : Nat, i = (j : Int) := ⟨i.toNat, by omega⟩
      subst hj
      rw [at_in ⟨by omega, by omega⟩ hi, at_in ⟨by omega, by omega⟩ hi, show (o : Int) + 96 - 96 = o by omega, show (q : Int) + 96 - 96 = q by omega]
      exact t7 j (by omega)
    · rw [at_out hi, at_out hi]
  refine ⟨am_up A (1796 + 9 * (v : Int) + 4) o, ⟨fun r r4 r6 r10 => by rw [eo r r4 r10, h1 r r4 r6 r10], fun y hy hne => by rw [up_ne _ _ (hne v hv12), h2 y hy hne], ?_, fun u hu12 => ?_, ?_, fun x hx => hz' x (h6 x hx), fun w hw a a1 a2 => ?_, fun u hu h0 => ?_⟩, ⟨t1, t2, t3, by rw [eo 5 (by decide) (by decide)]; exact t4, by rw [eo 5 (by decide) (by decide)]; exact t5, ?_, by rw [eo 6 (by decide) (by decide)]; exact t7⟩, ?_⟩
  · rw [e4, e10, eo 5 (by decide) (by decide), eo 6 (by decide) (by decide)]; exact g2
  · rw [e10, eo 5 (by decide) (by decide), eo 7 (by decide) (by decide)]
    by_cases e : u = v
    · subst e
      rw [up_eq, up_eq]
      exact ⟨Or.inr ⟨by omega, by omega, by rw [show (o : Int) + 96 - 96 = o by omega]; exact t5⟩, fun _ => hdec.symm⟩
    · rw [up_ne _ _ (by omega), up_ne _ _ (by omega)]
      exact h4 u hu12
  · exact RB_mono h5 (eo 3 (by decide) (by decide)) (fun y _ _ => up_ne _ _ (by omega)) (fun x _ _ => hz' x)
  · rw [eo 6 (by decide) (by decide), e10]
    by_cases e : w = v
    · subst e
      have : ct (M 6) (am_up (M 10) w ((o : Int) + 96)) w a = ct (M 6) (M 10) w a := by
        unfold ct
        rw [up_eq, htr, hsame]
      rw [this]
      exact h7 w hw a a1 a2
    · have : ct (M 6) (am_up (M 10) v ((o : Int) + 96)) w a = ct (M 6) (M 10) w a := by
        unfold ct
        rw [up_ne _ _ (by omega)]
      rw [this]
      exact h7 w hw a a1 a2
  · rw [e10]
    by_cases e : u = v
    · subst e
      have h77 := hv.2.2
      rw [h1 7 (by decide) (by decide) (by decide)] at h77
      omega
    · rw [up_ne _ _ (by omega)]
      exact h8 u hu h0
  · rw [hhi _ (by omega) (by omega) (by rw [show (o : Int) + 96 - 96 = o by omega]; omega) (by omega), er, up_eq]
    have := hb0 ((o : Int) + 96)
    omega
  · rw [g1, e4]
theorem rep_tr (d : Nat) {A0 A : Int → Int} {M0 M : am_M} {n : Int} (hJ : JX M0 A0 n) (hF : FR A0 M0 M A) {q o : Nat} (hT : TW M q o 2) (hq : M 4 ((q : Int) + 96) ≠ 0) (N0 : am_M) : ∃ A', FR A0 M0 (htS M ((q : Int) + 96) ((o : Int) + 96)) A' ∧ am_m am_P (d + 19) j_Md_replace [am_r 6 504, am_i (q : Int), am_i (o : Int)] (am_st N0 505 (wc A (M 4))) = some (none, am_st N0 505 (wc A' (htS M ((q : Int) + 96) ((o : Int) + 96) 4))) := by
  obtain ⟨t1, t2, t3, t4, t5, t6, t7⟩ := id hT
  have hpi := hF.2.2.1
  have hX : am_m am_P (d + 19) j_Md_replace [am_r 6 504, am_i (q : Int), am_i (o : Int)] (am_st N0 505 (wc A (M 4))) = am_at am_P (d + 18) j_Md_replace 0 [am_r 6 504, am_i (q : Int), am_i (o : Int), am_u, am_u, am_u] [] (am_st N0 505 (wc A (M 4))) := rfl
  rw [hX, E_Md_replace_0, S_Md_kindOf (d + 17) (by omega), bI_some, v_eq, st_eq, wc_k _ _ (by omega), (hpi.co q t1 hq).1, t4, v_eq, E_Md_replace_9, if_pos (by omega), if_neg (by omega), v_eq]
  unfold htS
  obtain ⟨N', f1, A', f2, f3, rfl⟩ := lp_rl (F := fun v N => am_at am_P (d + 18) j_Md_replace 89 [am_r 6 504, am_i (q : Int), am_i (o : Int), am_i 2, am_i v, am_u] [] N) (b := fun v N => if N 10 v = (q : Int) + 96 then hgTS N v ((o : Int) + 96) else N) (r := fun N => some (none, N)) (fun _ M N => ∃ A, FR A0 M0 M A ∧ TW M q o 2 ∧ N = am_st N0 505 (wc A (M 4))) 12 0 M (am_st N0 505 (wc A (M 4))) ⟨A, hF, hT, rfl⟩ (fun N => by
    (try dsimp only)
    rw [E_Md_replace_89, if_neg (by omega)]) (fun v' M1 N1 v1 v2 hR => by
    obtain ⟨A1, hF1, hT1, rfl⟩ := hR
    (try dsimp only)
    obtain ⟨v, hv⟩ : ∃ v : Nat, v' = (v : Int) := ⟨v'.toNat, by omega⟩
    subst hv
    have hMV := (FR.jx hJ hF1).1.mv
    have hV1 := hF1.2.2.2.1
    have hnone : M1 7 v = 0 → M1 10 v = -1 := (hMV.2 v (by omega) (by omega)).1.2.2.2
    have hs7 := (hMV.2 v (by omega) (by omega)).1.1
    rw [E_Md_replace_89, if_pos (by omega), if_pos rfl, R_isVolume (d + 16) hMV v (M1 4) N0, bI_some]
    by_cases hth : thS M1 v
    · have hA := (hV1 v (by omega)).2 hth.2.2
      rw [b2_t hth, if_neg (by decide), R_get (d + 17) (by omega) (by omega), bI_some, hA]
      have hdq : decT (M1 10 v) = (q : Int) ↔ M1 10 v = (q : Int) + 96 := by
        unfold decT
        constructor
        · intro e
          by_cases h0 : M1 10 v = -1
          · rw [if_pos h0] at e; omega
          · rw [if_neg h0] at e; omega
        · intro e
          rw [if_neg (by omega)]; omega
      by_cases hq2 : M1 10 v = (q : Int) + 96
      · obtain ⟨A3, b1, b2', b3⟩ := tr_step (d + 12) hF1 hT1 hth hq2 N0
        rw [if_pos hq2, if_pos (hdq.mpr hq2), b3, bV_some, v_eq, wr_id (by omega) (by omega)]
        exact ⟨_, rfl, A3, b1, b2', rfl⟩
      · rw [if_neg hq2, if_neg (fun e => hq2 (hdq.mp e)), v_eq, wr_id (by omega) (by omega)]
        exact ⟨_, rfl, A1, hF1, hT1, rfl⟩
    · have h7 : M1 7 v = 0 := by
        have : ¬ 0 < M1 7 v := fun e => hth ⟨by omega, by omega, e⟩
        omega
      rw [b2_f hth, if_pos rfl, v_eq, wr_id (by omega) (by omega), hnone h7, if_neg (by omega)]
      exact ⟨_, rfl, A1, hF1, hT1, rfl⟩)
  exact ⟨A', f2, f1⟩
theorem fd_kind (d : Nat) {A0 A : Int → Int} {M0 M : am_M} {n : Int} (hJ : JX M0 A0 n) (hF : FR A0 M0 M A) {m : Int} (hm : 0 ≤ m ∧ m ≤ 2) (N0 : am_M) (a1 : Int) : ∃ A', FR A0 M0 (jpS m M) A' ∧ am_at am_P (d + 19 + 1) j_Md_fold 26 [am_r 6 504, am_i a1, am_i m, am_u, am_u] [] (am_st N0 505 (wc A (M 4))) = am_at am_P (d + 19 + 1) j_Md_fold 26 [am_r 6 504, am_i a1, am_i (m + 1), am_u, am_u] [] (am_st N0 505 (wc A' (jpS m M 4))) := by
  rw [E_Md_fold_26, if_neg (by omega), v_eq]
  unfold jpS
  have key := lp_rl (F := fun t N => am_at am_P (d + 19 + 1) j_Md_fold 33 [am_r 6 504, am_i a1, am_i m, am_i (t - 96), am_u] [] N) (b := fun t N => if kndS (N 4) (N 5) t = m then (if ltS N t = -1 then N else if m = 2 then htS N t (ltS N t) else hiS N t (ltS N t)) else N) (r := fun N => am_at am_P (d + 19 + 1) j_Md_fold 26 [am_r 6 504, am_i a1, am_i (m + 1), am_u, am_u] [] N) (fun _ M N => ∃ A, FR A0 M0 M A ∧ N = am_st N0 505 (wc A (M 4))) 160 96 M (am_st N0 505 (wc A (M 4))) ⟨A, hF, rfl⟩ (fun N => by
    (try dsimp only)
    rw [E_Md_fold_33, if_neg (by omega), v_eq, wr_id (by omega) (by omega)]) (fun t M1 N1 u1 u2 hR => by
    obtain ⟨A1, hF1, rfl⟩ := hR
    (try dsimp only)
    obtain ⟨p, hp⟩ : ∃ p : Nat, t = (p : Int) + 96 := ⟨(t - 96).toNat, by omega⟩
    subst hp
    have hp160 : p < 160 := by omega
    have hpi1 := hF1.2.2.1
    have hb := fun x => (hpi1.bd x).1
    have hb1 := hb ((p : Int) + 96)
    rw [show (p : Int) + 96 - 96 = p by omega, show (p : Int) + 96 + 1 - 96 = (p : Int) + 1 by omega, E_Md_fold_33, if_pos (by omega), S_Md_isPart (d + 18), bI_some]
    by_cases hu : M1 4 ((p : Int) + 96) = 0
    · rw [b2_f (fun q => q.2.2 (by rw [st_eq, wc_p _ _ (by omega)]; exact hu)), if_pos rfl, v_eq, if_pos rfl, v_eq, wr_id (by omega) (by omega), if_neg (by rw [knd_0 (by omega)]; omega)]
      exact ⟨_, rfl, A1, hF1, rfl⟩
    · rw [b2_t ⟨by omega, by omega, by rw [st_eq, wc_p _ _ (by omega)]; exact hu⟩, if_neg (by decide), S_Md_kindOf (d + 19) (by omega), bI_some, st_eq, wc_k _ _ (by omega), (hpi1.co p hp160 hu).1]
      have hkp := knd_u (M := M1) hp160 (by omega)
      by_cases hk : M1 5 p = m
      · rw [if_pos hk, if_pos (hkp.trans hk), R_likePart (d + 17) hpi1 hp160 hu (st_eq _ _ _), bI_some, v_eq]
        have hlt := fd_spec (p := fun i => kndS (M1 4) (M1 5) i = kndS (M1 4) (M1 5) ((p : Int) + 96) ∧ smeS M1 i ((p : Int) + 96)) (dp := fun _ => inferInstance) ((p : Int) + 96 - 96).toNat 96
        have hlt' : (ltS M1 ((p : Int) + 96) = -1) ∨ (96 ≤ ltS M1 ((p : Int) + 96) ∧ ltS M1 ((p : Int) + 96) < (p : Int) + 96 ∧ kndS (M1 4) (M1 5) (ltS M1 ((p : Int) + 96)) = kndS (M1 4) (M1 5) ((p : Int) + 96) ∧ smeS M1 (ltS M1 ((p : Int) + 96)) ((p : Int) + 96)) := by
          rcases hlt with ⟨e, _⟩ | ⟨e1, e2, e3, _⟩
          · exact Or.inl e
          · exact Or.inr ⟨e1, Int.lt_of_lt_of_le e2 (by omega), e3.1, e3.2⟩
        generalize ltS M1 ((p : Int) + 96) = w at hlt' ⊢
        rcases hlt' with e | ⟨w1, w2, w3, w4⟩
        · rw [e, if_pos (show decT (-1) = -1 from rfl), if_pos rfl, v_eq, wr_id (by omega) (by omega)]
          exact ⟨_, rfl, A1, hF1, rfl⟩
        · obtain ⟨o, ho⟩ : ∃ o : Nat, w = (o : Int) + 96 := ⟨(w - 96).toNat, by omega⟩
          subst ho
          have hbo := hb ((o : Int) + 96)
          have huo : M1 4 ((o : Int) + 96) ≠ 0 := fun e => by rw [knd_0 (by omega), hkp] at w3; omega
          rw [hkp, knd_u (by omega) (by omega), hk] at w3
          have hdec : decT ((o : Int) + 96) = o := by unfold decT; rw [if_neg (by omega)]; omega
          have hTW : TW M1 p o m := ⟨hp160, by omega, by omega, hk, w3, huo, fun j hj => by
            have := w4 j hj
            rw [at_in ⟨by omega, by omega⟩ ⟨by omega, by omega⟩, at_in ⟨by omega, by omega⟩ ⟨by omega, by omega⟩, show (o : Int) + 96 - 96 = o by omega, show (p : Int) + 96 - 96 = p by omega] at this
            exact this⟩
          rw [hdec, if_neg (by omega), if_neg (by omega)]
          by_cases h2 : m = 2
          · subst h2
            obtain ⟨A3, b1, b2'⟩ := rep_tr (d + 1) hJ hF1 hTW hu N0
            rw [if_pos rfl, show d + 19 + 1 = d + 1 + 19 by omega, b2', bV_some, v_eq, wr_id (by omega) (by omega)]
            exact ⟨_, rfl, A3, b1, rfl⟩
          · obtain ⟨A3, b1, b2'⟩ := rep_up (d + 1) hF1 (show 0 ≤ m ∧ m ≤ 1 by omega) hTW hu N0
            rw [if_neg h2, show d + 19 + 1 = d + 1 + 19 by omega, b2', bV_some, v_eq, wr_id (by omega) (by omega)]
            exact ⟨_, rfl, A3, b1, rfl⟩
      · rw [if_neg hk, if_neg (fun e => hk (hkp.symm.trans e)), v_eq, if_pos rfl, v_eq, wr_id (by omega) (by omega)]
        exact ⟨_, rfl, A1, hF1, rfl⟩)
  obtain ⟨N', f1, A', f2, rfl⟩ := key
  rw [show (96 : Int) - 96 = 0 by omega] at f1
  exact ⟨A', f2, f1⟩
theorem fd_loop (d : Nat) {A0 : Int → Int} {M0 : am_M} {n : Int} (hJ : JX M0 A0 n) (N0 : am_M) (a1 : Int) : ∃ A, FR A0 M0 (jpS 2 (jpS 1 (jpS 0 M0))) A ∧ am_at am_P (d + 19 + 1) j_Md_fold 26 [am_r 6 504, am_i a1, am_i 0, am_u, am_u] [] (am_st N0 505 (wc A0 (M0 4))) = am_bI (am_m am_P (d + 19 + 1) j_Md_partsOf [am_r 6 504, am_i (-1)] (am_st N0 505 (wc A (jpS 2 (jpS 1 (jpS 0 M0)) 4)))) fun x2 M1 => some (some (am_i (am_wr (a1 - x2))), M1) := by
  obtain ⟨A1, f1, g1⟩ := fd_kind d hJ (FR.init hJ) (m := 0) (by omega) N0 a1
  obtain ⟨A2, f2, g2⟩ := fd_kind d hJ f1 (m := 1) (by omega) N0 a1
  obtain ⟨A3, f3, g3⟩ := fd_kind d hJ f2 (m := 2) (by omega) N0 a1
  refine ⟨A3, f3, ?_⟩
  rw [g1]
  refine g2.trans (g3.trans ?_)
  rw [E_Md_fold_26, if_pos (by omega)]
theorem J_fold (d : Nat) {M : am_M} {n : Int} (hG : GR M n) : AG M (n + 1) (am_m am_P (d + 21) j_Tv_fold [am_r 5 0] M) (am_m am_P (d + 21) j_Md_fold [am_r 6 504]) := by
  have hX : am_m am_P (d + 21) j_Tv_fold [am_r 5 0] M = am_at am_P (d + 20) j_Tv_fold 0 [am_r 5 0, am_u, am_u] [] M := rfl
  have hY : ∀ N, am_m am_P (d + 21) j_Md_fold [am_r 6 504] N = am_at am_P (d + 20) j_Md_fold 0 [am_r 6 504, am_u, am_u, am_u, am_u] [] N := fun _ => rfl
  unfold AG
  rw [hX, E_Tv_fold_0]
  simp only [hY, E_Md_fold_0, Nat.reduceAdd]
  rcases snd_both (d + 15) (d + 16) hG with ⟨M', o1, o2, o3⟩ | ⟨M', A, o1, o2, o3, o4, o5, o6⟩
  · obtain ⟨w, N', e1, e0, e2⟩ := o3 M' (o2 505 (by decide))
    rw [o1, bI_some, if_pos rfl]
    refine ⟨_, _, N', rfl, ?_, RF.gr hG (by omega) (fun k hk => o2 k (by omega)) e2⟩
    rw [e1, bI_some, if_neg e0]
  · rw [o1, bI_some, if_neg (by decide)]
    obtain ⟨q, hq, hq2⟩ := o3.q
    obtain ⟨b0, hJ0⟩ := kp_beg o3 o5 hq (fun _ _ _ => rfl)
    obtain ⟨Az, hFz, -⟩ := fd_loop d hJ0 M' 0
    have hm : ∀ k : Nat, k ≠ 4 → k ≠ 6 → k ≠ 10 → jpS 2 (jpS 1 (jpS 0 (csS q 1 M'))) k = csS q 1 M' k := hFz.1
    have eb1 : am_m am_P (d + 20) j_Po_usedParts [am_r 2 2] (csS q 1 M') = some (some (am_i (nz (fun i => M' 4 (i + 96)) 160)), csS q 1 M') := by
      have := S_Po_usedParts (d + 19) 2 (csS q 1 M')
      rw [show (2 : Nat) + 2 = 4 from rfl, b0 4 (by omega)] at this
      exact this
    have ej : ∀ a1 : Int, am_at am_P (d + 20) j_Tv_fold 26 [am_r 5 0, am_i a1, am_i 0] [] (csS q 1 M') = am_bV (am_m am_P (d + 20) j_Tv_keepStep [am_r 5 0] (jpS 2 (jpS 1 (jpS 0 (csS q 1 M'))))) fun M1 => am_bI (am_m am_P (d + 20) j_Po_usedParts [am_r 2 2] M1) fun x3 M2 => some (some (am_i (am_wr (a1 - x3))), M2) := by
      intro a1
      rw [E_Tv_fold_26, if_neg (by omega)]
      simp only [Nat.reduceAdd]
      rw [S_St_joinLikeParts (d + 11), bV_some, v_eq, show am_wr (0 + 1) = 1 from rfl, E_Tv_fold_26, if_neg (by omega)]
      simp only [Nat.reduceAdd]
      rw [S_St_joinLikeParts (d + 11), bV_some, v_eq, show am_wr (1 + 1) = 2 from rfl, E_Tv_fold_26, if_neg (by omega)]
      simp only [Nat.reduceAdd]
      rw [S_St_joinLikeParts (d + 11), bV_some, v_eq, show am_wr (2 + 1) = 3 from rfl, E_Tv_fold_26, if_pos (by omega)]
    have hloop := fun (A1 : Int → Int) (hA : ∀ y : Int, 2 ≤ y → y < 1904 → A1 y = A y) (N0 : am_M) (a1 : Int) => fd_loop d (kp_beg o3 o5 hq hA).2 N0 a1
    generalize jpS 2 (jpS 1 (jpS 0 (csS q 1 M'))) = M2 at hm ej hloop
    obtain ⟨k1, -, -, -, -⟩ := keep_fin (d + 17) o3 o4 hq (M2 := M2) (fun k hk _ => hm k (by omega) (by omega) (by omega))
    obtain ⟨-, k2, k3, k4, k5⟩ := keep_fin (d + 18) o3 o4 hq (M2 := M2) (fun k hk _ => hm k (by omega) (by omega) (by omega))
    have eb2 : am_m am_P (d + 20) j_Po_usedParts [am_r 2 2] (ksS M2) = some (some (am_i (nz (fun i => M2 4 (i + 96)) 160)), ksS M2) := by
      have := S_Po_usedParts (d + 19) 2 (ksS M2)
      rw [show (2 : Nat) + 2 = 4 from rfl, k3 4 (by omega)] at this
      exact this
    rw [k1, bV_some, eb1, bI_some, v_eq, v_eq, ej, k2, bV_some, eb2, bI_some]
    obtain ⟨N', e1, e2⟩ := o6 (ksS M2) (by rw [k4 505 (by omega) (by omega), o2 505 (by decide)])
    obtain ⟨N1, N2, A1, n1, n2, n3, n4, n5, n6, n7⟩ := k5 N' e2
    have hN5 : N' 505 = wc A (M' 4) := by rw [e2.1 505 (by omega), k4 505 (by omega) (by omega)]; exact o4
    have rb1 : am_m am_P (d + 20) j_Md_partsOf [am_r 6 504, am_i (-1)] N' = some (some (am_i (nz (fun i => M' 4 (i + 96)) 160)), N') := by rw [S_Md_partsOf (d + 18), hN5, nzp_wc A (M' 4) (fun y => (o5.1.pi.bd y).1)]
    obtain ⟨A3, f1, f2⟩ := hloop A1 n6 N2 (nz (fun i => M' 4 (i + 96)) 160)
    have hJ2 := FR.jx (kp_beg o3 o5 hq n6).2 f1
    have h511 : M2 1 11 = 0 ∨ M2 1 11 = 1 := by rw [hm 1 (by decide) (by decide) (by decide), b0 1 (by omega)]; exact o3.2.fl
    have hfin := n7 (am_st N2 505 (wc A3 (M2 4))) A3 (st_eq _ _ _) (fun y hy => f1.2.1 y (by omega) (fun v hv => by omega)) (fun k hk => st_ne _ _ (by omega)) (by rw [st_ne _ _ (by decide)]) (by rw [st_ne _ _ (by decide)]) (SR.of hJ2 h511)
    have rb2 : am_m am_P (d + 20) j_Md_partsOf [am_r 6 504, am_i (-1)] (am_st N2 505 (wc A3 (M2 4))) = some (some (am_i (nz (fun i => M2 4 (i + 96)) 160)), am_st N2 505 (wc A3 (M2 4))) := by rw [S_Md_partsOf (d + 18), st_eq, nzp_wc A3 (M2 4) (fun y => (hJ2.1.pi.bd y).1)]
    refine ⟨_, _, am_st N2 505 (wc A3 (M2 4)), rfl, ?_, hfin.1, fun k hk => by rw [hfin.2 k hk, o2 k (by omega)]⟩
    rw [b0 4 (by omega), ← n5, st_self] at f2
    rw [e1, bI_some, if_pos rfl, rb1, bI_some, v_eq, n1, bV_some, n2, bV_some, v_eq]
    refine Eq.trans f2 ?_
    rw [rb2, bI_some]
