/-! TOLD: needs -/
theorem nzp_wc (A c : Int → Int) (hc : ∀ x, 0 ≤ c x) : sm (fun p => if ¬ wc A c (197 + 10 * p) = 0 ∧ ((-1 : Int) = -1 ∨ wc A c (196 + 10 * p) = -1) then 1 else 0) 160 = nz (fun i => c (i + 96)) 160 := by
  unfold nz
  refine sm_congr 160 (fun p hp => ?_)
  (try dsimp only)
  rw [wc_p _ _ (by omega)]
  have := hc ((p : Int) + 96)
  by_cases h : c ((p : Int) + 96) = 0
  · rw [if_neg (fun q => q.1 h), if_neg (by omega)]
  · rw [if_pos ⟨h, Or.inl rfl⟩, if_pos (by omega)]
theorem nzp_congr {c c' : Int → Int} (h : ∀ j : Int, 0 ≤ j → j < 256 → c' j = c j) : nz (fun i => c' (i + 96)) 160 = nz (fun i => c (i + 96)) 160 := sm_congr 160 (fun b hb => by simp only [h ((b : Int) + 96) (by omega) (by omega)])
theorem J_needs (d : Nat) {M : am_M} {n : Int} (hG : GR M n) (v a x wh : Int) : AG M (n + 1) (am_m am_P (d + 20) j_Tv_needs [am_r 5 0, am_i v, am_i a, am_i x, am_i wh] M) (am_m am_P (d + 20) j_Md_needs [am_r 6 504, am_i v, am_i a, am_i x, am_i wh]) := by
  have hX : am_m am_P (d + 20) j_Tv_needs [am_r 5 0, am_i v, am_i a, am_i x, am_i wh] M = am_at am_P (d + 19) j_Tv_needs 0 [am_r 5 0, am_i v, am_i a, am_i x, am_i wh, am_u, am_u] [] M := rfl
  have hY : ∀ N, am_m am_P (d + 20) j_Md_needs [am_r 6 504, am_i v, am_i a, am_i x, am_i wh] N = am_at am_P (d + 19) j_Md_needs 0 [am_r 6 504, am_i v, am_i a, am_i x, am_i wh, am_u, am_u, am_u] [] N := fun _ => rfl
  unfold AG
  rw [hX, E_Tv_needs_0]
  simp only [hY, E_Md_needs_0, Nat.reduceAdd]
  rcases opn_both (d + 13) (d + 14) hG v with ⟨M', o1, o2, o3⟩ | ⟨M', A, o1, o2, o3, o4, o5, o6, o7, o8⟩
  · obtain ⟨N', e1, e2⟩ := o3 M' (o2 505 (by decide))
    rw [o1, bI_some, if_pos rfl]
    refine ⟨_, _, N', rfl, ?_, RF.gr hG (by omega) (fun k hk => o2 k (by omega)) e2⟩
    rw [e1, bI_some, if_pos rfl]
  · obtain ⟨N', e1, e2⟩ := o8 M' (o2 505 (by decide))
    have hN5 : N' 505 = wc A (M' 4) := by rw [e2.1 505 (by omega)]; exact o4
    have hno := RF.gr (n' := n + 1) hG (by omega) (fun k hk => o2 k (by omega)) e2
    rw [o1, bI_some, if_neg (by decide), S_Tv_isInside, bI_some]
    by_cases ha : thS M' v ∧ 0 ≤ a ∧ a < M' 7 v
    · rw [b2_t ha, if_neg (by decide), S_Tv_isValue, bI_some]
      by_cases hx : 0 ≤ x ∧ x < 1000000
      · rw [b2_t hx, if_neg (by decide)]
        by_cases hw : 0 ≤ wh ∧ wh ≤ 1
        · rw [if_neg (by omega), if_neg (by omega)]
          obtain ⟨q, hq, hq2⟩ := o3.q
          obtain ⟨w, hw'⟩ : ∃ w : Nat, v = (w : Int) := ⟨v.toNat, by have := o6.1; omega⟩
          subst hw'
          have hqB : isB (q : Int) := by rw [← hq]; exact o3.1.1.1
          have hqr := isB_rng hqB
          have hs := (o5.1.mv.2 w o6.1 o6.2.1).1
          have e0 : ∀ k : Nat, k < q → csS q 1 M' k = M' k := fun k hk => cs_off _ _ _ (by omega)
          have hw12 : w < 12 := by have := o6.2.1; omega
          have ev1 : thS (csS q 1 M') w := ⟨o6.1, o6.2.1, by rw [e0 7 (by omega)]; exact o6.2.2⟩
          have hJ1 : JX (csS q 1 M') A n := o5.congr (Int.le_refl _) (EQ_of (fun k k1 k2 => e0 k (by omega))) (fun y hy => by rw [e0 4 (by omega)]; exact o5.1.pi.zo y hy) (fun _ _ _ => rfl)
          have hop : ∀ N1 : am_M, N1 505 = wc A (M' 4) → ∃ N2, (am_m am_P (d + 19) j_Md_writeNow [am_r 6 504, am_i (w : Int), am_i a, am_i x] N1 = some (none, N2)) ∧ ((puS (csS q 1 M') w a x).1 = 0 ∨ (puS (csS q 1 M') w a x).1 = 1) ∧ OPR A (csS q 1 M') N1 w (puS (csS q 1 M') w a x).1 (puS (csS q 1 M') w a x).2 N2 := fun N1 h5 => by
            have hi := OPR.init (N1 := N1) hJ1.1 ev1 (by rw [e0 4 (by omega)]; exact h5)
            exact hi.step hw12 (a := a) (by rw [e0 7 (by omega)]; exact ha.2.2) (by rw [e0 7 (by omega)]; exact hs.1) (f := am_m am_P (d + 19) j_Md_writeNow [am_r 6 504, am_i (w : Int), am_i a, am_i x]) (fun A1 p1 p2 p3 p4 => put_both (d + 9) (by omega) (by omega) N1 p1 p2 p3 ev1 (by rw [p4, e0 1 (by omega)]; exact o5.1.mv.1.1)) (OZ_pu _ _ _ _) (fun A1 p1 p2 p3 u hu b hb hub => put_ct (by omega) p1 p2 ev1 p3 hu hb hub)
          rw [S_Tv_begin (d + 16) M' hq (by omega) o3.2.fl, bV_some, S_St_put (d + 10), bI_some]
          obtain ⟨Nz, -, hr01, hO⟩ := hop M' o4
          have f1 := hO.1
          have hOZ := hO.2.1
          have hdn1 := (hO.dn hJ1.1 ev1).2
          have hus1 := fun (q1 : (puS (csS q 1 M') w a x).1 = 1) => hO.us hJ1 q1
          generalize hr : (puS (csS q 1 M') w a x).1 = r at hr01 hdn1 hop hus1 ⊢
          generalize hM2 : (puS (csS q 1 M') w a x).2 = M2 at f1 hOZ hdn1 hop hus1 ⊢
          have hM2c : ∀ k : Nat, (k = 0 ∨ 15 ≤ k) → M2 k = csS q 1 M' k := fun k hk => f1 k (by omega) (by omega) (by omega) (by omega) (by omega)
          have h20 : M2 0 = M' 0 := by rw [hM2c 0 (by omega), e0 0 (by omega)]
          have eq0 : (M2 0 1).toNat = q := by rw [h20, hq, Int.toNat_natCast]
          have hhi : ∀ k : Nat, 255 ≤ k → M2 k = M' k := fun k hk => by rw [hM2c k (by omega), cs_off _ _ _ (by omega)]
          have hz2 : ∀ y, ¬ TA y → M2 4 y = 0 := fun y hy => by rw [hOZ y hy, e0 4 (by omega)]; exact o5.1.pi.zo y hy
          have hEQ := cs_EQ (r0 := q) (r1 := 1) (by omega) M'
          have hq4 : ∀ j : Int, 0 ≤ j → j < 256 → M2 (q + 3) j = M' 4 j := fun j j1 j2 => by
            rw [hM2c (q + 3) (by omega)]
            exact hEQ.2.1 j j1 j2
          have hqf : M2 q 11 = 0 ∨ M2 q 11 = 1 := by
            rw [hM2c q (by omega)]
            have e' : csS q 1 M' q 11 = M' 1 11 := hEQ.2.2.2.2.2.2.2
            rw [e']
            exact o3.2.fl
          have hw7 : thS M2 w := ⟨o6.1, o6.2.1, by rw [f1 7 (by decide) (by decide) (by decide) (by decide) (by decide), e0 7 (by omega)]; exact o6.2.2⟩
          obtain ⟨cn, hcn⟩ : ∃ cn : (Int → Int) → Int, ∀ c, cn c = if wh = 0 then nz c 96 else nz (fun i => c (i + 96)) 160 := ⟨_, fun _ => rfl⟩
          have hcb : ∀ c, 0 ≤ cn c ∧ cn c ≤ 160 := fun c => by
            rw [hcn]
            have h1 := nz_bd c 96
            have h2 := nz_bd (fun i => c (i + 96)) 160
            split <;> omega
          have eb1 : am_m am_P (d + 19) j_Po_usedBlocks [am_r 2 2] M2 = some (some (am_i (nz (M2 4) 96)), M2) := S_Po_usedBlocks (d + 18) 2 M2
          have eb2 : am_m am_P (d + 19) j_Po_usedBlocks [am_r 2 (q + 1)] M2 = some (some (am_i (nz (M' 4) 96)), M2) := by
            rw [S_Po_usedBlocks (d + 18) (q + 1) M2, show q + 1 + 2 = q + 3 by omega, nz_congr hq4]
          have ep1 : am_m am_P (d + 19) j_Po_usedParts [am_r 2 2] M2 = some (some (am_i (nz (fun i => M2 4 (i + 96)) 160)), M2) := S_Po_usedParts (d + 18) 2 M2
          have ep2 : am_m am_P (d + 19) j_Po_usedParts [am_r 2 (q + 1)] M2 = some (some (am_i (nz (fun i => M' 4 (i + 96)) 160)), M2) := by
            rw [S_Po_usedParts (d + 18) (q + 1) M2, show q + 1 + 2 = q + 3 by omega, nzp_congr hq4]
          have ec : am_m am_P (d + 19) j_St_copyFrom [am_r 4 1, am_r 4 q] M2 = some (none, csS 1 q M2) := S_St_copyFrom (d + 17) M2 (by omega) hqf
          have hk3 : ∀ k : Nat, 255 ≤ k → csS 1 q M2 k = M' k := fun k hk => by rw [cs_off _ _ _ (by omega), hhi k hk]
          -- the reference
          obtain ⟨N'', e1', e2'⟩ := o8 (csS 1 q M2) (by rw [hk3 505 (by omega), o2 505 (by decide)])
          have hN5' : N'' 505 = wc A (M' 4) := by rw [e2'.1 505 (by omega), hk3 505 (by omega)]; exact o4
          obtain ⟨N1, n1, n2, n3, n4⟩ := R_begin (d + 18) e2'
          have h5 : N1 505 = wc A (M' 4) := by rw [n2.1 505 (by omega), hk3 505 (by omega)]; exact o4
          obtain ⟨N2, p1, -, p3⟩ := hop N1 h5
          have hc0 : ∀ y, 0 ≤ M' 4 y := fun y => (o5.1.pi.bd y).1
          have rb1 : am_m am_P (d + 19) j_Md_blocks [am_r 6 504] N1 = some (some (am_i (nz (M' 4) 96)), N1) := by rw [S_Md_blocks (d + 17), h5, nz_wc]
          have rp1 : am_m am_P (d + 19) j_Md_partsOf [am_r 6 504, am_i (-1)] N1 = some (some (am_i (nz (fun i => M' 4 (i + 96)) 160)), N1) := by rw [S_Md_partsOf (d + 17), h5, nzp_wc A (M' 4) hc0]
          have hback : (∀ k : Nat, k ≠ 504 → k ≠ 505 → N2 k = N1 k) → (∀ j : Int, j ≠ 2 → N2 504 j = N1 504 j) → (∀ y : Int, (y < 2 ∨ 1904 ≤ y) → N2 505 y = A y) → ∃ M6, am_m am_P (d + 19) j_Md_bringBack [am_r 6 504] N2 = some (none, M6) ∧ GR M6 (n + 1) ∧ ∀ k : Nat, 517 ≤ k → M6 k = M k := by
            intro h2 h4 h6
            obtain ⟨N3, m1, m2, m3⟩ := R_back (d + 18) (M := M') n2 (hk3 505 (by omega)) (JX.row o4) h2 rfl h6
            have m3' : ∀ k : Nat, k ≠ 504 → k ≠ 505 → N3 k = N1 k := fun k k4 k5 => by rw [m3 k k5, h2 k k4 k5]
            have hgx : GX N3 (n + 1) := by
              refine GX.back o3 (by omega) hq hM2c hz2 (fun k hk' => by rw [m3' k (by omega) (by omega), n2.1 k (by omega)]) m2 ?_
              rw [m3' 506 (by decide) (by decide), n2.1 506 (by omega), hk3 506 (by omega)]
            have hNM : ∀ k : Nat, (495 ≤ k ∧ k ≤ 500 ∨ 513 ≤ k) → N3 k = M' k := fun k hk => by rw [m3' k (by omega) (by omega), n3 k (by omega), e2'.1 k (by omega), hk3 k (by omega)]
            refine ⟨N3, m1, hgx.gr (o3.1.2.2.2.2.2.2.at (fun k k1 k2 => hNM k (by omega)) ?_ ?_ (fun k k1 k2 => hNM k (by omega))), fun k hk => by rw [hNM k (by omega), o2 k (by omega)]⟩
            · rw [m3 504 (by decide), h4 13 (by decide), n4 13 (by decide), e2'.2.1, hk3 504 (by omega)]
            · rw [m3 504 (by decide), h4 16 (by decide), n4 16 (by decide), e2'.2.2, hk3 504 (by omega)]
          rcases hr01 with r0 | r1
          · -- it can't be
            have hcl : ∀ (X : Option am_O), X = (if wh = 0 then (am_bI (am_m am_P (d + 19) j_Po_usedBlocks [am_r 2 2] M2) fun x18 M17 => am_bI (am_m am_P (d + 19) j_Po_usedBlocks [am_r 2 ((M17 0 1).toNat + 1)] M17) fun x20 M19 => am_v (am_wr (x18 - x20)) fun x21 => am_bV (am_m am_P (d + 19) j_St_copyFrom [am_r 4 1, am_r 4 ((M19 0 1).toNat)] M19) fun M22 => if (0 : Int) = 0 then (some (some (am_i (-1)), M22)) else (some (some (am_i (if x21 < 0 then 0 else x21)), M22))) else (am_bI (am_m am_P (d + 19) j_Po_usedParts [am_r 2 2] M2) fun x12 M11 => am_bI (am_m am_P (d + 19) j_Po_usedParts [am_r 2 ((M11 0 1).toNat + 1)] M11) fun x14 M13 => am_v (am_wr (x12 - x14)) fun x15 => am_bV (am_m am_P (d + 19) j_St_copyFrom [am_r 4 1, am_r 4 ((M13 0 1).toNat)] M13) fun M16 => if (0 : Int) = 0 then (some (some (am_i (-1)), M16)) else (some (some (am_i (if x15 < 0 then 0 else x15)), M16)))) → X = some (some (am_i (-1)), csS 1 q M2) := by
              intro X hXX
              rw [hXX]
              by_cases h0 : wh = 0
              · rw [if_pos h0, eb1, bI_some, eq0, eb2, bI_some, v_eq, eq0, ec, bV_some, if_pos rfl]
              · rw [if_neg h0, ep1, bI_some, eq0, ep2, bI_some, v_eq, eq0, ec, bV_some, if_pos rfl]
            rw [r0, if_pos rfl, v_eq]
            obtain ⟨M6, b1, b2', b3⟩ : ∃ M6, am_m am_P (d + 19) j_Md_bringBack [am_r 6 504] N2 = some (none, M6) ∧ GR M6 (n + 1) ∧ ∀ k : Nat, 517 ≤ k → M6 k = M k := by
              rcases (p3.dn hJ1.1 ev1).1 with ⟨_, R, d1, d2⟩ | ⟨d1, _⟩
              · exact hback (fun k k4 k5 => by rw [d1, set_ne _ _ _ k4, st_ne _ _ k5]) (fun j hj => by rw [d1, set_eq, up_ne _ _ hj, st_ne _ _ (by decide)]) (fun y hy => by rw [d1, set_ne _ _ _ (by decide), st_eq]; exact d2 y hy)
              · omega
            have h22 : N2 504 2 = 1 := by rw [r0] at p3; exact p3.sh
            refine ⟨am_i (-1), csS 1 q M2, M6, hcl _ rfl, ?_, b2', b3⟩
            rw [e1', bI_some, if_neg (by decide), R_isAddress (d + 16) o5.1.mv hN5', bI_some, b2_t ha, if_neg (by decide), S_Md_isIn, bI_some, b2_t (show 0 ≤ x ∧ x ≤ 999999 by omega), if_neg (by decide), S_Md_isIn, bI_some, b2_t hw, if_neg (by decide), n1, bV_some]
            by_cases h0 : wh = 0
            · rw [if_pos h0, rb1, bI_some, v_eq, p1, bV_some, if_pos h0, S_Md_blocks (d + 17), bI_some, v_eq, S_Md_isRight_s (d + 18) _ h22, bI_some, v_eq, b1, bV_some, if_pos rfl]
            · rw [if_neg h0, rp1, bI_some, v_eq, p1, bV_some, if_neg h0, S_Md_partsOf (d + 17), bI_some, v_eq, S_Md_isRight_s (d + 18) _ h22, bI_some, v_eq, b1, bV_some, if_pos rfl]
          · rw [if_neg (by omega)]
            obtain ⟨Am, hMV⟩ := hdn1 r1
            rw [S_St_isAllowed (d + 12) M2 (fun u hu => (hMV.vd hu).2.2.2.2.2.2.2.2.2.1), bI_some]
            have hiff := al_iff hw7 (hus1 r1)
            obtain ⟨A', d1, d2, d3⟩ : ∃ A' : Int → Int, N2 = am_st N1 505 (wc A' (M2 4)) ∧ (∀ y : Int, (y < 2 ∨ 1904 ≤ y) → A' y = A y) ∧ JY M2 A' n := by
              rcases (p3.dn hJ1.1 ev1).1 with ⟨d1, _⟩ | ⟨_, d1⟩
              · omega
              · exact d1
            obtain ⟨M6, b1, b2', b3⟩ := hback (fun k k4 k5 => by rw [d1, st_ne _ _ k5]) (fun j hj => by rw [d1, st_ne _ _ (by decide)]) (fun y hy => by rw [d1, st_eq, wc_o _ _ (by omega)]; exact d2 y hy)
            have hright := S_Md_isRight (d + 13) d3.pi d3.rv d3.mv hw7 (N := N1) n2.2.2
            rw [← d1] at hright
            have h52 : N2 505 = wc A' (M2 4) := by rw [d1, st_eq]
            have hc2 : ∀ y, 0 ≤ M2 4 y := fun y => (d3.pi.bd y).1
            have rb2 : am_m am_P (d + 19) j_Md_blocks [am_r 6 504] N2 = some (some (am_i (nz (M2 4) 96)), N2) := by rw [S_Md_blocks (d + 17), h52, nz_wc]
            have rp2 : am_m am_P (d + 19) j_Md_partsOf [am_r 6 504, am_i (-1)] N2 = some (some (am_i (nz (fun i => M2 4 (i + 96)) 160)), N2) := by rw [S_Md_partsOf (d + 17), h52, nzp_wc A' (M2 4) hc2]
            have g1 := nz_bd (M2 4) 96
            have g2 := nz_bd (M' 4) 96
            have g3 := nz_bd (fun i => M2 4 (i + 96)) 160
            have g4 := nz_bd (fun i => M' 4 (i + 96)) 160
            by_cases hal : alS M2
            · rw [b2_t (hiff.mp hal)] at hright
              rw [bc_t hal, if_neg (by decide), v_eq]
              by_cases h0 : wh = 0
              · refine ⟨am_i (if nz (M2 4) 96 - nz (M' 4) 96 < 0 then 0 else nz (M2 4) 96 - nz (M' 4) 96), csS 1 q M2, M6, ?_, ?_, b2', b3⟩
                · rw [if_pos h0, eb1, bI_some, eq0, eb2, bI_some, v_eq, eq0, ec, bV_some, if_neg (by decide), wr_id (by omega) (by omega)]
                · rw [e1', bI_some, if_neg (by decide), R_isAddress (d + 16) o5.1.mv hN5', bI_some, b2_t ha, if_neg (by decide), S_Md_isIn, bI_some, b2_t (show 0 ≤ x ∧ x ≤ 999999 by omega), if_neg (by decide), S_Md_isIn, bI_some, b2_t hw, if_neg (by decide), n1, bV_some, if_pos h0, rb1, bI_some, v_eq, p1, bV_some, if_pos h0, rb2, bI_some, v_eq, hright, bI_some, v_eq, b1, bV_some, if_neg (by decide), wr_id (by omega) (by omega)]
                  split <;> rfl
              · refine ⟨am_i (if nz (fun i => M2 4 (i + 96)) 160 - nz (fun i => M' 4 (i + 96)) 160 < 0 then 0 else nz (fun i => M2 4 (i + 96)) 160 - nz (fun i => M' 4 (i + 96)) 160), csS 1 q M2, M6, ?_, ?_, b2', b3⟩
                · rw [if_neg h0, ep1, bI_some, eq0, ep2, bI_some, v_eq, eq0, ec, bV_some, if_neg (by decide), wr_id (by omega) (by omega)]
                · rw [e1', bI_some, if_neg (by decide), R_isAddress (d + 16) o5.1.mv hN5', bI_some, b2_t ha, if_neg (by decide), S_Md_isIn, bI_some, b2_t (show 0 ≤ x ∧ x ≤ 999999 by omega), if_neg (by decide), S_Md_isIn, bI_some, b2_t hw, if_neg (by decide), n1, bV_some, if_neg h0, rp1, bI_some, v_eq, p1, bV_some, if_neg h0, rp2, bI_some, v_eq, hright, bI_some, v_eq, b1, bV_some, if_neg (by decide), wr_id (by omega) (by omega)]
                  split <;> rfl
            · rw [b2_f (fun q => hal (hiff.mpr q))] at hright
              rw [bc_f hal, if_pos rfl, v_eq]
              by_cases h0 : wh = 0
              · refine ⟨am_i (-1), csS 1 q M2, M6, ?_, ?_, b2', b3⟩
                · rw [if_pos h0, eb1, bI_some, eq0, eb2, bI_some, v_eq, eq0, ec, bV_some, if_pos rfl]
                · rw [e1', bI_some, if_neg (by decide), R_isAddress (d + 16) o5.1.mv hN5', bI_some, b2_t ha, if_neg (by decide), S_Md_isIn, bI_some, b2_t (show 0 ≤ x ∧ x ≤ 999999 by omega), if_neg (by decide), S_Md_isIn, bI_some, b2_t hw, if_neg (by decide), n1, bV_some, if_pos h0, rb1, bI_some, v_eq, p1, bV_some, if_pos h0, rb2, bI_some, v_eq, hright, bI_some, v_eq, b1, bV_some, if_pos rfl]
              · refine ⟨am_i (-1), csS 1 q M2, M6, ?_, ?_, b2', b3⟩
                · rw [if_neg h0, ep1, bI_some, eq0, ep2, bI_some, v_eq, eq0, ec, bV_some, if_pos rfl]
                · rw [e1', bI_some, if_neg (by decide), R_isAddress (d + 16) o5.1.mv hN5', bI_some, b2_t ha, if_neg (by decide), S_Md_isIn, bI_some, b2_t (show 0 ≤ x ∧ x ≤ 999999 by omega), if_neg (by decide), S_Md_isIn, bI_some, b2_t hw, if_neg (by decide), n1, bV_some, if_neg h0, rp1, bI_some, v_eq, p1, bV_some, if_neg h0, rp2, bI_some, v_eq, hright, bI_some, v_eq, b1, bV_some, if_pos rfl]
        · refine ⟨am_i (-1), M', N', ?_, ?_, hno⟩
          · by_cases h1 : wh < 0
            · rw [if_pos h1]
            · rw [if_neg h1, if_pos (by omega)]
          · rw [e1, bI_some, if_neg (by decide), R_isAddress (d + 16) o5.1.mv hN5, bI_some, b2_t ha, if_neg (by decide), S_Md_isIn, bI_some, b2_t (show 0 ≤ x ∧ x ≤ 999999 by omega), if_neg (by decide), S_Md_isIn, bI_some, b2_f hw, if_pos rfl]
      · rw [b2_f hx, if_pos rfl]
        refine ⟨_, _, N', rfl, ?_, hno⟩
        rw [e1, bI_some, if_neg (by decide), R_isAddress (d + 16) o5.1.mv hN5, bI_some, b2_t ha, if_neg (by decide), S_Md_isIn, bI_some, b2_f (show ¬ (0 ≤ x ∧ x ≤ 999999) by omega), if_pos rfl]
    · rw [b2_f ha, if_pos rfl]
      refine ⟨_, _, N', rfl, ?_, hno⟩
      rw [e1, bI_some, if_neg (by decide), R_isAddress (d + 16) o5.1.mv hN5, bI_some, b2_f ha, if_pos rfl]
