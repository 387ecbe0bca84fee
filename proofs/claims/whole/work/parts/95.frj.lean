/-! LET GO, PRUNED: the methods -/
theorem SR.up {M : am_M} {A : Int → Int} {n : Int} (h : JX M A n) (h11 : M 1 11 = 0 ∨ M 1 11 = 1) : SR M A (n + 1) := (SR.of h h11).congr (by omega) (EQ_rfl M) (fun x hx => h.1.pi.zo x hx) (fun _ _ _ => rfl)
theorem J_free (d : Nat) {M : am_M} {n : Int} (hG : GR M n) (v : Int) : AG M (n + 1) (am_m am_P (d + 20) j_Tv_free [am_r 5 0, am_i v] M) (am_m am_P (d + 20) j_Md_free [am_r 6 504, am_i v]) := by
  have hX : am_m am_P (d + 20) j_Tv_free [am_r 5 0, am_i v] M = am_at am_P (d + 19) j_Tv_free 0 [am_r 5 0, am_i v, am_u] [] M := rfl
  have hY : ∀ N, am_m am_P (d + 20) j_Md_free [am_r 6 504, am_i v] N = am_at am_P (d + 19) j_Md_free 0 [am_r 6 504, am_i v, am_u] [] N := fun _ => rfl
  unfold AG
  simp only [hX, hY, E_Tv_free_0, E_Md_free_0, Nat.reduceAdd, S_St_isThere, bI_some]
  obtain ⟨A0, c0, hR0, hJ0, hP0⟩ := hG.sr
  obtain ⟨u1, u2, u3⟩ := hJ0.un
  by_cases hv : thS M v
  · have hvr : 0 ≤ v ∧ v < 12 := ⟨hv.1, hv.2.1⟩
    have hh := (u3.vd hv).2.2.2.2.2.2.2.2.2.2
    have hA6 := (u3.vd hv).2.2.2.2.1
    simp only [b2_t hv, show ¬ ((1 : Int) = 0) by decide, if_false, if_t hvr]
    by_cases h0 : M 12 v = 0
    · simp only [if_pos h0]
      rcases snd_both (d + 14) (d + 15) hG with ⟨M', o1, o2, o3⟩ | ⟨M', A, o1, o2, o3, o4, o5, o6⟩
      · obtain ⟨w, N', e1, e0, e2⟩ := o3 M' (o2 505 (by decide))
        rw [o1]
        simp only [bI_some, if_true]
        refine ⟨_, _, N', rfl, ?_, RF.gr hG (by omega) (fun k hk => o2 k (by omega)) e2⟩
        rw [e1]; simp only [bI_some, if_neg e0]
      · rw [o1]
        simp only [bI_some, show ¬ ((1 : Int) = 0) by decide, if_false]
        obtain ⟨q, hq, hq2⟩ := o3.q
        obtain ⟨b0, -⟩ := kp_beg o3 o5 hq (fun _ _ _ => rfl)
        obtain ⟨w, hw⟩ : ∃ w : Nat, v = (w : Int) := ⟨v.toNat, by omega⟩
        subst hw
        have hv1 : thS (csS q 1 M') w := ⟨hv.1, hv.2.1, by rw [b0 7 (by omega), o2 7 (by decide)]; exact hv.2.2⟩
        have hv' : thS M' w := ⟨hv.1, hv.2.1, by rw [o2 7 (by decide)]; exact hv.2.2⟩
        obtain ⟨-, hJ1⟩ := kp_beg o3 o5 hq (A1 := A) (fun _ _ _ => rfl)
        obtain ⟨-, -, -, rf, -, -⟩ := rv_J hJ1 hv1
        obtain ⟨k1, -, -, -, -⟩ := keep_fin (d + 16) o3 o4 hq (M2 := (rvS (csS q 1 M') w).2) (fun k hk _ => rf k (by omega) (by omega) (by omega) (by omega))
        obtain ⟨-, k2, k3, k4, k5⟩ := keep_fin (d + 17) o3 o4 hq (M2 := (rvS (csS q 1 M') w).2) (fun k hk _ => rf k (by omega) (by omega) (by omega) (by omega))
        rw [k1]
        simp only [bV_some, S_St_removeVolume (d + 12) (csS q 1 M') hv1, bI_some, v_eq]
        rw [k2]
        simp only [bV_some]
        obtain ⟨N', e1, e2⟩ := o6 (ksS (rvS (csS q 1 M') w).2) (by rw [k4 505 (by omega) (by omega), o2 505 (by decide)])
        have hN5 : N' 505 = wc A (M' 4) := by rw [e2.1 505 (by omega), k4 505 (by omega) (by omega)]; exact o4
        obtain ⟨N1, N2, A1, n1, n2, n3, n4, n5, n6, n7⟩ := k5 N' e2
        obtain ⟨-, hJ2⟩ := kp_beg o3 o5 hq n6
        obtain ⟨A2, r1, r2, -, r4, r5⟩ := rv_J hJ2 hv1
        have hfin := n7 (am_st N2 505 (wc A2 ((rvS (csS q 1 M') w).2 4))) A2 (st_eq _ _ _) r2 (fun k hk => st_ne _ _ (by omega)) (by rw [st_ne _ _ (by decide)]) (by rw [st_ne _ _ (by decide)]) (SR.up r1 (by rw [rf 1 (by decide) (by decide) (by decide) (by decide), b0 1 (by omega)]; exact o3.2.fl))
        have hrun := r5 (d + 11) N2
        rw [b0 4 (by omega), ← n5, st_self] at hrun
        refine ⟨_, _, _, rfl, ?_, hfin.1, fun k hk => by rw [hfin.2 k hk, o2 k (by omega)]⟩
        have hM6 : A (1796 + 9 * (w : Int) + 6) = 0 := by
          rw [show 1796 + 9 * (w : Int) + 6 = 1802 + 9 * w by omega, (o5.1.mv.vd hv').2.2.2.2.1, o2 12 (by decide)]
          exact h0
        have nb1 : sm (fun b => if N' 505 (5 + 2 * b) = 0 then 0 else 1) 96 = nz (M' 4) 96 := by rw [hN5]; exact nz_ref A (fun x => (o5.1.pi.bd x).1)
        have nb2 : sm (fun b => if wc A2 ((rvS (csS q 1 M') w).2 4) (5 + 2 * b) = 0 then 0 else 1) 96 = nz ((rvS (csS q 1 M') w).2 4) 96 := nz_ref A2 (fun x => (r1.1.pi.bd x).1)
        have bd1 := nz_bd (M' 4) 96
        have bd2 := nz_bd ((rvS (csS q 1 M') w).2 4) 96
        rw [b0 4 (by omega)] at r4
        rw [e1]
        simp only [bI_some, if_true, R_isVol (d + 17) o5.1.mv hN5, b2_t hv', show ¬ ((1 : Int) = 0) by decide, if_false, R_got (d + 18) hvr (show (0 : Int) ≤ 6 ∧ (6 : Int) < 9 by decide) hN5, hM6, show ¬ ((0 : Int) < 0) by decide, S_Md_blocks (d + 17), nb1, n1, bV_some, n2, hrun, st_eq, nb2]
        rw [wr_id (by omega) (by omega), r4]
    · simp only [if_neg h0]
      obtain ⟨w, N', e1, e2⟩ := wr_any (d + 15) hG (N := M) rfl
      have hN5 : N' 505 = wc A0 (M 4) := by rw [e2.1 505 (by omega)]; exact hR0
      refine ⟨_, _, N', rfl, ?_, RF.gr hG (by omega) (fun k hk => rfl) e2⟩
      rw [e1]
      simp only [bI_some, R_isVol (d + 17) u3 hN5, b2_t hv, show ¬ ((1 : Int) = 0) by decide, if_false, R_got (d + 18) hvr (show (0 : Int) ≤ 6 ∧ (6 : Int) < 9 by decide) hN5, show 1796 + 9 * v + 6 = 1802 + 9 * v by omega, hA6, if_pos (show 0 < M 12 v by omega), ite_self]
  · simp only [b2_f hv, if_true]
    obtain ⟨w, N', e1, e2⟩ := wr_any (d + 15) hG (N := M) rfl
    refine ⟨_, _, N', rfl, ?_, RF.gr hG (by omega) (fun k hk => rfl) e2⟩
    rw [e1]
    simp only [bI_some, R_isVol (d + 17) u3 (show N' 505 = wc A0 (M 4) by rw [e2.1 505 (by omega)]; exact hR0), b2_f hv, if_true, ite_self]
theorem R_isPrunable (d : Nat) {M : am_M} {A c' : Int → Int} (hM : MV M A) {N : am_M} (hN : N 505 = wc A c') (v : Int) : am_m am_P (d + 3) j_Md_isPrunable [am_r 6 504, am_i v] N = some (some (am_i (b2 (prS M v))), N) := by
  show am_at am_P (d + 2) j_Md_isPrunable 0 [am_r 6 504, am_i v] [] N = _
  rw [E_Md_isPrunable_0, R_isVol d hM hN, bI_some]
  simp only [if_ot, if_to]
  by_cases hv : thS M v
  · have hvr : 0 ≤ v ∧ v < 12 := ⟨hv.1, hv.2.1⟩
    obtain ⟨-, -, v3, -, v5, -, -, -, v9, -, -⟩ := hM.vd hv
    rw [b2_t hv, if_neg (by decide), R_got (d + 1) hvr (by omega) hN, bI_some, show 1796 + 9 * v + 3 = 1799 + 9 * v by omega, v3]
    by_cases h1 : M 9 v = 1
    · rw [if_pos h1, R_got (d + 1) hvr (by omega) hN, bI_some, show 1796 + 9 * v + 6 = 1802 + 9 * v by omega, v5]
      by_cases h2 : M 12 v = 0
      · rw [if_pos h2, b2_t ⟨hv, by omega, h2⟩]
      · rw [if_neg h2, b2_f (fun q => h2 q.2.2)]
    · rw [if_neg h1, b2_f (fun q => q.2.1 (by omega))]
  · rw [b2_f hv, if_pos rfl, b2_f (fun q => hv q.1)]
theorem R_bornBehind (d : Nat) {M : am_M} {A c' : Int → Int} (hM : MV M A) {N : am_M} (hN : N 505 = wc A c') {v : Int} (hv : thS M v) : am_m am_P (d + 4) j_Md_bornBehind [am_r 6 504, am_i v] N = some (some (am_i (paS M v)), N) := by
  show am_at am_P (d + 3) j_Md_bornBehind 0 [am_r 6 504, am_i v, am_u, am_u] [] N = _
  have hvr : 0 ≤ v ∧ v < 12 := ⟨hv.1, hv.2.1⟩
  rw [E_Md_bornBehind_0, v_eq, v_eq]
  unfold paS
  refine lp_sum (F := fun s i => am_at am_P (d + 3) j_Md_bornBehind 4 [am_r 6 504, am_i v, am_i s, am_i i] [] N) (f := fun w => if prS M w ∧ M 14 v < M 14 w then 1 else 0) (n := 12) ?_ ?_
  · try dsimp only
    rw [E_Md_bornBehind_4, if_neg (by omega)]
  · intro i hi
    try dsimp only
    have hb := sm_bd (f := fun w => if prS M w ∧ M 14 v < M 14 w then 1 else 0) (c := 1) i (fun k _ => by (try dsimp only); split <;> omega)
    rw [E_Md_bornBehind_4, if_pos (by omega), R_isPrunable d hM hN, bI_some]
    generalize sm (fun w => if prS M w ∧ M 14 v < M 14 w then 1 else 0) i = s at hb ⊢
    by_cases hp : prS M i
    · rw [b2_t hp, if_neg (by decide), R_got (d + 2) (by omega) (by omega) hN, bI_some, R_got (d + 2) hvr (by omega) hN, bI_some, show 1796 + 9 * (i : Int) + 8 = 1804 + 9 * i by omega, show 1796 + 9 * v + 8 = 1804 + 9 * v by omega, (hM.vd hp.1).2.2.2.2.2.2.1, (hM.vd hv).2.2.2.2.2.2.1]
      by_cases hl : M 14 v < M 14 i
      · rw [if_pos hl, if_pos ⟨hp, hl⟩, v_eq, v_eq, wr_id (by omega) (by omega), wr_id (by omega) (by omega)]
      · rw [if_neg hl, if_neg (fun q => hl q.2), v_eq, v_eq, wr_id (by omega) (by omega), wr_id (by omega) (by omega)]
    · rw [b2_f hp, if_pos rfl, if_neg (fun q => hp q.1), v_eq, v_eq, wr_id (by omega) (by omega), wr_id (by omega) (by omega)]
/-- the class's pruning: k volumes left, i the next, g gone -/
def pnS (x : Int) : Nat → Int → Int → am_M → Int × am_M
  | 0, _, g, M => (g, M)
  | k + 1, i, g, M => if prS M i ∧ x ≤ paS M i then pnS x k (i + 1) (g + 1) (rvS M i).2 else pnS x k (i + 1) g M
theorem pn_cls (d : Nat) (x : Int) : ∀ (k : Nat) (i g : Int) (M : am_M), 0 ≤ i → i + k = 12 → 0 ≤ g → g ≤ i → am_at am_P (d + 19) j_Tv_prune 27 [am_r 5 0, am_i x, am_i g, am_i i] [] M = am_bV (am_m am_P (d + 19) j_Tv_keepStep [am_r 5 0] (pnS x k i g M).2) fun M1 => some (some (am_i (pnS x k i g M).1), M1)
  | 0, i, g, M, h1, h2, h3, h4 => by rw [E_Tv_prune_27, if_neg (by omega)]; rfl
  | k + 1, i, g, M, h1, h2, h3, h4 => by
    rw [E_Tv_prune_27, if_pos (by omega)]
    simp only [Nat.reduceAdd]
    unfold pnS
    rw [S_St_isPrunable (d + 17), bI_some]
    by_cases hp : prS M i
    · rw [b2_t hp, if_neg (by decide), S_St_prunableAfter (d + 16) M hp.1, bI_some]
      by_cases hx : paS M i < x
      · rw [if_pos hx, if_neg (fun q => by have := q.2; omega), v_eq, wr_id (by omega) (by omega)]
        exact pn_cls d x k (i + 1) g M (by omega) (by omega) h3 (by omega)
      · rw [if_neg hx, if_pos ⟨hp, by omega⟩, S_St_removeVolume (d + 12) M hp.1, bI_some, v_eq, v_eq, wr_id (by omega) (by omega), wr_id (by omega) (by omega)]
        exact pn_cls d x k (i + 1) (g + 1) _ (by omega) (by omega) (by omega) (by omega)
    · rw [b2_f hp, if_pos rfl, if_neg (fun q => hp q.1), v_eq, wr_id (by omega) (by omega)]
      exact pn_cls d x k (i + 1) g M (by omega) (by omega) h3 (by omega)
theorem pn_both (d : Nat) (x : Int) (N : am_M) {n : Int} : ∀ (k : Nat) (i g : Int) (M : am_M) (A : Int → Int), 0 ≤ i → i + k = 12 → 0 ≤ g → g ≤ i → JX M A n → ∃ A2 : Int → Int, am_at am_P (d + 19) j_Md_prune 32 [am_r 6 504, am_i x, am_i g, am_i i] [] (am_st N 505 (wc A (M 4))) = some (some (am_i (pnS x k i g M).1), am_st N 505 (wc A2 ((pnS x k i g M).2 4))) ∧ JX (pnS x k i g M).2 A2 n ∧ (∀ y : Int, (y < 2 ∨ 1904 ≤ y) → A2 y = A y) ∧ (∀ k' : Nat, k' ≠ 4 → k' ≠ 7 → k' ≠ 10 → k' ≠ 13 → (pnS x k i g M).2 k' = M k')
  | 0, i, g, M, A, h1, h2, h3, h4, hJ => ⟨A, by rw [E_Md_prune_32, if_neg (by omega)]; rfl, hJ, fun _ _ => rfl, fun _ _ _ _ _ => rfl⟩
  | k + 1, i, g, M, A, h1, h2, h3, h4, hJ => by
    have hN : am_st N 505 (wc A (M 4)) 505 = wc A (M 4) := st_eq _ _ _
    rw [E_Md_prune_32, if_pos (by omega), R_isPrunable (d + 16) hJ.1.mv hN, bI_some]
    unfold pnS
    by_cases hp : prS M i
    · rw [b2_t hp, if_neg (by decide), R_bornBehind (d + 15) hJ.1.mv hN hp.1, bI_some]
      by_cases hx : paS M i < x
      · rw [if_pos hx, if_neg (fun q => by have := q.2; omega), v_eq, wr_id (by omega) (by omega)]
        exact pn_both d x N k (i + 1) g M A (by omega) (by omega) h3 (by omega) hJ
      · obtain ⟨w, hw⟩ : ∃ w : Nat, i = (w : Int) := ⟨i.toNat, by omega⟩
        subst hw
        obtain ⟨A2, r1, r2, r3, -, r5⟩ := rv_J hJ hp.1
        rw [if_neg hx, if_pos ⟨hp, by omega⟩, r5 (d + 11) N, bV_some, v_eq, v_eq, wr_id (by omega) (by omega), wr_id (by omega) (by omega)]
        obtain ⟨A3, s1, s2, s3, s4⟩ := pn_both d x N k ((w : Int) + 1) (g + 1) _ A2 (by omega) (by omega) (by omega) (by omega) r1
        exact ⟨A3, s1, s2, fun y hy => by rw [s3 y hy, r2 y hy], fun k' a b c e => by rw [s4 k' a b c e, r3 k' a b c e]⟩
    · rw [b2_f hp, if_pos rfl, if_neg (fun q => hp q.1), v_eq, wr_id (by omega) (by omega)]
      exact pn_both d x N k (i + 1) g M A (by omega) (by omega) h3 (by omega) hJ
theorem J_prune (d : Nat) {M : am_M} {n : Int} (hG : GR M n) (x : Int) : AG M (n + 1) (am_m am_P (d + 20) j_Tv_prune [am_r 5 0, am_i x] M) (am_m am_P (d + 20) j_Md_prune [am_r 6 504, am_i x]) := by
  have hX : am_m am_P (d + 20) j_Tv_prune [am_r 5 0, am_i x] M = am_at am_P (d + 19) j_Tv_prune 0 [am_r 5 0, am_i x, am_u, am_u] [] M := rfl
  have hY : ∀ N, am_m am_P (d + 20) j_Md_prune [am_r 6 504, am_i x] N = am_at am_P (d + 19) j_Md_prune 0 [am_r 6 504, am_i x, am_u, am_u] [] N := fun _ => rfl
  unfold AG
  simp only [hX, hY, E_Tv_prune_0, E_Md_prune_0, Nat.reduceAdd]
  by_cases hx : 0 ≤ x ∧ x ≤ 12
  · rw [if_neg (show ¬ x < 0 by omega), if_neg (show ¬ (12 : Int) < x by omega)]
    rcases snd_both (d + 14) (d + 15) hG with ⟨M', o1, o2, o3⟩ | ⟨M', A, o1, o2, o3, o4, o5, o6⟩
    · obtain ⟨w, N', e1, e0, e2⟩ := o3 M' (o2 505 (by decide))
      rw [o1]
      simp only [bI_some, if_true]
      refine ⟨_, _, N', rfl, ?_, RF.gr hG (by omega) (fun k hk => o2 k (by omega)) e2⟩
      rw [e1]; simp only [bI_some, if_neg e0]
    · rw [o1]
      simp only [bI_some, show ¬ ((1 : Int) = 0) by decide, if_false]
      obtain ⟨q, hq, hq2⟩ := o3.q
      obtain ⟨b0, hJ0⟩ := kp_beg o3 o5 hq (A1 := A) (fun _ _ _ => rfl)
      obtain ⟨-, -, -, -, rf⟩ := pn_both d x M 12 0 0 (csS q 1 M') A (by omega) (by omega) (by omega) (by omega) hJ0
      obtain ⟨P, hPd⟩ : ∃ P, P = pnS x 12 0 0 (csS q 1 M') := ⟨_, rfl⟩
      rw [← hPd] at rf
      obtain ⟨k1, -, -, -, -⟩ := keep_fin (d + 16) o3 o4 hq (M2 := P.2) (fun k hk _ => rf k (by omega) (by omega) (by omega) (by omega))
      obtain ⟨-, k2, k3, k4, k5⟩ := keep_fin (d + 17) o3 o4 hq (M2 := P.2) (fun k hk _ => rf k (by omega) (by omega) (by omega) (by omega))
      rw [k1]
      simp only [bV_some, v_eq]
      rw [pn_cls d x 12 0 0 (csS q 1 M') (by omega) (by omega) (by omega) (by omega), ← hPd, k2]
      simp only [bV_some]
      obtain ⟨N', e1, e2⟩ := o6 (ksS P.2) (by rw [k4 505 (by omega) (by omega), o2 505 (by decide)])
      obtain ⟨N1, N2, A1, n1, n2, n3, n4, n5, n6, n7⟩ := k5 N' e2
      obtain ⟨-, hJ2⟩ := kp_beg o3 o5 hq n6
      obtain ⟨A2, r1, r2, r3, -⟩ := pn_both d x N2 12 0 0 (csS q 1 M') A1 (by omega) (by omega) (by omega) (by omega) hJ2
      rw [← hPd] at r1 r2
      rw [b0 4 (by omega), ← n5, st_self] at r1
      have hfin := n7 (am_st N2 505 (wc A2 (P.2 4))) A2 (st_eq _ _ _) r3 (fun k hk => st_ne _ _ (by omega)) (by rw [st_ne _ _ (by decide)]) (by rw [st_ne _ _ (by decide)]) (SR.up r2 (by rw [rf 1 (by decide) (by decide) (by decide) (by decide), b0 1 (by omega)]; exact o3.2.fl))
      refine ⟨_, _, _, rfl, ?_, hfin.1, fun k hk => by rw [hfin.2 k hk, o2 k (by omega)]⟩
      rw [e1]
      simp only [bI_some, if_true, S_Md_isIn, b2_t hx, show ¬ ((1 : Int) = 0) by decide, if_false, n1, bV_some, n2, v_eq, r1]
  · have hX2 : ∀ Z : Option am_O, (if x < 0 then some (some (am_i (-1)), M) else if (12 : Int) < x then some (some (am_i (-1)), M) else Z) = some (some (am_i (-1)), M) := fun Z => by
      by_cases h1 : x < 0
      · rw [if_pos h1]
      · rw [if_neg h1, if_pos (by omega)]
    rw [hX2]
    obtain ⟨w, N', e1, e2⟩ := wr_any (d + 15) hG (N := M) rfl
    refine ⟨_, _, N', rfl, ?_, RF.gr hG (by omega) (fun k hk => rfl) e2⟩
    rw [e1]
    simp only [bI_some, S_Md_isIn, b2_f hx, if_true, ite_self]
