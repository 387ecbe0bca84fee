/-! WIPED; pieces FILLED, SHARED, MOVED -/
def itO (g : Int → am_M → Int × am_M) : Nat → Int → am_M → Int × am_M
  | 0, _, M => (1, M)
  | k + 1, i, M => if (g i M).1 = 0 then (0, (g i M).2) else itO g k (i + 1) (g i M).2
theorem lp_can {F : Int → Int → am_M → Option am_O} {S : Int → am_M → Option am_O} {g : Int → am_M → Int × am_M} {n : Int} (h01 : ∀ i M, (g i M).1 = 0 ∨ (g i M).1 = 1) (hend : ∀ r i M, ¬ i < n → F r i M = S r M) (h0 : ∀ i M, i < n → F 0 i M = S 0 M) (hst : ∀ i M, 0 ≤ i → i < n → F 1 i M = F (g i M).1 (i + 1) (g i M).2) : ∀ (k : Nat) (i : Int) (M : am_M), 0 ≤ i → i + k = n → F 1 i M = S (itO g k i M).1 (itO g k i M).2
  | 0, i, M, _, hk => hend 1 i M (by omega)
  | k + 1, i, M, hi, hk => by
    rw [hst i M hi (by omega)]
    unfold itO
    by_cases h : (g i M).1 = 0
    · rw [if_pos h, h]
      by_cases h2 : i + 1 < n
      · exact h0 _ _ h2
      · exact hend _ _ _ h2
    · rw [if_neg h, show (g i M).1 = 1 by have := h01 i M; omega]
      exact lp_can h01 hend h0 hst k (i + 1) _ (by omega) (by omega)
theorem itO_01 (g : Int → am_M → Int × am_M) : ∀ (k : Nat) (i : Int) (M : am_M), (itO g k i M).1 = 0 ∨ (itO g k i M).1 = 1
  | 0, _, _ => Or.inr rfl
  | k + 1, i, M => by
    unfold itO
    split
    · exact Or.inl rfl
    · exact itO_01 g k _ _
theorem OPR.sh {A0 : Int → Int} {M0 N1 M N : am_M} {v : Nat} (h : OPR A0 M0 N1 v 0 M N) : N 504 2 = 1 := by
  rcases h.2.2 with ⟨_, R, r1, _⟩ | ⟨q, _⟩
  · rw [r1, set_eq, up_eq]
  · omega
theorem OPR.ns {A0 : Int → Int} {M0 N1 M N : am_M} {v : Nat} (h : OPR A0 M0 N1 v 1 M N) (h1 : N1 504 2 = 0) : N 504 2 = 0 := by
  rcases h.2.2 with ⟨q, _⟩ | ⟨_, A, a1, _⟩
  · omega
  · rw [a1, st_ne _ _ (by decide)]; exact h1
theorem lpR {G : Int → am_M → Option am_O} {E : am_M → Option am_O} {g : Int → am_M → Int × am_M} {n : Int} {A0 : Int → Int} {M0 N1 : am_M} {v : Nat} (hend : ∀ i N, ¬ i < n → G i N = E N) (hsh : ∀ i N, i < n → N 504 2 = 1 → G i N = E N) (hst : ∀ (i : Int) (M N : am_M), 0 ≤ i → i < n → OPR A0 M0 N1 v 1 M N → ∃ N', G i N = G (i + 1) N' ∧ ((g i M).1 = 0 ∨ (g i M).1 = 1) ∧ OPR A0 M0 N1 v (g i M).1 (g i M).2 N') : ∀ (k : Nat) (i : Int) (M N : am_M), 0 ≤ i → i + k = n → OPR A0 M0 N1 v 1 M N → ∃ N2, G i N = E N2 ∧ OPR A0 M0 N1 v (itO g k i M).1 (itO g k i M).2 N2
  | 0, i, M, N, _, hk, h => ⟨N, hend i N (by omega), h⟩
  | k + 1, i, M, N, hi, hk, h => by
    obtain ⟨N', e1, e2, e3⟩ := hst i M N hi (by omega) h
    unfold itO
    by_cases h0 : (g i M).1 = 0
    · rw [if_pos h0]
      refine ⟨N', ?_, by rw [h0] at e3; exact e3⟩
      rw [e1]
      rw [h0] at e3
      by_cases h2 : i + 1 < n
      · exact hsh _ _ h2 e3.sh
      · exact hend _ _ h2
    · rw [if_neg h0]
      rw [show (g i M).1 = 1 by omega] at e3
      obtain ⟨N2, f1, f2⟩ := lpR hend hsh hst k (i + 1) _ N' (by omega) (by omega) e3
      exact ⟨N2, e1.trans f1, f2⟩
/-- what is so as a change begins -/
theorem beg_opr {M : am_M} {n : Int} (hG : GR M n) {A : Int → Int} (hJ : JX M A n) {v : Nat} (hv : thS M v) {q : Nat} (hq : M 0 1 = (q : Int)) : (∀ k : Nat, k ≤ 14 → csS q 1 M k = M k) ∧ thS (csS q 1 M) v ∧ (∀ w, thS (csS q 1 M) w ↔ thS M w) ∧ JX (csS q 1 M) A n ∧ ∀ N1 : am_M, N1 505 = wc A (M 4) → OPR A (csS q 1 M) N1 v 1 (csS q 1 M) N1 := by
  have hqr := isB_rng (show isB (q : Int) by rw [← hq]; exact hG.1.1.1)
  have e0 : ∀ k : Nat, k ≤ 14 → csS q 1 M k = M k := fun k hk => cs_off _ _ _ (by omega)
  have hJ1 : JX (csS q 1 M) A n := hJ.congr (Int.le_refl _) (EQ_of (fun k k1 k2 => e0 k (by omega))) (fun y hy => by rw [e0 4 (by omega)]; exact hJ.1.pi.zo y hy) (fun _ _ _ => rfl)
  have hw : ∀ w, thS (csS q 1 M) w ↔ thS M w := fun w => by unfold thS; rw [e0 7 (by omega)]
  exact ⟨e0, (hw v).mpr hv, hw, hJ1, fun N1 h5 => OPR.init hJ1.1 ((hw v).mpr hv) (by rw [e0 4 (by omega)]; exact h5)⟩
theorem OPR.th {A0 : Int → Int} {M0 N1 M N : am_M} {v : Nat} {r : Int} (h : OPR A0 M0 N1 v r M N) (w : Int) : thS M w ↔ thS M0 w := by
  unfold thS; rw [h.1 7 (by decide) (by decide) (by decide) (by decide) (by decide)]
theorem OPR.row {A0 : Int → Int} {M0 N1 M N : am_M} {v : Nat} (h : OPR A0 M0 N1 v 1 M N) : ∃ A, N 505 = wc A (M 4) ∧ PI A (M 4) (M 5) (M 6) (M 10) (fun _ => 0) ∧ RV M A ∧ RB M A := by
  rcases h.2.2 with ⟨q, _⟩ | ⟨_, A, a1, _, a3, a4, a5, _⟩
  · omega
  · exact ⟨A, by rw [a1, st_eq], a3, a4, a5⟩
/-- one address written, wiped if mapped, shared: steps of a change -/
theorem OPR.put (d : Nat) {A0 : Int → Int} {M0 N1 M N : am_M} {v : Nat} (hv : thS M0 v) (h7 : M0 7 v ≤ 512) (h2 : A0 2 = M0 1 9) {a x : Int} (hx : 0 ≤ x ∧ x ≤ 999999) (ha : 0 ≤ a ∧ a < M0 7 v) (h : OPR A0 M0 N1 v 1 M N) : ∃ N', am_m am_P (d + 10) j_Md_writeNow [am_r 6 504, am_i v, am_i a, am_i x] N = some (none, N') ∧ ((puS M v a x).1 = 0 ∨ (puS M v a x).1 = 1) ∧ OPR A0 M0 N1 v (puS M v a x).1 (puS M v a x).2 N' := by
  have hv1 := (h.th v).mpr hv
  have e1 : M 1 = M0 1 := h.1 1 (by decide) (by decide) (by decide) (by decide) (by decide)
  exact h.step (by have := hv.2.1; omega) (a := a) ha.2 (by omega) (f := am_m am_P (d + 10) j_Md_writeNow [am_r 6 504, am_i (v : Int), am_i a, am_i x]) (fun A1 p1 p2 p3 p4 => put_both d hx (by omega) N1 p1 p2 p3 hv1 (by rw [p4, e1]; exact h2)) (OZ_pu _ _ _ _) (fun A1 p1 p2 p3 u hu b hb hub => put_ct (by omega) p1 p2 hv1 p3 hu hb hub)
theorem OPR.clr (d : Nat) {A0 : Int → Int} {M0 N1 M N : am_M} {v : Nat} (hv : thS M0 v) (h7 : M0 7 v ≤ 512) {a : Int} (ha : 0 ≤ a ∧ a < M0 7 v) (h : OPR A0 M0 N1 v 1 M N) (hb : blkS M v a ≠ -1) : ∃ N', am_m am_P (d + 10) j_Md_wipeNow [am_r 6 504, am_i v, am_i a] N = some (none, N') ∧ ((clS M v a).1 = 0 ∨ (clS M v a).1 = 1) ∧ OPR A0 M0 N1 v (clS M v a).1 (clS M v a).2 N' := by
  have hv1 := (h.th v).mpr hv
  exact h.step (by have := hv.2.1; omega) (a := a) ha.2 (by omega) (f := am_m am_P (d + 10) j_Md_wipeNow [am_r 6 504, am_i (v : Int), am_i a]) (fun A1 p1 p2 p3 _ => (wipe_both d (by omega) N1 p1 p2 p3 hv1 hb).1) (OZ_cl _ _ _) (fun A1 p1 p2 p3 u hu b hbb hub => by
    obtain ⟨A2, _, q1, q2, q3⟩ := h.row
    have := (wipe_both 0 (by omega) N1 q1 q2 q3 hv1 hb).2 p3 u hu b hbb
    rw [if_neg hub] at this
    exact this)
theorem OPR.shr (d : Nat) {A0 : Int → Int} {M0 N1 M N : am_M} {v w : Nat} (hv : thS M0 v) (hw : thS M0 w) (h7 : M0 7 v ≤ 512) {a b : Int} (ha : 0 ≤ a ∧ a < 512) (hb : 0 ≤ b ∧ b < M0 7 v) (h : OPR A0 M0 N1 v 1 M N) : ∃ N', am_m am_P (d + 11) j_Md_shareOne [am_r 6 504, am_i w, am_i a, am_i v, am_i b] N = some (none, N') ∧ ((cpyS M w a v b).1 = 0 ∨ (cpyS M w a v b).1 = 1) ∧ OPR A0 M0 N1 v (cpyS M w a v b).1 (cpyS M w a v b).2 N' := by
  have hv1 := (h.th v).mpr hv
  have hw1 := (h.th w).mpr hw
  exact h.step (by have := hv.2.1; omega) (a := b) hb.2 (by omega) (f := am_m am_P (d + 11) j_Md_shareOne [am_r 6 504, am_i (w : Int), am_i a, am_i (v : Int), am_i b]) (fun A1 p1 p2 p3 _ => (share_both d ha (by omega) N1 p1 p2 p3 hw1 hv1).1) (OZ_cpy _ _ _ _ _) (fun A1 p1 p2 p3 u hu e he hue => by
    obtain ⟨A2, _, q1, q2, q3⟩ := h.row
    have := (share_both 0 ha (by omega) N1 q1 q2 q3 hw1 hv1).2 p3 u hu e he
    rw [if_neg hue] at this
    exact this)
theorem J_wipe (d : Nat) {M : am_M} {n : Int} (hG : GR M n) (v a : Int) : AG M (n + 1) (am_m am_P (d + 20) j_Tv_wipe [am_r 5 0, am_i v, am_i a] M) (am_m am_P (d + 20) j_Md_wipe [am_r 6 504, am_i v, am_i a]) := by
  have hX : am_m am_P (d + 20) j_Tv_wipe [am_r 5 0, am_i v, am_i a] M = am_at am_P (d + 19) j_Tv_wipe 0 [am_r 5 0, am_i v, am_i a] [] M := rfl
  have hY : ∀ N, am_m am_P (d + 20) j_Md_wipe [am_r 6 504, am_i v, am_i a] N = am_at am_P (d + 19) j_Md_wipe 0 [am_r 6 504, am_i v, am_i a] [] N := fun _ => rfl
  unfold AG
  simp only [hX, hY, E_Tv_wipe_0, E_Md_wipe_0, Nat.reduceAdd, if_ot, if_to]
  rcases opn_both (d + 13) (d + 14) hG v with ⟨M', o1, o2, o3⟩ | ⟨M', A, o1, o2, o3, o4, o5, o6, o7, o8⟩
  · obtain ⟨N', e1, e2⟩ := o3 M' (o2 505 (by decide))
    rw [o1]
    simp only [bI_some, if_true]
    refine ⟨_, _, N', rfl, ?_, RF.gr hG (by omega) (fun k hk => o2 k (by omega)) e2⟩
    rw [e1]; simp only [bI_some, if_true]
  · obtain ⟨N', e1, e2⟩ := o8 M' (o2 505 (by decide))
    have hN5 : N' 505 = wc A (M' 4) := by rw [e2.1 505 (by omega)]; exact o4
    have hno := RF.gr (n' := n + 1) hG (by omega) (fun k hk => o2 k (by omega)) e2
    obtain ⟨w, hw⟩ : ∃ w : Nat, v = (w : Int) := ⟨v.toNat, by have := o6.1; omega⟩
    subst hw
    have hs := (o5.1.mv.2 w o6.1 o6.2.1).1
    rw [o1]
    simp only [bI_some, show ¬ ((1 : Int) = 0) by decide, if_false, S_Tv_isInside]
    by_cases ha : thS M' w ∧ 0 ≤ a ∧ a < M' 7 w
    · simp only [b2_t ha, show ¬ ((1 : Int) = 0) by decide, if_false, S_St_blockAt, bI_some]
      by_cases hx : blkS M' w a = -1
      · simp only [if_pos hx]
        refine ⟨_, _, N', rfl, ?_, hno⟩
        rw [e1]
        simp only [bI_some, show ¬ ((1 : Int) = 0) by decide, if_false, R_isAddress (d + 16) o5.1.mv hN5, b2_t ha, R_blockAt (d + 16) o5.1.pi o5.1.rv o6 (show 0 ≤ a ∧ a < 512 by omega) hN5, if_pos hx]
      · simp only [if_neg hx]
        obtain ⟨q, hq, hq2⟩ := o3.q
        obtain ⟨b0, b1, b2, b3, b4⟩ := beg_opr o3 o5 o6 hq
        have hop : ∀ N1 : am_M, N1 505 = wc A (M' 4) → N1 504 2 = 0 → ∃ N2, (am_m am_P (d + 19) j_Md_wipeNow [am_r 6 504, am_i (w : Int), am_i a] N1 = some (none, N2)) ∧ ((clS (csS q 1 M') w a).1 = 0 ∨ (clS (csS q 1 M') w a).1 = 1) ∧ OPR A (csS q 1 M') N1 w (clS (csS q 1 M') w a).1 (clS (csS q 1 M') w a).2 N2 := fun N1 h5 _ =>
          (b4 N1 h5).clr (d + 9) b1 (by rw [b0 7 (by omega)]; exact hs.2.1) (by rw [b0 7 (by omega)]; exact ha.2) (by rw [blk_ct b1, b0 6 (by omega), b0 10 (by omega), ← blk_ct o6]; exact hx)
        obtain ⟨-, b, M3, s1, s2, s3, s4⟩ := hand_fin (d + 11) (d + 12) o3 o5 o4 o6 hq hop
        rw [(hand_fin (d + 16) 0 o3 o5 o4 o6 hq hop).1]
        simp only [bV_some, S_St_clear (d + 10), bI_some, s1, if_t s2]
        obtain ⟨N'', e1', e2'⟩ := o8 M3 (by rw [s3 505 (by omega), o2 505 (by decide)])
        have hN5' : N'' 505 = wc A (M' 4) := by rw [e2'.1 505 (by omega), s3 505 (by omega)]; exact o4
        obtain ⟨N1, N2, M6, n1, n2, n3, n4, n5, n6, n7⟩ := s4 N'' e2'
        refine ⟨_, _, M6, rfl, ?_, n6, fun k hk => by rw [n7 k hk, o2 k (by omega)]⟩
        rw [e1']
        simp only [bI_some, show ¬ ((1 : Int) = 0) by decide, if_false, R_isAddress (d + 16) o5.1.mv hN5', b2_t ha, R_blockAt (d + 16) o5.1.pi o5.1.rv o6 (show 0 ≤ a ∧ a < 512 by omega) hN5', if_neg hx, n1, bV_some, n4, n5, if_t s2]
    · simp only [b2_f ha, if_true, bI_some]
      refine ⟨_, _, N', rfl, ?_, hno⟩
      rw [e1]
      simp only [bI_some, show ¬ ((1 : Int) = 0) by decide, if_false, R_isAddress (d + 16) o5.1.mv hN5, b2_f ha, if_true]
