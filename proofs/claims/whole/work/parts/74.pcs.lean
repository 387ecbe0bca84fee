/-! pieces FILLED, SHARED, MOVED (mkhand.py, gen74.py) -/
theorem puS_01 (M : am_M) (v a x : Int) : (puS M v a x).1 = 0 ∨ (puS M v a x).1 = 1 := by
  unfold puS pu2
  split
  · exact Or.inl rfl
  · split
    · split <;> exact Or.inr rfl
    · split
      · exact Or.inr rfl
      · split
        · exact Or.inl rfl
        · split <;> exact Or.inr rfl
theorem cpyS_01 (M : am_M) (v a w b : Int) : (cpyS M v a w b).1 = 0 ∨ (cpyS M v a w b).1 = 1 := by
  unfold cpyS
  split
  · exact clS_01 _ _ _
  · split
    · exact Or.inl rfl
    · exact Or.inr rfl
theorem mvS_01 (M : am_M) (v a b : Int) : (mvS M v a b).1 = 0 ∨ (mvS M v a b).1 = 1 := by
  unfold mvS
  split
  · exact Or.inl rfl
  · exact clS_01 _ _ _
theorem J_fill (d : Nat) {M : am_M} {n : Int} (hG : GR M n) (v a m x : Int) : AG M (n + 1) (am_m am_P (d + 20) j_Tv_fill [am_r 5 0, am_i v, am_i a, am_i m, am_i x] M) (am_m am_P (d + 20) j_Md_fill [am_r 6 504, am_i v, am_i a, am_i m, am_i x]) := by
  have hX : am_m am_P (d + 20) j_Tv_fill [am_r 5 0, am_i v, am_i a, am_i m, am_i x] M = am_at am_P (d + 19) j_Tv_fill 0 [am_r 5 0, am_i v, am_i a, am_i m, am_i x, am_u, am_u] [] M := rfl
  have hY : ∀ N, am_m am_P (d + 20) j_Md_fill [am_r 6 504, am_i v, am_i a, am_i m, am_i x] N = am_at am_P (d + 19) j_Md_fill 0 [am_r 6 504, am_i v, am_i a, am_i m, am_i x, am_u] [] N := fun _ => rfl
  unfold AG
  simp only [hX, hY, E_Tv_fill_0, E_Md_fill_0, Nat.reduceAdd, if_ot, if_to]
  rcases opn_both (d + 13) (d + 14) hG v with ⟨M', o1, o2, o3⟩ | ⟨M', A, o1, o2, o3, o4, o5, o6, o7, o8⟩
  · obtain ⟨N', e1, e2⟩ := o3 M' (o2 505 (by decide))
    rw [o1]
    simp only [bI_some, if_true]
    refine ⟨_, _, N', rfl, ?_, RF.gr hG (by omega) (fun k hk => o2 k (by omega)) e2⟩
    rw [e1]; simp only [bI_some, if_true]
  · obtain ⟨N', e1, e2⟩ := o8 M' (o2 505 (by decide))
    have hN5 : N' 505 = wc A (M' 4) := by rw [e2.1 505 (by omega)]; exact o4
    have hno := RF.gr (n' := n + 1) hG (by omega) (fun k hk => o2 k (by omega)) e2
    obtain ⟨w, hw⟩ : ∃ w : Nat, v = (w : Int) := ⟨v.toNat, by have := o6.1; omega⟩
    subst hw
    have hs := (o5.1.mv.2 w o6.1 o6.2.1).1
    rw [o1]
    simp only [bI_some, show ¬ ((1 : Int) = 0) by decide, if_false]
    by_cases ha : 1 ≤ m ∧ m ≤ 64 ∧ thS M' w ∧ 0 ≤ a ∧ a < M' 7 w ∧ am_wr (a + m) ≤ M' 7 w
    · simp only [S_Tv_isPiece, bI_some, b2_t ha, show ¬ ((1 : Int) = 0) by decide, if_false]
      by_cases hx : 0 ≤ x ∧ x < 1000000
      · simp only [S_Tv_isValue, bI_some, b2_t hx, show ¬ ((1 : Int) = 0) by decide, if_false]
        obtain ⟨q, hq, hq2⟩ := o3.q
        obtain ⟨b0, b1, b2, b3, b4⟩ := beg_opr o3 o5 o6 hq
        obtain ⟨g, hg⟩ : ∃ g : Int → am_M → Int × am_M, g = fun i M => puS M w (a + i) x := ⟨_, rfl⟩
        have hop : ∀ N1 : am_M, N1 505 = wc A (M' 4) → N1 504 2 = 0 → ∃ N2, (am_at am_P (d + 19) j_Md_fill 38 [am_r 6 504, am_i (w : Int), am_i a, am_i m, am_i x, am_i 0] [] N1 = am_bI (am_m am_P (d + 19) j_Md_end [am_r 6 504, am_i (w : Int)] N2) fun x2 M1 => am_if (x2 = 0 ∨ x2 = 1) (some (some (am_i x2), M1))) ∧ ((itO g m.toNat 0 (csS q 1 M')).1 = 0 ∨ (itO g m.toNat 0 (csS q 1 M')).1 = 1) ∧ OPR A (csS q 1 M') N1 w (itO g m.toNat 0 (csS q 1 M')).1 (itO g m.toNat 0 (csS q 1 M')).2 N2 := fun N1 h5 h2 => by
          obtain ⟨N2, f1, f2⟩ := lpR (G := fun i N => am_at am_P (d + 19) j_Md_fill 38 [am_r 6 504, am_i (w : Int), am_i a, am_i m, am_i x, am_i i] [] N) (E := fun N2 => am_bI (am_m am_P (d + 19) j_Md_end [am_r 6 504, am_i (w : Int)] N2) fun x2 M1 => am_if (x2 = 0 ∨ x2 = 1) (some (some (am_i x2), M1))) (g := g) (n := m) (A0 := A) (M0 := csS q 1 M') (N1 := N1) (v := w) (fun i N hi => by
            (try dsimp only)
            rw [E_Md_fill_38, if_neg hi]) (fun i N hi h1 => by
            (try dsimp only)
            rw [E_Md_fill_38, if_pos hi, if_neg (by omega)]) (fun i M N i0 i1 hO => by
            (try dsimp only)
            have hw1 := wr_id (z := a + m) (by omega) (by omega)
            obtain ⟨N', f1, f2, f3⟩ := hO.put (d + 9) b1 (by rw [b0 7 (by omega)]; exact hs.2.1) (by rw [b0 1 (by omega)]; exact o5.1.mv.1.1) (a := a + i) (x := x) (by omega) (by rw [b0 7 (by omega)]; omega)
            rw [hg]
            refine ⟨N', ?_, f2, f3⟩
            rw [E_Md_fill_38, if_pos i1, if_pos (hO.ns h2), wr_id (z := a + i) (by omega) (by omega), f1, bV_some, v_eq, wr_id (by omega) (by omega)]) m.toNat 0 (csS q 1 M') N1 (by omega) (by omega) (b4 N1 h5)
          exact ⟨N2, f1, itO_01 _ _ _ _, f2⟩
        have hcl : am_at am_P (d + 19) j_Tv_fill 38 [am_r 5 0, am_i (w : Int), am_i a, am_i m, am_i x, am_i 1, am_i 0] [] (csS q 1 M') = am_bI (am_m am_P (d + 19) j_Tv_settle [am_r 5 0, am_i (itO g m.toNat 0 (csS q 1 M')).1] (itO g m.toNat 0 (csS q 1 M')).2) fun x2 M1 => am_if (x2 = 0 ∨ x2 = 1) (some (some (am_i x2), M1)) :=
          lp_can (F := fun r i M => am_at am_P (d + 19) j_Tv_fill 38 [am_r 5 0, am_i (w : Int), am_i a, am_i m, am_i x, am_i r, am_i i] [] M) (S := fun r M => am_bI (am_m am_P (d + 19) j_Tv_settle [am_r 5 0, am_i r] M) fun x2 M1 => am_if (x2 = 0 ∨ x2 = 1) (some (some (am_i x2), M1))) (g := g) (n := m) (fun i M => by rw [hg]; exact puS_01 _ _ _ _) (fun r i M hi => by
            (try dsimp only)
            rw [E_Tv_fill_38, if_neg hi]) (fun i M hi => by
            (try dsimp only)
            rw [E_Tv_fill_38, if_pos hi, if_pos rfl]) (fun i M i0 i1 => by
            (try dsimp only)
            rw [E_Tv_fill_38, if_pos i1, if_neg (by decide)]
            rw [wr_id (z := a + i) (by omega) (by omega), S_St_put (d + 10), bI_some, v_eq, v_eq, wr_id (z := i + 1) (by omega) (by omega), hg]) m.toNat 0 _ (by omega) (by omega)
        obtain ⟨-, bo, M3, s1, s2, s3, s4⟩ := hand_fin (d + 11) (d + 12) o3 o5 o4 o6 hq hop
        rw [(hand_fin (d + 16) 0 o3 o5 o4 o6 hq hop).1]
        simp only [bV_some, v_eq, hcl, s1, bI_some, if_t s2]
        obtain ⟨N'', e1', e2'⟩ := o8 M3 (by rw [s3 505 (by omega), o2 505 (by decide)])
        have hN5' : N'' 505 = wc A (M' 4) := by rw [e2'.1 505 (by omega), s3 505 (by omega)]; exact o4
        obtain ⟨N1, N2, M6, n1, n2, n3, n4, n5, n6, n7⟩ := s4 N'' e2'
        refine ⟨_, _, M6, rfl, ?_, n6, fun k hk => by rw [n7 k hk, o2 k (by omega)]⟩
        rw [e1']
        simp only [bI_some, show ¬ ((1 : Int) = 0) by decide, if_false, R_isRow (d + 15) o5.1.mv hN5', b2_t ha, show ¬ ((1 : Int) = 0) by decide, if_false, S_Md_isIn, b2_t (show 0 ≤ x ∧ x ≤ 999999 by omega), show ¬ ((1 : Int) = 0) by decide, if_false, n1, bV_some, v_eq, n4, n5, if_t s2]
      · simp only [S_Tv_isValue, bI_some, b2_f hx, if_true]
        refine ⟨_, _, N', rfl, ?_, hno⟩
        rw [e1]
        simp only [bI_some, show ¬ ((1 : Int) = 0) by decide, if_false, R_isRow (d + 15) o5.1.mv hN5, b2_t ha, show ¬ ((1 : Int) = 0) by decide, if_false, S_Md_isIn, b2_f (show ¬ (0 ≤ x ∧ x ≤ 999999) by omega), if_true]
    · simp only [S_Tv_isPiece, bI_some, b2_f ha, if_true]
      refine ⟨_, _, N', rfl, ?_, hno⟩
      rw [e1]
      simp only [bI_some, show ¬ ((1 : Int) = 0) by decide, if_false, R_isRow (d + 15) o5.1.mv hN5, b2_f ha, if_true]
theorem J_share (d : Nat) {M : am_M} {n : Int} (hG : GR M n) (u a v b m : Int) : AG M (n + 1) (am_m am_P (d + 20) j_Tv_share [am_r 5 0, am_i u, am_i a, am_i v, am_i b, am_i m] M) (am_m am_P (d + 20) j_Md_share [am_r 6 504, am_i u, am_i a, am_i v, am_i b, am_i m]) := by
  have hX : am_m am_P (d + 20) j_Tv_share [am_r 5 0, am_i u, am_i a, am_i v, am_i b, am_i m] M = am_at am_P (d + 19) j_Tv_share 0 [am_r 5 0, am_i u, am_i a, am_i v, am_i b, am_i m, am_u, am_u] [] M := rfl
  have hY : ∀ N, am_m am_P (d + 20) j_Md_share [am_r 6 504, am_i u, am_i a, am_i v, am_i b, am_i m] N = am_at am_P (d + 19) j_Md_share 0 [am_r 6 504, am_i u, am_i a, am_i v, am_i b, am_i m, am_u] [] N := fun _ => rfl
  unfold AG
  simp only [hX, hY, E_Tv_share_0, E_Md_share_0, Nat.reduceAdd, if_ot, if_to]
  rcases opn_both (d + 13) (d + 14) hG v with ⟨M', o1, o2, o3⟩ | ⟨M', A, o1, o2, o3, o4, o5, o6, o7, o8⟩
  · obtain ⟨N', e1, e2⟩ := o3 M' (o2 505 (by decide))
    rw [o1]
    simp only [bI_some, if_true]
    refine ⟨_, _, N', rfl, ?_, RF.gr hG (by omega) (fun k hk => o2 k (by omega)) e2⟩
    rw [e1]; simp only [bI_some, if_true]
  · obtain ⟨N', e1, e2⟩ := o8 M' (o2 505 (by decide))
    have hN5 : N' 505 = wc A (M' 4) := by rw [e2.1 505 (by omega)]; exact o4
    have hno := RF.gr (n' := n + 1) hG (by omega) (fun k hk => o2 k (by omega)) e2
    obtain ⟨w, hw⟩ : ∃ w : Nat, v = (w : Int) := ⟨v.toNat, by have := o6.1; omega⟩
    subst hw
    have hs := (o5.1.mv.2 w o6.1 o6.2.1).1
    rw [o1]
    simp only [bI_some, show ¬ ((1 : Int) = 0) by decide, if_false]
    by_cases hne : ¬ u = (w : Int)
    · simp only [if_neg hne]
      by_cases ha : 1 ≤ m ∧ m ≤ 64 ∧ thS M' u ∧ 0 ≤ a ∧ a < M' 7 u ∧ am_wr (a + m) ≤ M' 7 u
      · simp only [S_Tv_isPiece, bI_some, b2_t ha, show ¬ ((1 : Int) = 0) by decide, if_false]
        by_cases hb : 1 ≤ m ∧ m ≤ 64 ∧ thS M' w ∧ 0 ≤ b ∧ b < M' 7 w ∧ am_wr (b + m) ≤ M' 7 w
        · simp only [S_Tv_isPiece, bI_some, b2_t hb, show ¬ ((1 : Int) = 0) by decide, if_false]
          obtain ⟨q, hq, hq2⟩ := o3.q
          obtain ⟨b0, b1, b2, b3, b4⟩ := beg_opr o3 o5 o6 hq
          obtain ⟨g, hg⟩ : ∃ g : Int → am_M → Int × am_M, g = fun i M => cpyS M u (a + i) w (b + i) := ⟨_, rfl⟩
          have hop : ∀ N1 : am_M, N1 505 = wc A (M' 4) → N1 504 2 = 0 → ∃ N2, (am_at am_P (d + 19) j_Md_share 45 [am_r 6 504, am_i u, am_i a, am_i (w : Int), am_i b, am_i m, am_i 0] [] N1 = am_bI (am_m am_P (d + 19) j_Md_end [am_r 6 504, am_i (w : Int)] N2) fun x2 M1 => am_if (x2 = 0 ∨ x2 = 1) (some (some (am_i x2), M1))) ∧ ((itO g m.toNat 0 (csS q 1 M')).1 = 0 ∨ (itO g m.toNat 0 (csS q 1 M')).1 = 1) ∧ OPR A (csS q 1 M') N1 w (itO g m.toNat 0 (csS q 1 M')).1 (itO g m.toNat 0 (csS q 1 M')).2 N2 := fun N1 h5 h2 => by
            obtain ⟨N2, f1, f2⟩ := lpR (G := fun i N => am_at am_P (d + 19) j_Md_share 45 [am_r 6 504, am_i u, am_i a, am_i (w : Int), am_i b, am_i m, am_i i] [] N) (E := fun N2 => am_bI (am_m am_P (d + 19) j_Md_end [am_r 6 504, am_i (w : Int)] N2) fun x2 M1 => am_if (x2 = 0 ∨ x2 = 1) (some (some (am_i x2), M1))) (g := g) (n := m) (A0 := A) (M0 := csS q 1 M') (N1 := N1) (v := w) (fun i N hi => by
              (try dsimp only)
              rw [E_Md_share_45, if_neg hi]) (fun i N hi h1 => by
              (try dsimp only)
              rw [E_Md_share_45, if_pos hi, if_neg (by omega)]) (fun i M N i0 i1 hO => by
              (try dsimp only)
              obtain ⟨z, hz⟩ : ∃ z : Nat, u = (z : Int) := ⟨u.toNat, by have := ha.2.2.1.1; omega⟩
              subst hz
              have hsz := (o5.1.mv.2 z ha.2.2.1.1 ha.2.2.1.2.1).1
              have hw1 := wr_id (z := a + m) (by omega) (by omega)
              have hw2 := wr_id (z := b + m) (by omega) (by omega)
              obtain ⟨N', f1, f2, f3⟩ := hO.shr (d + 8) b1 ((b2 z).mpr ha.2.2.1) (by rw [b0 7 (by omega)]; exact hs.2.1) (a := a + i) (b := b + i) (by omega) (by rw [b0 7 (by omega)]; omega)
              rw [hg]
              refine ⟨N', ?_, f2, f3⟩
              rw [E_Md_share_45, if_pos i1, if_pos (hO.ns h2), wr_id (z := a + i) (by omega) (by omega), wr_id (z := b + i) (by omega) (by omega), f1, bV_some, v_eq, wr_id (by omega) (by omega)]) m.toNat 0 (csS q 1 M') N1 (by omega) (by omega) (b4 N1 h5)
            exact ⟨N2, f1, itO_01 _ _ _ _, f2⟩
          have hcl : am_at am_P (d + 19) j_Tv_share 50 [am_r 5 0, am_i u, am_i a, am_i (w : Int), am_i b, am_i m, am_i 1, am_i 0] [] (csS q 1 M') = am_bI (am_m am_P (d + 19) j_Tv_settle [am_r 5 0, am_i (itO g m.toNat 0 (csS q 1 M')).1] (itO g m.toNat 0 (csS q 1 M')).2) fun x2 M1 => am_if (x2 = 0 ∨ x2 = 1) (some (some (am_i x2), M1)) :=
            lp_can (F := fun r i M => am_at am_P (d + 19) j_Tv_share 50 [am_r 5 0, am_i u, am_i a, am_i (w : Int), am_i b, am_i m, am_i r, am_i i] [] M) (S := fun r M => am_bI (am_m am_P (d + 19) j_Tv_settle [am_r 5 0, am_i r] M) fun x2 M1 => am_if (x2 = 0 ∨ x2 = 1) (some (some (am_i x2), M1))) (g := g) (n := m) (fun i M => by rw [hg]; exact cpyS_01 _ _ _ _ _) (fun r i M hi => by
              (try dsimp only)
              rw [E_Tv_share_50, if_neg hi]) (fun i M hi => by
              (try dsimp only)
              rw [E_Tv_share_50, if_pos hi, if_pos rfl]) (fun i M i0 i1 => by
              (try dsimp only)
              rw [E_Tv_share_50, if_pos i1, if_neg (by decide)]
              have := (o5.1.mv.2 u ha.2.2.1.1 ha.2.2.1.2.1).1
              rw [wr_id (z := a + i) (by omega) (by omega), wr_id (z := b + i) (by omega) (by omega), S_St_copyBlock (d + 9), bI_some, v_eq, v_eq, wr_id (z := i + 1) (by omega) (by omega), hg]) m.toNat 0 _ (by omega) (by omega)
          obtain ⟨-, bo, M3, s1, s2, s3, s4⟩ := hand_fin (d + 11) (d + 12) o3 o5 o4 o6 hq hop
          rw [(hand_fin (d + 16) 0 o3 o5 o4 o6 hq hop).1]
          simp only [bV_some, v_eq, hcl, s1, bI_some, if_t s2]
          obtain ⟨N'', e1', e2'⟩ := o8 M3 (by rw [s3 505 (by omega), o2 505 (by decide)])
          have hN5' : N'' 505 = wc A (M' 4) := by rw [e2'.1 505 (by omega), s3 505 (by omega)]; exact o4
          obtain ⟨N1, N2, M6, n1, n2, n3, n4, n5, n6, n7⟩ := s4 N'' e2'
          refine ⟨_, _, M6, rfl, ?_, n6, fun k hk => by rw [n7 k hk, o2 k (by omega)]⟩
          rw [e1']
          simp only [bI_some, show ¬ ((1 : Int) = 0) by decide, if_false, if_neg hne, R_isRow (d + 15) o5.1.mv hN5', b2_t ha, show ¬ ((1 : Int) = 0) by decide, if_false, R_isRow (d + 15) o5.1.mv hN5', b2_t hb, show ¬ ((1 : Int) = 0) by decide, if_false, n1, bV_some, v_eq, n4, n5, if_t s2]
        · simp only [S_Tv_isPiece, bI_some, b2_f hb, if_true]
          refine ⟨_, _, N', rfl, ?_, hno⟩
          rw [e1]
          simp only [bI_some, show ¬ ((1 : Int) = 0) by decide, if_false, if_neg hne, R_isRow (d + 15) o5.1.mv hN5, b2_t ha, show ¬ ((1 : Int) = 0) by decide, if_false, R_isRow (d + 15) o5.1.mv hN5, b2_f hb, if_true]
      · simp only [S_Tv_isPiece, bI_some, b2_f ha, if_true]
        refine ⟨_, _, N', rfl, ?_, hno⟩
        rw [e1]
        simp only [bI_some, show ¬ ((1 : Int) = 0) by decide, if_false, if_neg hne, R_isRow (d + 15) o5.1.mv hN5, b2_f ha, if_true]
    · simp only [if_pos (Classical.not_not.mp hne)]
      refine ⟨_, _, N', rfl, ?_, hno⟩
      rw [e1]
      simp only [bI_some, show ¬ ((1 : Int) = 0) by decide, if_false, if_pos (Classical.not_not.mp hne)]
theorem if_if {p q : Prop} [Decidable p] [Decidable q] (x y : Option am_O) : (if p then (if q then x else y) else y) = if p ∧ q then x else y := by
  by_cases hp : p
  · by_cases hq : q
    · rw [if_pos hp, if_pos hq, if_pos ⟨hp, hq⟩]
    · rw [if_pos hp, if_neg hq, if_neg (fun r => hq r.2)]
  · rw [if_neg hp, if_neg (fun r => hp r.1)]
theorem J_move (d : Nat) {M : am_M} {n : Int} (hG : GR M n) (v a b m : Int) : AG M (n + 1) (am_m am_P (d + 20) j_Tv_move [am_r 5 0, am_i v, am_i a, am_i b, am_i m] M) (am_m am_P (d + 20) j_Md_move [am_r 6 504, am_i v, am_i a, am_i b, am_i m]) := by
  have hX : am_m am_P (d + 20) j_Tv_move [am_r 5 0, am_i v, am_i a, am_i b, am_i m] M = am_at am_P (d + 19) j_Tv_move 0 [am_r 5 0, am_i v, am_i a, am_i b, am_i m, am_u, am_u] [] M := rfl
  have hY : ∀ N, am_m am_P (d + 20) j_Md_move [am_r 6 504, am_i v, am_i a, am_i b, am_i m] N = am_at am_P (d + 19) j_Md_move 0 [am_r 6 504, am_i v, am_i a, am_i b, am_i m, am_u] [] N := fun _ => rfl
  unfold AG
  simp only [hX, hY, E_Tv_move_0, E_Md_move_0, Nat.reduceAdd, if_ot, if_to]
  rcases opn_both (d + 13) (d + 14) hG v with ⟨M', o1, o2, o3⟩ | ⟨M', A, o1, o2, o3, o4, o5, o6, o7, o8⟩
  · obtain ⟨N', e1, e2⟩ := o3 M' (o2 505 (by decide))
    rw [o1]
    simp only [bI_some, if_true]
    refine ⟨_, _, N', rfl, ?_, RF.gr hG (by omega) (fun k hk => o2 k (by omega)) e2⟩
    rw [e1]; simp only [bI_some, if_true]
  · obtain ⟨N', e1, e2⟩ := o8 M' (o2 505 (by decide))
    have hN5 : N' 505 = wc A (M' 4) := by rw [e2.1 505 (by omega)]; exact o4
    have hno := RF.gr (n' := n + 1) hG (by omega) (fun k hk => o2 k (by omega)) e2
    obtain ⟨w, hw⟩ : ∃ w : Nat, v = (w : Int) := ⟨v.toNat, by have := o6.1; omega⟩
    subst hw
    have hs := (o5.1.mv.2 w o6.1 o6.2.1).1
    rw [o1]
    simp only [bI_some, show ¬ ((1 : Int) = 0) by decide, if_false]
    by_cases ha : 1 ≤ m ∧ m ≤ 64 ∧ thS M' w ∧ 0 ≤ a ∧ a < M' 7 w ∧ am_wr (a + m) ≤ M' 7 w
    · simp only [S_Tv_isPiece, bI_some, b2_t ha, show ¬ ((1 : Int) = 0) by decide, if_false]
      by_cases hb : 1 ≤ m ∧ m ≤ 64 ∧ thS M' w ∧ 0 ≤ b ∧ b < M' 7 w ∧ am_wr (b + m) ≤ M' 7 w
      · simp only [S_Tv_isPiece, bI_some, b2_t hb, show ¬ ((1 : Int) = 0) by decide, if_false]
        by_cases hov : ¬ (b < am_wr (a + m) ∧ a < am_wr (b + m))
        · simp only [if_if, if_neg hov]
          obtain ⟨q, hq, hq2⟩ := o3.q
          obtain ⟨b0, b1, b2, b3, b4⟩ := beg_opr o3 o5 o6 hq
          obtain ⟨g, hg⟩ : ∃ g : Int → am_M → Int × am_M, g = fun i M => mvS M w (a + i) (b + i) := ⟨_, rfl⟩
          have hop : ∀ N1 : am_M, N1 505 = wc A (M' 4) → N1 504 2 = 0 → ∃ N2, (am_at am_P (d + 19) j_Md_move 55 [am_r 6 504, am_i (w : Int), am_i a, am_i b, am_i m, am_i 0] [] N1 = am_bI (am_m am_P (d + 19) j_Md_end [am_r 6 504, am_i (w : Int)] N2) fun x2 M1 => am_if (x2 = 0 ∨ x2 = 1) (some (some (am_i x2), M1))) ∧ ((itO g m.toNat 0 (csS q 1 M')).1 = 0 ∨ (itO g m.toNat 0 (csS q 1 M')).1 = 1) ∧ OPR A (csS q 1 M') N1 w (itO g m.toNat 0 (csS q 1 M')).1 (itO g m.toNat 0 (csS q 1 M')).2 N2 := fun N1 h5 h2 => by
            obtain ⟨N2, f1, f2⟩ := lpR (G := fun i N => am_at am_P (d + 19) j_Md_move 55 [am_r 6 504, am_i (w : Int), am_i a, am_i b, am_i m, am_i i] [] N) (E := fun N2 => am_bI (am_m am_P (d + 19) j_Md_end [am_r 6 504, am_i (w : Int)] N2) fun x2 M1 => am_if (x2 = 0 ∨ x2 = 1) (some (some (am_i x2), M1))) (g := g) (n := m) (A0 := A) (M0 := csS q 1 M') (N1 := N1) (v := w) (fun i N hi => by
              (try dsimp only)
              rw [E_Md_move_55, if_neg hi]) (fun i N hi h1 => by
              (try dsimp only)
              rw [E_Md_move_55, if_pos hi, if_neg (by omega)]) (fun i M N i0 i1 hO => by
              (try dsimp only)
              have hw1 := wr_id (z := a + m) (by omega) (by omega)
              have hw2 := wr_id (z := b + m) (by omega) (by omega)
              have h7 : csS q 1 M' 7 w ≤ 512 := by rw [b0 7 (by omega)]; exact hs.2.1
              obtain ⟨N', f1, f2, f3⟩ := hO.shr (d + 8) b1 b1 h7 (a := a + i) (b := b + i) (by omega) (by rw [b0 7 (by omega)]; omega)
              rw [hg, E_Md_move_55, if_pos i1, if_pos (hO.ns h2), wr_id (z := a + i) (by omega) (by omega), wr_id (z := b + i) (by omega) (by omega), f1, bV_some, wr_id (z := i + 1) (by omega) (by omega)]
              (try dsimp only)
              unfold mvS
              rcases f2 with c0 | c1
              · rw [c0] at f3
                rw [if_neg (by rw [f3.sh]; decide), v_eq, if_pos c0]
                exact ⟨N', rfl, Or.inl rfl, f3⟩
              · rw [c1] at f3
                rw [if_pos (f3.ns h2), if_neg (by omega)]
                obtain ⟨A2, r1, r2, r3, r4⟩ := f3.row
                have hv2 := (f3.th w).mpr b1
                rw [R_blockAt (d + 16) r2 r3 hv2 (by omega) r1, bI_some]
                by_cases hk : blkS (cpyS M w (a + i) w (b + i)).2 w (a + i) = -1
                · have e : clS (cpyS M w (a + i) w (b + i)).2 w (a + i) = (1, (cpyS M w (a + i) w (b + i)).2) := by unfold clS; rw [if_pos hk]
                  rw [if_pos hk, v_eq, e]
                  exact ⟨N', rfl, Or.inr rfl, f3⟩
                · obtain ⟨N'', k1, k2, k3⟩ := f3.clr (d + 9) b1 h7 (a := a + i) (by rw [b0 7 (by omega)]; omega) hk
                  rw [if_neg hk, k1, bV_some, v_eq]
                  exact ⟨N'', rfl, k2, k3⟩) m.toNat 0 (csS q 1 M') N1 (by omega) (by omega) (b4 N1 h5)
            exact ⟨N2, f1, itO_01 _ _ _ _, f2⟩
          have hcl : am_at am_P (d + 19) j_Tv_move 62 [am_r 5 0, am_i (w : Int), am_i a, am_i b, am_i m, am_i 1, am_i 0] [] (csS q 1 M') = am_bI (am_m am_P (d + 19) j_Tv_settle [am_r 5 0, am_i (itO g m.toNat 0 (csS q 1 M')).1] (itO g m.toNat 0 (csS q 1 M')).2) fun x2 M1 => am_if (x2 = 0 ∨ x2 = 1) (some (some (am_i x2), M1)) :=
            lp_can (F := fun r i M => am_at am_P (d + 19) j_Tv_move 62 [am_r 5 0, am_i (w : Int), am_i a, am_i b, am_i m, am_i r, am_i i] [] M) (S := fun r M => am_bI (am_m am_P (d + 19) j_Tv_settle [am_r 5 0, am_i r] M) fun x2 M1 => am_if (x2 = 0 ∨ x2 = 1) (some (some (am_i x2), M1))) (g := g) (n := m) (fun i M => by rw [hg]; exact mvS_01 _ _ _ _) (fun r i M hi => by
              (try dsimp only)
              rw [E_Tv_move_62, if_neg hi]) (fun i M hi => by
              (try dsimp only)
              rw [E_Tv_move_62, if_pos hi, if_pos rfl]) (fun i M i0 i1 => by
              (try dsimp only)
              rw [E_Tv_move_62, if_pos i1, if_neg (by decide)]
              rw [wr_id (z := a + i) (by omega) (by omega), wr_id (z := b + i) (by omega) (by omega), S_St_moveBlock (d + 8), bI_some, v_eq, v_eq, wr_id (z := i + 1) (by omega) (by omega), hg]) m.toNat 0 _ (by omega) (by omega)
          obtain ⟨-, bo, M3, s1, s2, s3, s4⟩ := hand_fin (d + 11) (d + 12) o3 o5 o4 o6 hq hop
          rw [(hand_fin (d + 16) 0 o3 o5 o4 o6 hq hop).1]
          simp only [bV_some, v_eq, hcl, s1, bI_some, if_t s2]
          obtain ⟨N'', e1', e2'⟩ := o8 M3 (by rw [s3 505 (by omega), o2 505 (by decide)])
          have hN5' : N'' 505 = wc A (M' 4) := by rw [e2'.1 505 (by omega), s3 505 (by omega)]; exact o4
          obtain ⟨N1, N2, M6, n1, n2, n3, n4, n5, n6, n7⟩ := s4 N'' e2'
          refine ⟨_, _, M6, rfl, ?_, n6, fun k hk => by rw [n7 k hk, o2 k (by omega)]⟩
          rw [e1']
          simp only [bI_some, show ¬ ((1 : Int) = 0) by decide, if_false, R_isRow (d + 15) o5.1.mv hN5', b2_t ha, show ¬ ((1 : Int) = 0) by decide, if_false, R_isRow (d + 15) o5.1.mv hN5', b2_t hb, show ¬ ((1 : Int) = 0) by decide, if_false, if_if, if_neg (show ¬ (a < am_wr (b + m) ∧ b < am_wr (a + m)) from fun q => hov ⟨q.2, q.1⟩), n1, bV_some, v_eq, n4, n5, if_t s2]
        · simp only [if_if, if_pos (Classical.not_not.mp hov)]
          refine ⟨_, _, N', rfl, ?_, hno⟩
          rw [e1]
          simp only [bI_some, show ¬ ((1 : Int) = 0) by decide, if_false, R_isRow (d + 15) o5.1.mv hN5, b2_t ha, show ¬ ((1 : Int) = 0) by decide, if_false, R_isRow (d + 15) o5.1.mv hN5, b2_t hb, show ¬ ((1 : Int) = 0) by decide, if_false, if_if, if_pos (show a < am_wr (b + m) ∧ b < am_wr (a + m) from ⟨(Classical.not_not.mp hov).2, (Classical.not_not.mp hov).1⟩)]
      · simp only [S_Tv_isPiece, bI_some, b2_f hb, if_true]
        refine ⟨_, _, N', rfl, ?_, hno⟩
        rw [e1]
        simp only [bI_some, show ¬ ((1 : Int) = 0) by decide, if_false, R_isRow (d + 15) o5.1.mv hN5, b2_t ha, show ¬ ((1 : Int) = 0) by decide, if_false, R_isRow (d + 15) o5.1.mv hN5, b2_f hb, if_true]
    · simp only [S_Tv_isPiece, bI_some, b2_f ha, if_true]
      refine ⟨_, _, N', rfl, ?_, hno⟩
      rw [e1]
      simp only [bI_some, show ¬ ((1 : Int) = 0) by decide, if_false, R_isRow (d + 15) o5.1.mv hN5, b2_f ha, if_true]
