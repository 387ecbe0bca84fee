/-! rows DONE: receive, commit (mkhand.py, gen75.py) -/
/-- one row of an address and a value -/
def dgS (M : am_M) (v a x : Int) : Int × am_M := if 0 ≤ a ∧ a < M 7 v then (if x = -1 then clS M v a else puS M v a x) else (0, M)
theorem OPR.row1 (d : Nat) {A0 : Int → Int} {M0 N1 M N : am_M} {v : Nat} {n : Int} (hJ : JY M0 A0 n) (hv : thS M0 v) {a x : Int} (hx : -1 ≤ x ∧ x ≤ 999999) (h : OPR A0 M0 N1 v 1 M N) : ∃ N', am_m am_P (d + 11) j_Md_doRow [am_r 6 504, am_i v, am_i a, am_i x] N = some (none, N') ∧ ((dgS M v a x).1 = 0 ∨ (dgS M v a x).1 = 1) ∧ OPR A0 M0 N1 v (dgS M v a x).1 (dgS M v a x).2 N' := by
  have hX : am_m am_P (d + 11) j_Md_doRow [am_r 6 504, am_i v, am_i a, am_i x] N = am_at am_P (d + 10) j_Md_doRow 0 [am_r 6 504, am_i v, am_i a, am_i x] [] N := rfl
  have hv1 := (h.th v).mpr hv
  have h7 := (hJ.mv.2 v hv.1 hv.2.1).1.2.1
  have e7 : M 7 = M0 7 := h.1 7 (by decide) (by decide) (by decide) (by decide) (by decide)
  obtain ⟨hf, ho, hd⟩ := id h
  rcases (h.dn hJ hv).1 with ⟨q, _⟩ | ⟨_, A, a1, a2, a3⟩
  · omega
  · have hN5 : N 505 = wc A (M 4) := by rw [a1, st_eq]
    rw [hX, E_Md_doRow_0, R_isAddress (d + 7) a3.mv hN5, bI_some]
    simp only [if_ot, if_to]
    unfold dgS
    by_cases ha : 0 ≤ a ∧ a < M 7 v
    · rw [b2_t ⟨hv1, ha⟩, if_neg (by decide), if_pos ha]
      rw [e7] at ha
      by_cases h1 : x = -1
      · rw [if_pos h1, if_pos h1, R_blockAt (d + 7) a3.pi a3.rv hv1 (by omega) hN5, bI_some]
        by_cases hk : blkS M v a = -1
        · have e : clS M v a = (1, M) := by unfold clS; rw [if_pos hk]
          rw [if_pos hk, e]
          exact ⟨N, rfl, Or.inr rfl, h⟩
        · obtain ⟨N', k1, k2, k3⟩ := h.clr d hv h7 ha hk
          rw [if_neg hk, k1, bV_some]
          exact ⟨N', rfl, k2, k3⟩
      · obtain ⟨N', k1, k2, k3⟩ := h.put d hv h7 hJ.mv.1.1 (x := x) (by omega) ha
        rw [if_neg h1, if_neg h1, k1, bV_some]
        exact ⟨N', rfl, k2, k3⟩
    · rw [b2_f (fun q => ha q.2), if_pos rfl, if_neg ha, w_eq]
      refine ⟨_, rfl, Or.inl rfl, hf, ho, Or.inl ⟨rfl, wc A (M 4), by rw [a1], fun y hy => by rw [wc_o _ _ (by omega)]; exact a2 y hy⟩⟩
theorem ti_opr {r m : Nat} (hr : 14 < r) {G : Int → am_M → Option am_O} {E : am_M → Option am_O} {A0 : Int → Int} {M0 N1 : am_M} {v : Nat} (d : Nat) {n : Int} (hJ : JY M0 A0 n) (hv : thS M0 v) (hc : M0 r 2 ≤ m) (hx : ∀ i : Int, 0 ≤ i → i < M0 r 2 → -1 ≤ M0 (r + 2) i ∧ M0 (r + 2) i ≤ 999999)
    (hend : ∀ (i : Int) (r' : Int) (M N : am_M), OPR A0 M0 N1 v r' M N → ¬ i < M0 r 2 → G i N = E N) (hsh : ∀ (i : Int) (M N : am_M), OPR A0 M0 N1 v 0 M N → i < M0 r 2 → G i N = E N) (hst : ∀ (i : Int) (M N : am_M), 0 ≤ i → i < M0 r 2 → OPR A0 M0 N1 v 1 M N → G i N = am_bV (am_m am_P (d + 11) j_Md_doRow [am_r 6 504, am_i v, am_i (M0 (r + 1) i), am_i (M0 (r + 2) i)] N) fun N' => G (i + 1) N') :
    ∀ (k : Nat) (i : Int) (M N : am_M), 0 ≤ i → i + k = m → OPR A0 M0 N1 v 1 M N → ∃ N2, G i N = E N2 ∧ ((tiS r m v k i M).1 = 0 ∨ (tiS r m v k i M).1 = 1) ∧ OPR A0 M0 N1 v (tiS r m v k i M).1 (tiS r m v k i M).2 N2
  | 0, i, M, N, hi, hk, h => by
    have er : M r = M0 r := h.1 r (by omega) (by omega) (by omega) (by omega) (by omega)
    unfold tiS
    rw [er, if_neg (by omega)]
    exact ⟨N, hend i 1 M N h (by omega), Or.inr rfl, h⟩
  | k + 1, i, M, N, hi, hk, h => by
    have er : M r = M0 r := h.1 r (by omega) (by omega) (by omega) (by omega) (by omega)
    have er1 : M (r + 1) = M0 (r + 1) := h.1 _ (by omega) (by omega) (by omega) (by omega) (by omega)
    have er2 : M (r + 2) = M0 (r + 2) := h.1 _ (by omega) (by omega) (by omega) (by omega) (by omega)
    have ih := ti_opr hr d hJ hv hc hx hend hsh hst k
    unfold tiS
    rw [er]
    by_cases hc0 : i < M0 r 2
    · have t0 : tlS r m M i 0 = M0 (r + 1) i := by unfold tlS; rw [er, if_pos ⟨hi, hc0, by omega⟩, if_pos rfl, er1]
      have t1 : tlS r m M i 1 = M0 (r + 2) i := by unfold tlS; rw [er, if_pos ⟨hi, hc0, by omega⟩, if_neg (by decide), if_pos rfl, er2]
      rw [if_pos hc0, t0, t1, hst i M N hi hc0 h]
      obtain ⟨N', k1, k2, k3⟩ := h.row1 d hJ hv (a := M0 (r + 1) i) (hx i hi hc0)
      rw [k1, bV_some]
      have fin0 : ∀ M', OPR A0 M0 N1 v 0 M' N' → G (i + 1) N' = E N' := fun M' hO => by
        by_cases h2 : i + 1 < M0 r 2
        · exact hsh _ M' N' hO h2
        · exact hend _ 0 M' N' hO h2
      unfold dgS at k2 k3
      by_cases ha : 0 ≤ M0 (r + 1) i ∧ M0 (r + 1) i < M 7 v
      · rw [if_pos ha] at k2 k3 ⊢
        by_cases h1 : M0 (r + 2) i = -1
        · rw [if_pos h1] at k2 k3 ⊢
          by_cases h0 : (clS M v (M0 (r + 1) i)).1 = 0
          · rw [if_pos h0]
            rw [h0] at k3
            exact ⟨N', fin0 _ k3, Or.inl rfl, k3⟩
          · rw [if_neg h0]
            rw [show (clS M v (M0 (r + 1) i)).1 = 1 by omega] at k3
            exact ih (i + 1) _ N' (by omega) (by omega) k3
        · rw [if_neg h1] at k2 k3 ⊢
          by_cases h0 : (puS M v (M0 (r + 1) i) (M0 (r + 2) i)).1 = 0
          · rw [if_pos h0]
            rw [h0] at k3
            exact ⟨N', fin0 _ k3, Or.inl rfl, k3⟩
          · rw [if_neg h0]
            rw [show (puS M v (M0 (r + 1) i) (M0 (r + 2) i)).1 = 1 by omega] at k3
            exact ih (i + 1) _ N' (by omega) (by omega) k3
      · rw [if_neg ha] at k2 k3 ⊢
        exact ⟨N', fin0 _ k3, Or.inl rfl, k3⟩
    · rw [if_neg hc0]
      exact ⟨N, hend i 1 M N h hc0, Or.inr rfl, h⟩
theorem OPR.fld {A0 : Int → Int} {M0 N1 M N : am_M} {v : Nat} {r : Int} (h : OPR A0 M0 N1 v r M N) : (∀ k : Nat, k ≠ 504 → k ≠ 505 → N k = N1 k) ∧ ∀ j : Int, j ≠ 2 → N 504 j = N1 504 j := by
  rcases h.2.2 with ⟨_, R, r1, _⟩ | ⟨_, A, a1, _⟩
  · exact ⟨fun k k4 k5 => by rw [r1, set_ne _ _ _ k4, st_ne _ _ k5], fun j hj => by rw [r1, set_eq, up_ne _ _ hj, st_ne _ _ (by decide)]⟩
  · exact ⟨fun k _ k5 => by rw [a1, st_ne _ _ k5], fun j _ => by rw [a1, st_ne _ _ (by decide)]⟩
theorem J_receive (d : Nat) {M : am_M} {n : Int} (hG : GR M n) (v : Int) : AG M (n + 1) (am_m am_P (d + 20) j_Tv_receive [am_r 5 0, am_i v] M) (am_m am_P (d + 20) j_Md_receive [am_r 6 504, am_i v]) := by
  have hX : am_m am_P (d + 20) j_Tv_receive [am_r 5 0, am_i v] M = am_at am_P (d + 19) j_Tv_receive 0 [am_r 5 0, am_i v] [] M := rfl
  have hY : ∀ N, am_m am_P (d + 20) j_Md_receive [am_r 6 504, am_i v] N = am_at am_P (d + 19) j_Md_receive 0 [am_r 6 504, am_i v, am_u] [] N := fun _ => rfl
  unfold AG
  simp only [hX, hY, E_Tv_receive_0, E_Md_receive_0, Nat.reduceAdd, if_ot, if_to]
  rcases opn_both (d + 13) (d + 14) hG v with ⟨M', o1, o2, o3⟩ | ⟨M', A, o1, o2, o3, o4, o5, o6, o7, o8⟩
  · obtain ⟨N', e1, e2⟩ := o3 M' (o2 505 (by decide))
    rw [o1]
    simp only [bI_some, if_true]
    refine ⟨_, _, N', rfl, ?_, RF.gr hG (by omega) (fun k hk => o2 k (by omega)) e2⟩
    rw [e1]; simp only [bI_some, if_true]
  · obtain ⟨N', e1, e2⟩ := o8 M' (o2 505 (by decide))
    have hN5 : N' 505 = wc A (M' 4) := by rw [e2.1 505 (by omega)]; exact o4
    have hno := RF.gr (n' := n + 1) hG (by omega) (fun k hk => o2 k (by omega)) e2
    obtain ⟨w, hw⟩ : ∃ w : Nat, v = (w : Int) := ⟨v.toNat, by have := o6.1; omega⟩
    subst hw
    have hs := (o5.1.mv.2 w o6.1 o6.2.1).1
    rw [o1]
    simp only [bI_some, show ¬ ((1 : Int) = 0) by decide, if_false]
    obtain ⟨q, hq, hq2⟩ := o3.q
    obtain ⟨b0, b1, b2, b3, b4⟩ := beg_opr o3 o5 o6 hq
    have hqr := isB_rng (show isB (q : Int) by rw [← hq]; exact o3.1.1.1)
    have hrw := o3.1.2.2.2.2.2.2
    have ec : ∀ k : Nat, 255 ≤ k → csS q 1 M' k = M' k := fun k hk => cs_off _ _ _ (by omega)
    have hop : ∀ N1 : am_M, N1 505 = wc A (M' 4) → N1 504 2 = 0 → (N1 504 13 = M' 504 13 ∧ N1 504 16 = M' 504 16 ∧ ∀ k : Nat, 513 ≤ k → N1 k = M' k) → ∃ N2, (am_at am_P (d + 19) j_Md_receive 16 [am_r 6 504, am_i (w : Int), am_i 0] [] N1 = am_bI (am_m am_P (d + 19) j_Md_end [am_r 6 504, am_i (w : Int)] N2) fun x2 M1 => am_if (x2 = 0 ∨ x2 = 1) (some (some (am_i x2), M1))) ∧ ((tiS 495 512 w 512 0 (csS q 1 M')).1 = 0 ∨ (tiS 495 512 w 512 0 (csS q 1 M')).1 = 1) ∧ OPR A (csS q 1 M') N1 w (tiS 495 512 w 512 0 (csS q 1 M')).1 (tiS 495 512 w 512 0 (csS q 1 M')).2 N2 := fun N1 h5 h2 hx1 => by
      obtain ⟨m', hm'⟩ : ∃ m' : Nat, m' = 512 := ⟨_, rfl⟩
      rw [← hm']
      refine ti_opr (r := 495) (m := m') (by decide) (G := fun i N => am_at am_P (d + 19) j_Md_receive 16 [am_r 6 504, am_i (w : Int), am_i i] [] N) (E := fun N2 => am_bI (am_m am_P (d + 19) j_Md_end [am_r 6 504, am_i (w : Int)] N2) fun x2 M1 => am_if (x2 = 0 ∨ x2 = 1) (some (some (am_i x2), M1))) (d + 8) b3.1 b1 ?_ ?_ ?_ ?_ ?_ m' 0 (csS q 1 M') N1 (by omega) (by omega) (b4 N1 h5)
      · rw [ec 495 (by omega)]; have := hrw.1.1; omega
      · intro i i0 i1
        rw [ec 495 (by omega)] at i1
        rw [ec (495 + 2) (by omega)]
        exact (hrw.1.2.2 i i0 i1).2.2.2
      · intro i r' M N hO hi
        rw [ec 495 (by omega)] at hi
        (try dsimp only)
        rw [E_Md_receive_16, hO.fld.2 13 (by decide), hx1.1, hrw.1.2.1, if_neg hi]
      · intro i M N hO hi
        rw [ec 495 (by omega)] at hi
        (try dsimp only)
        rw [E_Md_receive_16, hO.fld.2 13 (by decide), hx1.1, hrw.1.2.1, if_pos hi, if_neg (by rw [hO.sh]; decide)]
      · intro i M N i0 i1 hO
        rw [ec 495 (by omega)] at i1
        have hb := hrw.1.1
        obtain ⟨g1, g2, _⟩ := hrw.1.2.2 i i0 i1
        (try dsimp only)
        rw [E_Md_receive_16, hO.fld.2 13 (by decide), hx1.1, hrw.1.2.1, if_pos i1, if_pos (hO.ns h2), if_t (by omega), if_t (by omega)]
        simp only [Nat.reduceAdd]
        rw [hO.fld.1 _ (by decide) (by decide), hO.fld.1 _ (by decide) (by decide), hx1.2.2 _ (by decide), hx1.2.2 _ (by decide), g1, g2, ec (495 + 1) (by omega), ec (495 + 2) (by omega)]
        simp only [v_eq, wr_id (z := i + 1) (by omega) (by omega)]
    obtain ⟨-, bo, M3, s1, s2, s3, s4⟩ := hand_fin' (d + 11) (d + 12) o3 o5 o4 o6 hq hop
    rw [(hand_fin' (d + 16) 0 o3 o5 o4 o6 hq hop).1]
    simp only [bV_some, v_eq, S_St_takeIn3 (d + 9) 495 (csS q 1 M') b1, s1, bI_some]
    rw [if_t s2]
    obtain ⟨N'', e1', e2'⟩ := o8 M3 (by rw [s3 505 (by omega), o2 505 (by decide)])
    obtain ⟨N1, N2, M6, n1, n2, n3, n4, n5, n6, n7, n8, n9⟩ := s4 N'' (fun k hk => e2'.1 k (by omega)) (by rw [e2'.2.1, s3 504 (by omega)]) (by rw [e2'.2.2, s3 504 (by omega)])
    have hall : ∀ k : Nat, (495 ≤ k ∧ k ≤ 500 ∨ 513 ≤ k) → M6 k = M' k := fun k hk => by rw [n7 k (by omega), e2'.1 k (by omega), s3 k (by omega)]
    refine ⟨_, _, M6, rfl, ?_, n6.gr (hrw.at (fun k k1 k2 => hall k (by omega)) (by rw [n8, e2'.2.1, s3 504 (by omega)]) (by rw [n9, e2'.2.2, s3 504 (by omega)]) (fun k k1 k2 => hall k (by omega))), fun k hk => by rw [hall k (by omega), o2 k (by omega)]⟩
    rw [e1']
    simp only [bI_some, show ¬ ((1 : Int) = 0) by decide, if_false, n1, bV_some, v_eq, n4, n5, if_t s2]
theorem J_commit (d : Nat) {M : am_M} {n : Int} (hG : GR M n) (v : Int) : AG M (n + 1) (am_m am_P (d + 20) j_Tv_commit [am_r 5 0, am_i v] M) (am_m am_P (d + 20) j_Md_commit [am_r 6 504, am_i v]) := by
  have hX : am_m am_P (d + 20) j_Tv_commit [am_r 5 0, am_i v] M = am_at am_P (d + 19) j_Tv_commit 0 [am_r 5 0, am_i v] [] M := rfl
  have hY : ∀ N, am_m am_P (d + 20) j_Md_commit [am_r 6 504, am_i v] N = am_at am_P (d + 19) j_Md_commit 0 [am_r 6 504, am_i v, am_u] [] N := fun _ => rfl
  unfold AG
  simp only [hX, hY, E_Tv_commit_0, E_Md_commit_0, Nat.reduceAdd, if_ot, if_to]
  rcases opn_both (d + 13) (d + 14) hG v with ⟨M', o1, o2, o3⟩ | ⟨M', A, o1, o2, o3, o4, o5, o6, o7, o8⟩
  · obtain ⟨N', e1, e2⟩ := o3 M' (o2 505 (by decide))
    rw [o1]
    simp only [bI_some, if_true]
    refine ⟨_, _, N', rfl, ?_, RF.gr hG (by omega) (fun k hk => o2 k (by omega)) e2⟩
    rw [e1]; simp only [bI_some, if_true]
  · obtain ⟨N', e1, e2⟩ := o8 M' (o2 505 (by decide))
    have hN5 : N' 505 = wc A (M' 4) := by rw [e2.1 505 (by omega)]; exact o4
    have hno := RF.gr (n' := n + 1) hG (by omega) (fun k hk => o2 k (by omega)) e2
    obtain ⟨w, hw⟩ : ∃ w : Nat, v = (w : Int) := ⟨v.toNat, by have := o6.1; omega⟩
    subst hw
    have hs := (o5.1.mv.2 w o6.1 o6.2.1).1
    rw [o1]
    simp only [bI_some, show ¬ ((1 : Int) = 0) by decide, if_false]
    obtain ⟨q, hq, hq2⟩ := o3.q
    obtain ⟨b0, b1, b2, b3, b4⟩ := beg_opr o3 o5 o6 hq
    have hqr := isB_rng (show isB (q : Int) by rw [← hq]; exact o3.1.1.1)
    have hrw := o3.1.2.2.2.2.2.2
    have ec : ∀ k : Nat, 255 ≤ k → csS q 1 M' k = M' k := fun k hk => cs_off _ _ _ (by omega)
    have hop : ∀ N1 : am_M, N1 505 = wc A (M' 4) → N1 504 2 = 0 → (N1 504 13 = M' 504 13 ∧ N1 504 16 = M' 504 16 ∧ ∀ k : Nat, 513 ≤ k → N1 k = M' k) → ∃ N2, (am_at am_P (d + 19) j_Md_commit 16 [am_r 6 504, am_i (w : Int), am_i 0] [] N1 = am_bI (am_m am_P (d + 19) j_Md_end [am_r 6 504, am_i (w : Int)] N2) fun x2 M1 => if x2 = 0 then (am_if ((0 : Int) = 0 ∨ (0 : Int) = 1) (some (some (am_i 0), M1))) else (am_w (am_set M1 504 16 0) fun M3 => am_if ((1 : Int) = 0 ∨ (1 : Int) = 1) (some (some (am_i 1), M3)))) ∧ ((tiS 498 16 w 16 0 (csS q 1 M')).1 = 0 ∨ (tiS 498 16 w 16 0 (csS q 1 M')).1 = 1) ∧ OPR A (csS q 1 M') N1 w (tiS 498 16 w 16 0 (csS q 1 M')).1 (tiS 498 16 w 16 0 (csS q 1 M')).2 N2 := fun N1 h5 h2 hx1 => by
      refine ti_opr (r := 498) (m := 16) (by decide) (G := fun i N => am_at am_P (d + 19) j_Md_commit 16 [am_r 6 504, am_i (w : Int), am_i i] [] N) (E := fun N2 => am_bI (am_m am_P (d + 19) j_Md_end [am_r 6 504, am_i (w : Int)] N2) fun x2 M1 => if x2 = 0 then (am_if ((0 : Int) = 0 ∨ (0 : Int) = 1) (some (some (am_i 0), M1))) else (am_w (am_set M1 504 16 0) fun M3 => am_if ((1 : Int) = 0 ∨ (1 : Int) = 1) (some (some (am_i 1), M3)))) (d + 8) b3.1 b1 ?_ ?_ ?_ ?_ ?_ 16 0 (csS q 1 M') N1 (by omega) (by omega) (b4 N1 h5)
      · rw [ec 498 (by omega)]; have := hrw.2.1; omega
      · intro i i0 i1
        rw [ec 498 (by omega)] at i1
        rw [ec (498 + 2) (by omega)]
        exact (hrw.2.2.2 i i0 i1).2.2.2
      · intro i r' M N hO hi
        rw [ec 498 (by omega)] at hi
        (try dsimp only)
        rw [E_Md_commit_16, hO.fld.2 16 (by decide), hx1.2.1, hrw.2.2.1, if_neg hi]
      · intro i M N hO hi
        rw [ec 498 (by omega)] at hi
        (try dsimp only)
        rw [E_Md_commit_16, hO.fld.2 16 (by decide), hx1.2.1, hrw.2.2.1, if_pos hi, if_neg (by rw [hO.sh]; decide)]
      · intro i M N i0 i1 hO
        rw [ec 498 (by omega)] at i1
        have hb := hrw.2.1
        obtain ⟨g1, g2, _⟩ := hrw.2.2.2 i i0 i1
        (try dsimp only)
        rw [E_Md_commit_16, hO.fld.2 16 (by decide), hx1.2.1, hrw.2.2.1, if_pos i1, if_pos (hO.ns h2), if_t (by omega), if_t (by omega)]
        simp only [Nat.reduceAdd]
        rw [hO.fld.1 _ (by decide) (by decide), hO.fld.1 _ (by decide) (by decide), hx1.2.2 _ (by decide), hx1.2.2 _ (by decide), g1, g2, ec (498 + 1) (by omega), ec (498 + 2) (by omega)]
        simp only [v_eq, wr_id (z := i + 1) (by omega) (by omega)]
    obtain ⟨-, bo, M3, s1, s2, s3, s4⟩ := hand_fin' (d + 11) (d + 12) o3 o5 o4 o6 hq hop
    rw [(hand_fin' (d + 16) 0 o3 o5 o4 o6 hq hop).1]
    simp only [bV_some, v_eq, S_St_takeIn7 (d + 9) 498 (csS q 1 M') b1, s1, bI_some]
    rcases s2 with rfl | rfl
    · simp only [if_true]
      obtain ⟨N'', e1', e2'⟩ := o8 M3 (by rw [s3 505 (by omega), o2 505 (by decide)])
      obtain ⟨N1, N2, M6, n1, n2, n3, n4, n5, n6, n7, n8, n9⟩ := s4 N'' (fun k hk => e2'.1 k (by omega)) (by rw [e2'.2.1, s3 504 (by omega)]) (by rw [e2'.2.2, s3 504 (by omega)])
      have hall : ∀ k : Nat, (495 ≤ k ∧ k ≤ 500 ∨ 513 ≤ k) → M6 k = M' k := fun k hk => by rw [n7 k (by omega), e2'.1 k (by omega), s3 k (by omega)]
      refine ⟨_, _, M6, rfl, ?_, n6.gr (hrw.at (fun k k1 k2 => hall k (by omega)) (by rw [n8, e2'.2.1, s3 504 (by omega)]) (by rw [n9, e2'.2.2, s3 504 (by omega)]) (fun k k1 k2 => hall k (by omega))), fun k hk => by rw [hall k (by omega), o2 k (by omega)]⟩
      rw [e1']
      simp only [bI_some, show ¬ ((1 : Int) = 0) by decide, if_false, n1, bV_some, v_eq, n4, n5, if_true, if_ot]
    · simp only [show ¬ ((1 : Int) = 0) by decide, if_false, w_eq]
      have hK : ∀ k : Nat, k ≠ 498 → am_set M3 498 2 0 k = M3 k := fun k hk => set_ne _ _ _ hk
      obtain ⟨N'', e1', e2'⟩ := o8 (am_set M3 498 2 0) (by rw [hK 505 (by decide), s3 505 (by omega), o2 505 (by decide)])
      obtain ⟨N1, N2, M6, n1, n2, n3, n4, n5, n6, n7, n8, n9⟩ := s4 N'' (fun k hk => by rw [e2'.1 k (by omega), hK k (by omega)]) (by rw [e2'.2.1, hK 504 (by decide), s3 504 (by omega)]) (by rw [e2'.2.2, hK 504 (by decide), s3 504 (by omega)])
      have hall : ∀ k : Nat, (495 ≤ k ∧ k ≤ 500 ∨ 513 ≤ k) → k ≠ 498 → M6 k = M' k := fun k hk hk' => by rw [n7 k (by omega), e2'.1 k (by omega), hK k hk', s3 k (by omega)]
      have h498 : M6 498 = am_up (M' 498) 2 0 := by rw [n7 498 (by omega), e2'.1 498 (by omega), set_eq, s3 498 (by omega)]
      have hs4 : ∀ k : Nat, k ≠ 504 → am_set M6 504 16 0 k = M6 k := fun k hk => set_ne _ _ _ hk
      have hGX : GX (am_set M6 504 16 0) (n + 1) := by
        obtain ⟨g1, g2, g3, g4, g5, g6, g7⟩ := n6
        have e2 : ∀ q : Nat, 1 ≤ q → q + 13 ≤ 494 → ∀ k : Nat, q ≤ k → k ≤ q + 13 → am_set M6 504 16 0 k = M6 k := fun q _ h2 k k1 k2 => hs4 k (by omega)
        refine ⟨?_, ?_, ?_, ?_, ?_, ?_, ?_⟩
        · unfold BQ; rw [hs4 0 (by decide), hs4 30 (by decide)]; exact g1
        · rw [hs4 505 (by decide)]
          refine g2.at (Int.le_refl _) (by rw [hs4 29 (by decide)]) (hs4 30 (by decide)) (fun i i1 i2 k k1 k2 => ?_) (fun _ _ => rfl)
          have := isB_rng (g1.2.1 i i1 (by have := g2.1.2; omega)).1
          exact hs4 k (by omega)
        · rw [hs4 506 (by decide)]
          exact g3.at (Int.le_refl _) (fun k k1 k2 => hs4 k (by omega)) (fun _ _ _ => rfl)
        · rw [hs4 506 (by decide)]
          refine g4.at (Int.le_refl _) (by rw [hs4 269 (by decide)]) (hs4 270 (by decide)) (fun i i1 i2 k k1 k2 => ?_) (fun _ _ => rfl)
          have := g4.1
          have := g5 i i1 (by omega)
          exact hs4 k (by omega)
        · rw [hs4 270 (by decide)]; exact g5
        · intro q hq x hx
          have hq2 : q + 3 ≤ 494 := by
            rcases hq with q1 | rfl | ⟨i, hi, rfl⟩
            · have := isB_rng q1; omega
            · omega
            · omega
          rw [hs4 _ (by omega)]
          exact g6 q hq x hx
        · rw [hs4 505 (by decide)]
          exact g7.congr (Int.le_refl _) (EQ_of (fun k k1 k2 => hs4 k (by omega))) (fun x hx => by rw [hs4 4 (by decide)]; exact g7.zo x hx) (fun _ _ _ => rfl)
      refine ⟨_, _, am_set M6 504 16 0, rfl, ?_, hGX.gr ?_, fun k hk => by rw [hs4 k (by omega), hall k (by omega) (by omega), o2 k (by omega)]⟩
      · rw [e1']
        simp only [bI_some, show ¬ ((1 : Int) = 0) by decide, if_false, n1, bV_some, v_eq, n4, n5, w_eq, if_to]
      · obtain ⟨r1, r2⟩ := hrw
        refine ⟨?_, ?_⟩
        · rw [hs4 495 (by decide), hs4 496 (by decide), hs4 497 (by decide), hs4 513 (by decide), hs4 514 (by decide), hall 495 (by decide) (by decide), hall 496 (by decide) (by decide), hall 497 (by decide) (by decide), hall 513 (by decide) (by decide), hall 514 (by decide) (by decide), set_eq, up_ne _ _ (by decide), n8, e2'.2.1, hK 504 (by decide), s3 504 (by omega)]
          exact r1
        · rw [hs4 498 (by decide), h498, up_eq, set_eq, up_eq]
          exact ⟨by decide, rfl, fun i i1 i2 => by omega⟩
