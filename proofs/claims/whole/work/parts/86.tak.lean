/-! HELD, TAKEN -/
theorem J_hold (d : Nat) {M : am_M} {n : Int} (hG : GR M n) (v m : Int) : AG M (n + 1) (am_m am_P (d + 20) j_Tv_hold [am_r 5 0, am_i v, am_i m] M) (am_m am_P (d + 20) j_Md_hold [am_r 6 504, am_i v, am_i m]) := by
  have hX : am_m am_P (d + 20) j_Tv_hold [am_r 5 0, am_i v, am_i m] M = am_at am_P (d + 19) j_Tv_hold 0 [am_r 5 0, am_i v, am_i m, am_u] [] M := rfl
  have hY : ∀ N, am_m am_P (d + 20) j_Md_hold [am_r 6 504, am_i v, am_i m] N = am_at am_P (d + 19) j_Md_hold 0 [am_r 6 504, am_i v, am_i m] [] N := fun _ => rfl
  unfold AG
  simp only [hX, hY, E_Tv_hold_0, E_Md_hold_0, Nat.reduceAdd, S_St_isThere, bI_some]
  by_cases hv : thS M v
  · simp only [b2_t hv, show ¬ ((1 : Int) = 0) by decide, if_false]
    rcases snd_both (d + 14) (d + 15) hG with ⟨M', o1, o2, o3⟩ | ⟨M', A, o1, o2, o3, o4, o5, o6⟩
    · obtain ⟨w, N', e1, e0, e2⟩ := o3 M' (o2 505 (by decide))
      rw [o1]
      simp only [bI_some, if_true]
      refine ⟨_, _, N', rfl, ?_, RF.gr hG (by omega) (fun k hk => o2 k (by omega)) e2⟩
      rw [e1]; simp only [bI_some, if_neg e0]
    · have hv' : thS M' v := ⟨hv.1, hv.2.1, by rw [o2 7 (by decide)]; exact hv.2.2⟩
      have hvr : 0 ≤ v ∧ v < 12 := ⟨hv.1, hv.2.1⟩
      have hh := (o5.1.mv.vd hv').2.2.2.2.2.2.2.2.2.2
      -- all of it, for the step x
      have main : ∀ x : Int, x = M' 12 v + (if m = 0 then -1 else 1) → ∃ (a : am_V) (M1 M2 : am_M), (if x < 0 then some (some (am_i (-1)), M') else if (9 : Int) < x then some (some (am_i (-1)), M') else am_bV (am_m am_P (d + 19) j_Tv_begin [am_r 5 0] M') fun M6 => am_if (0 ≤ v ∧ v < 12) (am_w (am_set M6 12 v x) fun M7 => am_bV (am_m am_P (d + 19) j_Tv_keepStep [am_r 5 0] M7) fun M8 => some (some (am_i x), M8))) = some (some a, M1) ∧ (∀ N', am_m am_P (d + 19) j_Md_wrong [am_r 6 504] M1 = some (some (am_i (-1)), N') → RF M1 N' → (am_bI (am_m am_P (d + 19) j_Md_isIn [am_i x, am_i 0, am_i 9] N') fun x8 M7 => if x8 = 0 then some (some (am_i (-1)), M7) else am_bV (am_m am_P (d + 19) j_Md_begin [am_r 6 504] M7) fun M9 => am_bV (am_m am_P (d + 19) j_Md_keep [am_r 6 504] M9) fun M10 => am_bI (am_m am_P (d + 19) j_Md_get [am_r 6 504, am_i v, am_i 6] M10) fun x12 M11 => if m = 0 then (am_bV (am_m am_P (d + 19) j_Md_let [am_r 6 504, am_i v, am_i 6, am_i (am_wr (x12 + -1))] M11) fun M13 => am_bI (am_m am_P (d + 19) j_Md_get [am_r 6 504, am_i v, am_i 6] M13) fun x15 M14 => some (some (am_i x15), M14)) else (am_bV (am_m am_P (d + 19) j_Md_let [am_r 6 504, am_i v, am_i 6, am_i (am_wr (x12 + 1))] M11) fun M16 => am_bI (am_m am_P (d + 19) j_Md_get [am_r 6 504, am_i v, am_i 6] M16) fun x18 M17 => some (some (am_i x18), M17))) = some (some a, M2) ∧ GR M2 (n + 1) ∧ ∀ k : Nat, 517 ≤ k → M2 k = M k) ∧ M1 505 = M' 505 ∧ M1 504 = M' 504 := by
        intro x hx
        by_cases hxr : 0 ≤ x ∧ x ≤ 9
        · obtain ⟨q, hq, hq2⟩ := o3.q
          obtain ⟨b0, -⟩ := kp_beg o3 o5 hq (fun _ _ _ => rfl)
          have hm : ∀ k : Nat, k ≠ 12 → am_set (csS q 1 M') 12 v x k = csS q 1 M' k := fun k hk => set_ne _ _ _ hk
          obtain ⟨k1, -, -, -, -⟩ := keep_fin (d + 16) o3 o4 hq (M2 := am_set (csS q 1 M') 12 v x) (fun k hk _ => hm k (by omega))
          obtain ⟨-, k2, k3, k4, k5⟩ := keep_fin (d + 17) o3 o4 hq (M2 := am_set (csS q 1 M') 12 v x) (fun k hk _ => hm k (by omega))
          rw [if_neg (show ¬ x < 0 by omega), if_neg (show ¬ (9 : Int) < x by omega), k1]
          simp only [bV_some, w_eq, if_t hvr]
          rw [k2]
          simp only [bV_some]
          obtain ⟨N0, hN0⟩ : ∃ N0, am_m am_P (d + 19) j_Md_wrong [am_r 6 504] (ksS (am_set (csS q 1 M') 12 v x)) = some (some (am_i (-1)), N0) ∧ RF (ksS (am_set (csS q 1 M') 12 v x)) N0 := o6 _ (by rw [k4 505 (by omega) (by omega), o2 505 (by decide)])
          obtain ⟨N1, N2, A1, n1, n2, n3, n4, n5, n6, n7⟩ := k5 N0 hN0.2
          obtain ⟨-, hJ1⟩ := kp_beg o3 o5 hq n6
          have hJ2 : JX (am_set (csS q 1 M') 12 v x) (am_up A1 (1796 + 9 * v + 6) x) (n + 1) :=
            hJ1.meta (fun k _ _ h12 => hm k h12) (by rw [hm 1 (by decide)]) (hJ1.1.mv.f12 hvr hxr hm (set_eq _ _ _ _)) (fun y hy _ _ => up_ne _ _ (by omega)) (fun u hu => up_ne _ _ (by omega)) (fun u hu => by rw [hm 8 (by decide)]; exact hJ1.2.1 u hu)
          have hfin := n7 (am_set N2 505 (1796 + 9 * v + 6) x) (am_up A1 (1796 + 9 * v + 6) x) (by rw [set_eq, n5, wc_upN _ _ (by omega) (by omega), hm 4 (by decide), b0 4 (by omega)]) (fun y hy => up_ne _ _ (by omega)) (fun k hk => set_ne _ _ _ (by omega)) (by rw [set_ne _ _ _ (by decide)]) (by rw [set_ne _ _ _ (by decide)]) (SR.of hJ2 (by rw [hm 1 (by decide), b0 1 (by omega)]; exact o3.2.fl))
          refine ⟨_, _, am_set N2 505 (1796 + 9 * v + 6) x, rfl, fun N' w1 w2 => ?_, by rw [k4 505 (by omega) (by omega)], by rw [k4 504 (by omega) (by omega)]⟩
          obtain rfl : N' = N0 := by
            have := w1.symm.trans hN0.1
            exact (Prod.mk.inj (Option.some.inj this)).2
          refine ⟨?_, hfin.1, fun k hk => by rw [hfin.2 k hk, o2 k (by omega)]⟩
          have hA : A1 (1796 + 9 * v + 6) = M' 12 v := by
            rw [n6 _ (by omega) (by omega), show 1796 + 9 * v + 6 = 1802 + 9 * v by omega]
            exact (o5.1.mv.vd hv').2.2.2.2.1
          have hget : am_m am_P (d + 19) j_Md_get [am_r 6 504, am_i v, am_i 6] (am_set N2 505 (1796 + 9 * v + 6) x) = some (some (am_i x), am_set N2 505 (1796 + 9 * v + 6) x) := by
            rw [S_Md_get (d + 18) hvr (by omega), set_eq, up_eq]
          simp only [S_Md_isIn, b2_t hxr, bI_some, show ¬ ((1 : Int) = 0) by decide, if_false, n1, bV_some, n2, R_got (d + 18) hvr (show (0 : Int) ≤ 6 ∧ (6 : Int) < 9 by decide) n5, hA]
          by_cases h0 : m = 0
          · rw [if_pos h0] at hx
            rw [if_pos h0, wr_id (by omega) (by omega), ← hx, S_Md_let (d + 18) hvr (by omega), bV_some, hget, bI_some]
          · rw [if_neg h0] at hx
            rw [if_neg h0, wr_id (by omega) (by omega), ← hx, S_Md_let (d + 18) hvr (by omega), bV_some, hget, bI_some]
        · have e : (if x < 0 then some (some (am_i (-1)), M') else if (9 : Int) < x then some (some (am_i (-1)), M') else am_bV (am_m am_P (d + 19) j_Tv_begin [am_r 5 0] M') fun M6 => am_if (0 ≤ v ∧ v < 12) (am_w (am_set M6 12 v x) fun M7 => am_bV (am_m am_P (d + 19) j_Tv_keepStep [am_r 5 0] M7) fun M8 => some (some (am_i x), M8))) = some (some (am_i (-1)), M') := by
            by_cases h1 : x < 0
            · rw [if_pos h1]
            · rw [if_neg h1, if_pos (by omega)]
          obtain ⟨N0, hN0⟩ := o6 M' (o2 505 (by decide))
          refine ⟨_, _, N0, e, fun N' w1 w2 => ?_, rfl, rfl⟩
          obtain rfl : N' = N0 := by
            have := w1.symm.trans hN0.1
            exact (Prod.mk.inj (Option.some.inj this)).2
          refine ⟨?_, RF.gr hG (by omega) (fun k hk => o2 k (by omega)) w2⟩
          simp only [S_Md_isIn, b2_f hxr, bI_some, if_true]
      rw [o1]
      simp only [bI_some, show ¬ ((1 : Int) = 0) by decide, if_false, if_t hvr, v_eq]
      have hwx : ∀ z : Int, (z = -1 ∨ z = 1) → am_wr (M' 12 v + z) = M' 12 v + z := fun z hz => wr_id (by omega) (by omega)
      by_cases h0 : m = 0
      · simp only [if_pos h0]
        rw [hwx (-1) (Or.inl rfl)]
        obtain ⟨a, M1, M2, r1, r2, r3, r4⟩ := main (M' 12 v + -1) (by rw [if_pos h0])
        simp only [if_t hvr] at r1
        obtain ⟨N', e1, e2⟩ := o6 M1 (by rw [r3, o2 505 (by decide)])
        obtain ⟨r5, r6⟩ := r2 N' e1 e2
        refine ⟨a, M1, M2, r1, ?_, r6⟩
        have hN5 : N' 505 = wc A (M' 4) := by rw [e2.1 505 (by omega), r3]; exact o4
        rw [e1]
        simp only [bI_some, if_true, R_isVol (d + 17) o5.1.mv hN5, b2_t hv', show ¬ ((1 : Int) = 0) by decide, if_false, R_got (d + 18) hvr (show (0 : Int) ≤ 6 ∧ (6 : Int) < 9 by decide) hN5, show 1796 + 9 * v + 6 = 1802 + 9 * v by omega, (o5.1.mv.vd hv').2.2.2.2.1, hwx (-1) (Or.inl rfl)]
        simp only [if_pos h0] at r5
        exact r5
      · simp only [if_neg h0]
        rw [hwx 1 (Or.inr rfl)]
        obtain ⟨a, M1, M2, r1, r2, r3, r4⟩ := main (M' 12 v + 1) (by rw [if_neg h0])
        simp only [if_t hvr] at r1
        obtain ⟨N', e1, e2⟩ := o6 M1 (by rw [r3, o2 505 (by decide)])
        obtain ⟨r5, r6⟩ := r2 N' e1 e2
        refine ⟨a, M1, M2, r1, ?_, r6⟩
        have hN5 : N' 505 = wc A (M' 4) := by rw [e2.1 505 (by omega), r3]; exact o4
        rw [e1]
        simp only [bI_some, if_true, R_isVol (d + 17) o5.1.mv hN5, b2_t hv', show ¬ ((1 : Int) = 0) by decide, if_false, R_got (d + 18) hvr (show (0 : Int) ≤ 6 ∧ (6 : Int) < 9 by decide) hN5, show 1796 + 9 * v + 6 = 1802 + 9 * v by omega, (o5.1.mv.vd hv').2.2.2.2.1, hwx 1 (Or.inr rfl)]
        simp only [if_neg h0] at r5
        exact r5
  · simp only [b2_f hv, if_true]
    obtain ⟨A, c, hR, hJ, hP⟩ := hG.sr
    obtain ⟨w, N', e1, e2⟩ := wr_any (d + 15) hG (N := M) rfl
    obtain ⟨u1, u2, u3⟩ := hJ.un
    refine ⟨_, _, N', rfl, ?_, RF.gr hG (by omega) (fun k hk => rfl) e2⟩
    rw [e1]
    simp only [bI_some, R_isVol (d + 17) u3 (show N' 505 = wc A (M 4) by rw [e2.1 505 (by omega)]; exact hR), b2_f hv, if_true, ite_self]
