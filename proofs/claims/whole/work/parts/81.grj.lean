/-! GRAFTED, the method (gen80.py) -/
theorem J_graft (d : Nat) {M : am_M} {n : Int} (hG : GR M n) (u a kd v b wh : Int) : AG M (n + 1) (am_m am_P (d + 20) j_Tv_graft [am_r 5 0, am_i u, am_i a, am_i kd, am_i v, am_i b, am_i wh] M) (am_m am_P (d + 20) j_Md_graft [am_r 6 504, am_i u, am_i a, am_i kd, am_i v, am_i b, am_i wh]) := by
  have hX : am_m am_P (d + 20) j_Tv_graft [am_r 5 0, am_i u, am_i a, am_i kd, am_i v, am_i b, am_i wh] M = am_at am_P (d + 19) j_Tv_graft 0 [am_r 5 0, am_i u, am_i a, am_i kd, am_i v, am_i b, am_i wh, am_u] [] M := rfl
  have hY : ∀ N, am_m am_P (d + 20) j_Md_graft [am_r 6 504, am_i u, am_i a, am_i kd, am_i v, am_i b, am_i wh] N = am_at am_P (d + 19) j_Md_graft 0 [am_r 6 504, am_i u, am_i a, am_i kd, am_i v, am_i b, am_i wh, am_u, am_u, am_u] [] N := fun _ => rfl
  unfold AG
  simp only [hX, hY, E_Tv_graft_0, E_Md_graft_0, Nat.reduceAdd, if_ot, if_to]
  rcases opn_both (d + 13) (d + 14) hG v with ⟨M', o1, o2, o3⟩ | ⟨M', A, o1, o2, o3, o4, o5, o6, o7, o8⟩
  · obtain ⟨N', e1, e2⟩ := o3 M' (o2 505 (by decide))
    rw [o1]
    simp only [bI_some, if_true]
    refine ⟨_, _, N', rfl, ?_, RF.gr hG (by omega) (fun k hk => o2 k (by omega)) e2⟩
    rw [e1]; simp only [bI_some, if_true]
  · obtain ⟨N', e1, e2⟩ := o8 M' (o2 505 (by decide))
    have hN5 : N' 505 = wc A (M' 4) := by rw [e2.1 505 (by omega)]; exact o4
    have hno := RF.gr (n' := n + 1) hG (by omega) (fun k hk => o2 k (by omega)) e2
    obtain ⟨w, hw⟩ : ∃ w : Nat, v = (w : Int) := ⟨v.toNat, by have := o6.1; omega⟩
    subst hw
    have hs := (o5.1.mv.2 w o6.1 o6.2.1).1
    rw [o1]
    simp only [bI_some, show ¬ ((1 : Int) = 0) by decide, if_false]
    by_cases hne : ¬ u = (w : Int)
    · simp only [if_neg hne]
      by_cases ha : thS M' u ∧ 0 ≤ a ∧ a < M' 7 u
      · simp only [S_Tv_isInside, bI_some, b2_t ha, show ¬ ((1 : Int) = 0) by decide, if_false]
        by_cases hb : thS M' w ∧ 0 ≤ b ∧ b < M' 7 w
        · simp only [S_Tv_isInside, bI_some, b2_t hb, show ¬ ((1 : Int) = 0) by decide, if_false]
          by_cases h1 : ¬ kd < 0
          · simp only [if_neg h1]
            by_cases h2 : ¬ (2 : Int) < kd
            · simp only [if_neg h2]
              by_cases h3 : wh = kd
              · simp only [if_pos h3]
                subst h3
                obtain ⟨z, hzz⟩ : ∃ z : Nat, u = (z : Int) := ⟨u.toNat, by have := ha.1.1; omega⟩
                subst hzz
                have hz12 : z < 12 := by have := ha.1.2.1; omega
                have hsz := (o5.1.mv.2 z ha.1.1 ha.1.2.1).1
                have hthg := fun l hl => thg_ok o5.1.rv o5.1.pi ha.1 a (l := l) hl
                have hval : ∀ N : am_M, N 505 = wc A (M' 4) → ∀ Y : Int → am_M → Option am_O, (if wh = 0 then am_bI (am_m am_P (d + 19) j_Md_blockAt [am_r 6 504, am_i (z : Int), am_i a] N) Y else am_bI (am_m am_P (d + 19) j_Md_partAt [am_r 6 504, am_i (z : Int), am_i a, am_i (am_wr (wh - 1))] N) Y) = Y (dec wh (thgS M' z a wh)) N := fun N hN Y => by
                  by_cases h0 : wh = 0
                  · subst h0
                    rw [if_pos rfl, R_blockAt (d + 16) o5.1.pi o5.1.rv ha.1 (by omega) hN, bI_some, dec_0]
                    rfl
                  · rw [if_neg h0, wr_id (by omega) (by omega), R_partAt (d + 17) o5.1.pi o5.1.rv ha.1 (by omega) (by omega) hN, bI_some, dec_T h0, show wh - 1 + 1 = wh by omega]
                have hFT : thgS M' z a wh = -1 ∨ (FT (M' 5) wh (thgS M' z a wh) ∧ M' 4 (thgS M' z a wh) ≠ 0) := by
                  by_cases h0 : wh = 0
                  · subst h0
                    rw [thg_0 ha.1]
                    rcases bk_ok o5.1.rv o5.1.pi hz12 a with e | ⟨e1, e2, e3⟩
                    · exact Or.inl e
                    · exact Or.inr ⟨Or.inl ⟨rfl, e1, e2⟩, e3⟩
                  · rcases hthg wh (by omega) with e | ⟨e1, e2, e3, e4⟩
                    · exact Or.inl e
                    · exact Or.inr ⟨Or.inr ⟨by omega, by omega, e1, e2, e4⟩, e3⟩
                simp only [S_St_thingAt, bI_some, v_eq]
                by_cases ht : thgS M' z a wh = -1
                · simp only [if_pos ht]
                  refine ⟨_, _, N', rfl, ?_, hno⟩
                  rw [e1]
                  simp only [bI_some, show ¬ ((1 : Int) = 0) by decide, if_false, if_neg hne, R_isAddress (d + 16) o5.1.mv hN5, b2_t ha, show ¬ ((1 : Int) = 0) by decide, if_false, R_isAddress (d + 16) o5.1.mv hN5, b2_t hb, show ¬ ((1 : Int) = 0) by decide, if_false, S_Md_isIn, b2_t (show 0 ≤ wh ∧ wh ≤ 2 by omega), show ¬ ((1 : Int) = 0) by decide, if_false, if_true]
                  rw [hval N' hN5, ht, show dec wh (-1) = -1 from if_pos rfl]
                  simp only [v_eq, if_true]
                · simp only [if_neg ht]
                  obtain ⟨hF, hu0⟩ := hFT.resolve_left ht
                  obtain ⟨q, hq, hq2⟩ := o3.q
                  obtain ⟨b0, b1, bt, b3, b4⟩ := beg_opr o3 o5 o6 hq
                  have hop := fun N1 (h5 : N1 505 = wc A (M' 4)) (h2' : N1 504 2 = 0) => graft_opr (d + 9) (N1 := N1) b3.1 b1 (by rw [b0 4 (by omega)]; exact h5) h2' (b := b) (kd := wh) (t := thgS M' z a wh) (by omega) (by omega) (by rw [b0 4 (by omega)]; exact hu0) (by rw [b0 5 (by omega)]; exact hF)
                  obtain ⟨-, bo, M3, s1, s2, s3, s4⟩ := hand_fin (d + 11) (d + 12) o3 o5 o4 o6 hq hop
                  rw [(hand_fin (d + 16) 0 o3 o5 o4 o6 hq hop).1]
                  have hin := S_St_insert (d + 10) (v := (w : Int)) b wh (thgS M' z a wh) (by omega) (csS q 1 M') b1 (fun N hN => by
                    have e7 : N 7 = M' 7 := by
                      obtain ⟨N2, -, -, hO⟩ := hop (am_set M' 504 2 0) (by rw [set_ne _ _ _ (by decide)]; exact o4) (by rw [set_eq, up_eq])
                      by_cases hop' : (opS w b wh 3 (csS q 1 M') (-1)).1 = -1
                      · have hh : hangS (opS w b wh 3 (csS q 1 M') (-1)).2 (-1) (plc b wh) (thgS M' z a wh) = (opS w b wh 3 (csS q 1 M') (-1)).2 := by unfold hangS; rw [if_neg (by omega)]
                        have e : inS (csS q 1 M') w b wh (thgS M' z a wh) = (0, (opS w b wh 3 (csS q 1 M') (-1)).2) := by unfold inS; rw [if_pos hop']
                        have := hO.1 7 (by decide) (by decide) (by decide) (by decide) (by decide)
                        rw [e] at this
                        rw [hN, hop', hh]
                        exact this.trans (b0 7 (by omega))
                      · have e : (inS (csS q 1 M') w b wh (thgS M' z a wh)).2 = N := by unfold inS; rw [if_neg hop', hN]
                        have := hO.1 7 (by decide) (by decide) (by decide) (by decide) (by decide)
                        rw [e] at this
                        exact this.trans (b0 7 (by omega))
                    rw [e7]
                    exact ⟨hs.1, hs.2.1⟩)
                  simp only [bV_some, hin, bI_some, s1, if_t s2]
                  obtain ⟨N'', e1', e2'⟩ := o8 M3 (by rw [s3 505 (by omega), o2 505 (by decide)])
                  have hN5' : N'' 505 = wc A (M' 4) := by rw [e2'.1 505 (by omega), s3 505 (by omega)]; exact o4
                  obtain ⟨N1, N2, M6, n1, n2, n3, n4, n5, n6, n7⟩ := s4 N'' e2'
                  refine ⟨_, _, M6, rfl, ?_, n6, fun k hk => by rw [n7 k hk, o2 k (by omega)]⟩
                  rw [e1']
                  simp only [bI_some, show ¬ ((1 : Int) = 0) by decide, if_false, if_neg hne, R_isAddress (d + 16) o5.1.mv hN5', b2_t ha, show ¬ ((1 : Int) = 0) by decide, if_false, R_isAddress (d + 16) o5.1.mv hN5', b2_t hb, show ¬ ((1 : Int) = 0) by decide, if_false, S_Md_isIn, b2_t (show 0 ≤ wh ∧ wh ≤ 2 by omega), show ¬ ((1 : Int) = 0) by decide, if_false, if_true]
                  rw [hval N'' hN5']
                  simp only [v_eq, if_neg (FT_dec hF), n1, bV_some]
                  simp only [v_eq] at n4
                  rw [n4, n5, bI_some, if_t s2]
              · simp only [if_neg h3]
                refine ⟨_, _, N', rfl, ?_, hno⟩
                rw [e1]
                simp only [bI_some, show ¬ ((1 : Int) = 0) by decide, if_false, if_neg hne, R_isAddress (d + 16) o5.1.mv hN5, b2_t ha, show ¬ ((1 : Int) = 0) by decide, if_false, R_isAddress (d + 16) o5.1.mv hN5, b2_t hb, show ¬ ((1 : Int) = 0) by decide, if_false, S_Md_isIn, b2_t (show 0 ≤ kd ∧ kd ≤ 2 by omega), show ¬ ((1 : Int) = 0) by decide, if_false, if_neg (fun q : kd = wh => h3 q.symm)]
            · simp only [if_pos (Classical.not_not.mp h2)]
              refine ⟨_, _, N', rfl, ?_, hno⟩
              rw [e1]
              simp only [bI_some, show ¬ ((1 : Int) = 0) by decide, if_false, if_neg hne, R_isAddress (d + 16) o5.1.mv hN5, b2_t ha, show ¬ ((1 : Int) = 0) by decide, if_false, R_isAddress (d + 16) o5.1.mv hN5, b2_t hb, show ¬ ((1 : Int) = 0) by decide, if_false, S_Md_isIn, b2_f (show ¬ (0 ≤ kd ∧ kd ≤ 2) by omega), if_true]
          · simp only [if_pos (Classical.not_not.mp h1)]
            refine ⟨_, _, N', rfl, ?_, hno⟩
            rw [e1]
            simp only [bI_some, show ¬ ((1 : Int) = 0) by decide, if_false, if_neg hne, R_isAddress (d + 16) o5.1.mv hN5, b2_t ha, show ¬ ((1 : Int) = 0) by decide, if_false, R_isAddress (d + 16) o5.1.mv hN5, b2_t hb, show ¬ ((1 : Int) = 0) by decide, if_false, S_Md_isIn, b2_f (show ¬ (0 ≤ kd ∧ kd ≤ 2) by omega), if_true]
        · simp only [S_Tv_isInside, bI_some, b2_f hb, if_true]
          refine ⟨_, _, N', rfl, ?_, hno⟩
          rw [e1]
          simp only [bI_some, show ¬ ((1 : Int) = 0) by decide, if_false, if_neg hne, R_isAddress (d + 16) o5.1.mv hN5, b2_t ha, show ¬ ((1 : Int) = 0) by decide, if_false, R_isAddress (d + 16) o5.1.mv hN5, b2_f hb, if_true]
      · simp only [S_Tv_isInside, bI_some, b2_f ha, if_true]
        refine ⟨_, _, N', rfl, ?_, hno⟩
        rw [e1]
        simp only [bI_some, show ¬ ((1 : Int) = 0) by decide, if_false, if_neg hne, R_isAddress (d + 16) o5.1.mv hN5, b2_f ha, if_true]
    · simp only [if_pos (Classical.not_not.mp hne)]
      refine ⟨_, _, N', rfl, ?_, hno⟩
      rw [e1]
      simp only [bI_some, show ¬ ((1 : Int) = 0) by decide, if_false, if_pos (Classical.not_not.mp hne)]
