/-! MADE, TAKEN -/
theorem av_at (M : am_M) (v sz q : Int) : avS M v sz q 7 = am_up (M 7) v sz ∧ avS M v sz q 8 = am_up (M 8) v q ∧ avS M v sz q 9 = am_up (M 9) v 0 ∧ avS M v sz q 10 = am_up (M 10) v (-1) ∧ avS M v sz q 11 = am_up (M 11) v 0 ∧ avS M v sz q 12 = am_up (M 12) v 0 ∧ avS M v sz q 13 = am_up (M 13) v (-1) ∧ avS M v sz q 14 = am_up (M 14) v (M 1 10) ∧ avS M v sz q 1 = am_up (M 1) 10 (am_wr (M 1 10 + 1)) ∧ ∀ k : Nat, k ≠ 1 → (k < 7 ∨ 14 < k) → avS M v sz q k = M k := by
  unfold avS
  refine ⟨?_, ?_, ?_, ?_, ?_, ?_, ?_, ?_, ?_, fun k k1 k2 => ?_⟩
  all_goals
    repeat rw [set_ne _ _ _ (by omega)]
    try rw [set_eq]
    try repeat rw [set_ne _ _ _ (by omega)]
/-- the reference's new volume -/
theorem R_newVolume (d : Nat) {M : am_M} {A : Int → Int} (hM : MV M A) {N : am_M} (hN : N 505 = wc A (M 4)) (sz q kp p : Int) {f : Int} (hf : fd (fun i => M 7 i = 0) (fun _ => inferInstance) 0 12 = f) :
    (f = -1 ∧ am_m am_P (d + 3) j_Md_newVolume [am_r 6 504, am_i sz, am_i q, am_i kp, am_i p] N = some (some (am_i (-1)), N)) ∨
    (0 ≤ f ∧ f < 12 ∧ M 7 f = 0 ∧ ∀ (N1 N2 : am_M) (A1 : Int → Int), am_m am_P (d + 2) j_Md_begin [am_r 6 504] N = some (none, N1) → am_m am_P (d + 2) j_Md_keep [am_r 6 504] N1 = some (none, N2) → N2 505 = wc A1 (M 4) → ∃ A2 : Int → Int, am_m am_P (d + 3) j_Md_newVolume [am_r 6 504, am_i sz, am_i q, am_i kp, am_i p] N = some (some (am_i f), am_st N2 505 (wc A2 (M 4))) ∧ A2 (1796 + 9 * f) = 1 ∧ A2 (1797 + 9 * f) = sz ∧ A2 (1798 + 9 * f) = q ∧ A2 (1799 + 9 * f) = kp ∧ A2 (1800 + 9 * f) = -1 ∧ A2 (1801 + 9 * f) = 0 ∧ A2 (1802 + 9 * f) = 0 ∧ A2 (1803 + 9 * f) = p ∧ A2 (1804 + 9 * f) = A1 3 ∧ A2 3 = am_wr (A1 3 + 1) ∧ (∀ y : Int, y ≠ 3 → ¬ (1796 + 9 * f ≤ y ∧ y < 1805 + 9 * f) → A2 y = A1 y)) := by
  have hX : am_m am_P (d + 3) j_Md_newVolume [am_r 6 504, am_i sz, am_i q, am_i kp, am_i p] N = am_at am_P (d + 2) j_Md_newVolume 0 [am_r 6 504, am_i sz, am_i q, am_i kp, am_i p, am_u] [] N := rfl
  obtain ⟨r, hr⟩ : ∃ r : Int → Option am_O, r = fun a5 => if a5 = -1 then some (some (am_i (-1)), N) else (am_bV (am_m am_P (d + 2) j_Md_begin [am_r 6 504] N) fun M15 => am_bV (am_m am_P (d + 2) j_Md_keep [am_r 6 504] M15) fun M16 => am_bV (am_m am_P (d + 2) j_Md_let [am_r 6 504, am_i a5, am_i 0, am_i 1] M16) fun M17 => am_bV (am_m am_P (d + 2) j_Md_let [am_r 6 504, am_i a5, am_i 1, am_i sz] M17) fun M18 => am_bV (am_m am_P (d + 2) j_Md_let [am_r 6 504, am_i a5, am_i 2, am_i q] M18) fun M19 => am_bV (am_m am_P (d + 2) j_Md_let [am_r 6 504, am_i a5, am_i 3, am_i kp] M19) fun M20 => am_bV (am_m am_P (d + 2) j_Md_let [am_r 6 504, am_i a5, am_i 4, am_i (-1)] M20) fun M21 => am_bV (am_m am_P (d + 2) j_Md_let [am_r 6 504, am_i a5, am_i 5, am_i 0] M21) fun M22 => am_bV (am_m am_P (d + 2) j_Md_let [am_r 6 504, am_i a5, am_i 6, am_i 0] M22) fun M23 => am_bV (am_m am_P (d + 2) j_Md_let [am_r 6 504, am_i a5, am_i 7, am_i p] M23) fun M24 => am_bV (am_m am_P (d + 2) j_Md_let [am_r 6 504, am_i a5, am_i 8, am_i (M24 505 3)] M24) fun M25 => some (some (am_i a5), am_set M25 505 3 (am_wr (M25 505 3 + 1)))) := ⟨_, rfl⟩
  have key : am_at am_P (d + 2) j_Md_newVolume 0 [am_r 6 504, am_i sz, am_i q, am_i kp, am_i p, am_u] [] N = r f := by
    rw [E_Md_newVolume_0, v_eq, ← hf]
    refine lp_fd (F := fun i => am_at am_P (d + 2) j_Md_newVolume 3 [am_r 6 504, am_i sz, am_i q, am_i kp, am_i p, am_i i] [] N) (r := r) ?_ ?_
    · try dsimp only
      rw [E_Md_newVolume_3, if_neg (by omega), if_pos (by omega), hr]
      (try dsimp only)
      rw [if_pos rfl]
    · intro i h1 h2
      try dsimp only
      have hi : 0 ≤ i ∧ i < 12 := by omega
      rw [E_Md_newVolume_3, if_pos (by omega), R_isVol d hM hN, bI_some]
      have h7 := (hM.2 i hi.1 hi.2).1.1
      by_cases h0 : M 7 i = 0
      · rw [b2_f (fun q => by have := q.2.2; omega), if_pos rfl, if_neg (show ¬ i = 12 by omega), if_pos h0, hr]
        (try dsimp only)
        rw [if_neg (show ¬ i = -1 by omega)]
        simp only [if_t (show 0 ≤ 3 ∧ 3 < 32336 by decide), w_eq, Nat.reduceAdd]
      · rw [b2_t ⟨hi.1, hi.2, by omega⟩, if_neg (by decide), if_neg h0, v_eq, wr_id (by omega) (by omega)]
  rw [hX, key, hr]
  (try dsimp only)
  rcases fd_spec (p := fun i => M 7 i = 0) (dp := fun _ => inferInstance) 12 0 with ⟨e, _⟩ | ⟨e1, e2, e3, _⟩
  · left
    have : f = -1 := by rw [← hf]; exact e
    exact ⟨this, by rw [if_pos this]⟩
  · right
    rw [hf] at e1 e2 e3
    refine ⟨e1, by omega, e3, fun N1 N2 A1 b1 b2 b3 => ?_⟩
    have hs : ∀ (B : Int → Int) (j x : Int), 1796 ≤ j ∨ j = 3 → am_set (am_st N2 505 (wc B (M 4))) 505 j x = am_st N2 505 (wc (am_up B j x) (M 4)) := fun B j x hj => by
      unfold am_set
      rw [st_eq, st_st, wc_upN _ _ (by omega) (by omega)]
    have e0 : N2 = am_st N2 505 (wc A1 (M 4)) := by rw [← b3, st_self]
    have hfr : 0 ≤ f ∧ f < 12 := by omega
    refine ⟨am_up (am_up (am_up (am_up (am_up (am_up (am_up (am_up (am_up (am_up A1 (1796 + 9 * f + 0) 1) (1796 + 9 * f + 1) sz) (1796 + 9 * f + 2) q) (1796 + 9 * f + 3) kp) (1796 + 9 * f + 4) (-1)) (1796 + 9 * f + 5) 0) (1796 + 9 * f + 6) 0) (1796 + 9 * f + 7) p) (1796 + 9 * f + 8) (A1 3)) 3 (am_wr (A1 3 + 1)), ?_, ?_⟩
    · rw [if_neg (show ¬ f = -1 by omega), b1, bV_some, b2, bV_some]
      conv => lhs; rw [e0]
      rw [S_Md_let (d + 1) hfr (by omega), bV_some, hs _ _ _ (by omega), S_Md_let (d + 1) hfr (by omega), bV_some, hs _ _ _ (by omega), S_Md_let (d + 1) hfr (by omega), bV_some, hs _ _ _ (by omega), S_Md_let (d + 1) hfr (by omega), bV_some, hs _ _ _ (by omega), S_Md_let (d + 1) hfr (by omega), bV_some, hs _ _ _ (by omega), S_Md_let (d + 1) hfr (by omega), bV_some, hs _ _ _ (by omega), S_Md_let (d + 1) hfr (by omega), bV_some, hs _ _ _ (by omega), S_Md_let (d + 1) hfr (by omega), bV_some, hs _ _ _ (by omega), S_Md_let (d + 1) hfr (by omega), bV_some, hs _ _ _ (by omega)]
      rw [st_eq, st_eq, wc_o _ _ (by omega), wc_o _ _ (by omega)]
      have e3' : am_up (am_up (am_up (am_up (am_up (am_up (am_up (am_up A1 (1796 + 9 * f + 0) 1) (1796 + 9 * f + 1) sz) (1796 + 9 * f + 2) q) (1796 + 9 * f + 3) kp) (1796 + 9 * f + 4) (-1)) (1796 + 9 * f + 5) 0) (1796 + 9 * f + 6) 0) (1796 + 9 * f + 7) p 3 = A1 3 := by
        rw [up_ne _ _ (by omega), up_ne _ _ (by omega), up_ne _ _ (by omega), up_ne _ _ (by omega), up_ne _ _ (by omega), up_ne _ _ (by omega), up_ne _ _ (by omega), up_ne _ _ (by omega)]
      rw [up_ne _ _ (show (3 : Int) ≠ 1796 + 9 * f + 8 by omega), e3', hs _ _ _ (by omega)]
    · refine ⟨?_, ?_, ?_, ?_, ?_, ?_, ?_, ?_, ?_, ?_, fun y y3 yf => ?_⟩
      · rw [show 1796 + 9 * f + 0 = 1796 + 9 * f by omega]
        repeat rw [up_ne _ _ (by omega)]
        rw [up_eq]
      · rw [show 1797 + 9 * f = 1796 + 9 * f + 1 by omega]
        repeat rw [up_ne _ _ (by omega)]
        rw [up_eq]
      · rw [show 1798 + 9 * f = 1796 + 9 * f + 2 by omega]
        repeat rw [up_ne _ _ (by omega)]
        rw [up_eq]
      · rw [show 1799 + 9 * f = 1796 + 9 * f + 3 by omega]
        repeat rw [up_ne _ _ (by omega)]
        rw [up_eq]
      · rw [show 1800 + 9 * f = 1796 + 9 * f + 4 by omega]
        repeat rw [up_ne _ _ (by omega)]
        rw [up_eq]
      · rw [show 1801 + 9 * f = 1796 + 9 * f + 5 by omega]
        repeat rw [up_ne _ _ (by omega)]
        rw [up_eq]
      · rw [show 1802 + 9 * f = 1796 + 9 * f + 6 by omega]
        repeat rw [up_ne _ _ (by omega)]
        rw [up_eq]
      · rw [show 1803 + 9 * f = 1796 + 9 * f + 7 by omega]
        repeat rw [up_ne _ _ (by omega)]
        rw [up_eq]
      · rw [show 1804 + 9 * f = 1796 + 9 * f + 8 by omega]
        repeat rw [up_ne _ _ (by omega)]
        rw [up_eq]
      · rw [up_eq]
      · rw [up_ne _ _ y3, up_ne _ _ (by omega), up_ne _ _ (by omega), up_ne _ _ (by omega), up_ne _ _ (by omega), up_ne _ _ (by omega), up_ne _ _ (by omega), up_ne _ _ (by omega), up_ne _ _ (by omega), up_ne _ _ (by omega)]
theorem J_make (d : Nat) {M : am_M} {n : Int} (hG : GR M n) (hn : n < 1000) (sz x : Int) : AG M (n + 1) (am_m am_P (d + 20) j_Tv_make [am_r 5 0, am_i sz, am_i x] M) (am_m am_P (d + 20) j_Md_make [am_r 6 504, am_i sz, am_i x]) := by
  have hX : am_m am_P (d + 20) j_Tv_make [am_r 5 0, am_i sz, am_i x] M = am_at am_P (d + 19) j_Tv_make 0 [am_r 5 0, am_i sz, am_i x, am_u] [] M := rfl
  have hY : ∀ N, am_m am_P (d + 20) j_Md_make [am_r 6 504, am_i sz, am_i x] N = am_at am_P (d + 19) j_Md_make 0 [am_r 6 504, am_i sz, am_i x] [] N := fun _ => rfl
  unfold AG
  simp only [hX, hY, E_Tv_make_0, E_Md_make_0, Nat.reduceAdd, S_St_leastFreeVolume (d + 18), bI_some, v_eq, S_Tv_isSize, S_Tv_isQuota]
  obtain ⟨f, hf⟩ : ∃ f, fd (fun i => M 7 i = 0) (fun _ => inferInstance) 0 12 = f := ⟨_, rfl⟩
  rw [hf]
  by_cases hs : 1 ≤ sz ∧ sz ≤ 512
  · simp only [b2_t hs, show ¬ ((1 : Int) = 0) by decide, if_false]
    by_cases hx : 0 ≤ x ∧ x ≤ 512
    · simp only [b2_t hx, show ¬ ((1 : Int) = 0) by decide, if_false]
      rcases snd_both (d + 14) (d + 15) hG with ⟨M', o1, o2, o3⟩ | ⟨M', A, o1, o2, o3, o4, o5, o6⟩
      · by_cases hfm : f = -1
        · obtain ⟨w, N', e1, e0, e2⟩ := o3 M rfl
          simp only [if_pos hfm]
          refine ⟨_, _, N', rfl, ?_, RF.gr hG (by omega) (fun k hk => rfl) e2⟩
          rw [e1]; simp only [bI_some, if_neg e0]
        · obtain ⟨w, N', e1, e0, e2⟩ := o3 M' (o2 505 (by decide))
          simp only [if_neg hfm]
          rw [o1]
          simp only [bI_some, if_true]
          refine ⟨_, _, N', rfl, ?_, RF.gr hG (by omega) (fun k hk => o2 k (by omega)) e2⟩
          rw [e1]; simp only [bI_some, if_neg e0]
      · have hf' : fd (fun i => M' 7 i = 0) (fun _ => inferInstance) 0 12 = f := by rw [← hf, o2 7 (by decide)]
        by_cases hfm : f = -1
        · obtain ⟨N', e1, e2⟩ := o6 M rfl
          have hN5 : N' 505 = wc A (M' 4) := by rw [e2.1 505 (by omega), ← o2 505 (by decide)]; exact o4
          simp only [if_pos hfm]
          rcases R_newVolume (d + 16) o5.1.mv hN5 sz x 0 (-1) hf' with ⟨_, r1⟩ | ⟨r1, _⟩
          · refine ⟨_, _, N', rfl, ?_, RF.gr hG (by omega) (fun k hk => rfl) e2⟩
            rw [e1]
            simp only [bI_some, if_true, S_Md_isIn, b2_t hs, b2_t hx, show ¬ ((1 : Int) = 0) by decide, if_false, r1]
          · omega
        · simp only [if_neg hfm]
          rw [o1]
          simp only [bI_some, show ¬ ((1 : Int) = 0) by decide, if_false]
          obtain ⟨q, hq, hq2⟩ := o3.q
          obtain ⟨b0, -⟩ := kp_beg o3 o5 hq (fun _ _ _ => rfl)
          have hff : 0 ≤ f ∧ f < 12 ∧ M' 7 f = 0 := by
            rcases fd_spec (p := fun i => M' 7 i = 0) (dp := fun _ => inferInstance) 12 0 with ⟨e, _⟩ | ⟨e1, e2, e3, _⟩
            · exact absurd (hf'.symm.trans e) hfm
            · rw [hf'] at e1 e2 e3; exact ⟨e1, by omega, e3⟩
          obtain ⟨c7, c8, c9, c10, c11, c12, c13, c14, c1, co⟩ := av_at (csS q 1 M') f sz x
          obtain ⟨k1, -, -, -, -⟩ := keep_fin (d + 16) o3 o4 hq (M2 := avS (csS q 1 M') f sz x) (fun k hk _ => co k (by omega) (by omega))
          obtain ⟨-, k2, k3, k4, k5⟩ := keep_fin (d + 17) o3 o4 hq (M2 := avS (csS q 1 M') f sz x) (fun k hk _ => co k (by omega) (by omega))
          rw [k1]
          simp only [bV_some, S_St_addVolume (d + 18) ⟨hff.1, hff.2.1⟩]
          rw [k2]
          simp only [bV_some]
          obtain ⟨N', e1, e2⟩ := o6 (ksS (avS (csS q 1 M') f sz x)) (by rw [k4 505 (by omega) (by omega), o2 505 (by decide)])
          have hN5 : N' 505 = wc A (M' 4) := by rw [e2.1 505 (by omega), k4 505 (by omega) (by omega)]; exact o4
          obtain ⟨N1, N2, A1, n1, n2, n3, n4, n5, n6, n7⟩ := k5 N' e2
          obtain ⟨-, hJ1⟩ := kp_beg o3 o5 hq n6
          rcases R_newVolume (d + 16) o5.1.mv hN5 sz x 0 (-1) hf' with ⟨r1, _⟩ | ⟨-, -, -, r1⟩
          · exact absurd r1 hfm
          · obtain ⟨A2, r2, a0, a1, a2, a3, a4, a5, a6, a7, a8, a9, ao⟩ := r1 N1 N2 A1 (n1 (d + 17)) (n2 (d + 16)) n5
            obtain ⟨z, hz⟩ : ∃ z : Nat, f = (z : Int) := ⟨f.toNat, by omega⟩
            subst hz
            have hA3 : A1 3 = csS q 1 M' 1 10 := hJ1.1.mv.1.2.1
            have hmd := hJ1.1.pr.1
            have hwr : am_wr (A1 3 + 1) = csS q 1 M' 1 10 + 1 := by rw [hA3, wr_id (by omega) (by omega)]
            have hf0 : csS q 1 M' 7 (z : Int) = 0 := by rw [b0 7 (by omega)]; exact hff.2.2
            have h10 : csS q 1 M' 10 (z : Int) = -1 := (hJ1.1.mv.2 z (by omega) (by omega)).1.2.2.2 hf0
            have hJ2 : JX (avS (csS q 1 M') z sz x) A2 (n + 1) := newvol_J hJ1 (f := z) (by omega) hf0 hs hx (Or.inl rfl) (Or.inl rfl) hn (fun k h3 h6 => co k (by omega) (by omega)) ⟨by rw [c1, up_ne _ _ (by decide)], by rw [c1, up_eq, wr_id (by omega) (by omega)]⟩ c7 c8 c9 (by rw [c10, ← h10, up_self]) c11 c12 c13 c14 a0 a1 a2 a3 a4 a5 a6 a7 (by rw [a8, hA3]) (by rw [a9, hwr]) ao
            have hfin := n7 (am_st N2 505 (wc A2 (M' 4))) A2 (by rw [st_eq, co 4 (by decide) (by decide), b0 4 (by omega)]) (fun y hy => ao y (by omega) (by omega)) (fun k hk => st_ne _ _ (by omega)) (by rw [st_ne _ _ (by decide)]) (by rw [st_ne _ _ (by decide)]) (SR.of hJ2 (by rw [c1, up_ne _ _ (by decide), b0 1 (by omega)]; exact o3.2.fl))
            refine ⟨_, _, _, rfl, ?_, hfin.1, fun k hk => by rw [hfin.2 k hk, o2 k (by omega)]⟩
            rw [e1]
            simp only [bI_some, if_true, S_Md_isIn, b2_t hs, b2_t hx, show ¬ ((1 : Int) = 0) by decide, if_false, r2]
    · simp only [b2_f hx, if_true]
      obtain ⟨w, N', e1, e2⟩ := wr_any (d + 15) hG (N := M) rfl
      refine ⟨_, _, N', rfl, ?_, RF.gr hG (by omega) (fun k hk => rfl) e2⟩
      rw [e1]
      simp only [bI_some, S_Md_isIn, b2_t hs, b2_f hx, show ¬ ((1 : Int) = 0) by decide, if_false, if_true, ite_self]
  · simp only [b2_f hs, if_true]
    obtain ⟨w, N', e1, e2⟩ := wr_any (d + 15) hG (N := M) rfl
    refine ⟨_, _, N', rfl, ?_, RF.gr hG (by omega) (fun k hk => rfl) e2⟩
    rw [e1]
    simp only [bI_some, S_Md_isIn, b2_f hs, if_true, ite_self]
