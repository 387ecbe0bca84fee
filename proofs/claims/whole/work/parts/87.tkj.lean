/-! TAKEN, the method -/
theorem J_take (d : Nat) {M : am_M} {n : Int} (hG : GR M n) (hn : n < 1000) (v kp : Int) (hkp : kp = 0 ∨ kp = 1) : AG M (n + 1) (am_m am_P (d + 20) j_Tv_take [am_r 5 0, am_i v, am_i kp] M) (am_m am_P (d + 20) j_Md_take [am_r 6 504, am_i v, am_i kp]) := by
  have hX : am_m am_P (d + 20) j_Tv_take [am_r 5 0, am_i v, am_i kp] M = am_at am_P (d + 19) j_Tv_take 0 [am_r 5 0, am_i v, am_i kp, am_u] [] M := rfl
  have hY : ∀ N, am_m am_P (d + 20) j_Md_take [am_r 6 504, am_i v, am_i kp] N = am_at am_P (d + 19) j_Md_take 0 [am_r 6 504, am_i v, am_i kp, am_u] [] N := fun _ => rfl
  unfold AG
  simp only [hX, hY, E_Tv_take_0, E_Md_take_0, Nat.reduceAdd, S_St_leastFreeVolume (d + 18), bI_some, v_eq, S_St_isThere]
  obtain ⟨f, hf⟩ : ∃ f, fd (fun i => M 7 i = 0) (fun _ => inferInstance) 0 12 = f := ⟨_, rfl⟩
  rw [hf]
  -- the reference's two ways are one
  have hone : ∀ (N : am_M) (x6 x8 : Int) (Y : Int → am_M → Option am_O), (if kp = 0 then am_bI (am_m am_P (d + 19) j_Md_newVolume [am_r 6 504, am_i x6, am_i x8, am_i 0, am_i v] N) Y else am_bI (am_m am_P (d + 19) j_Md_newVolume [am_r 6 504, am_i x6, am_i x8, am_i 1, am_i v] N) Y) = am_bI (am_m am_P (d + 19) j_Md_newVolume [am_r 6 504, am_i x6, am_i x8, am_i kp, am_i v] N) Y := fun N x6 x8 Y => by
    rcases hkp with e | e
    · rw [if_pos e, e]
    · rw [if_neg (by omega), e]
  simp only [hone]
  by_cases hv : thS M v
  · have hvr : 0 ≤ v ∧ v < 12 := ⟨hv.1, hv.2.1⟩
    simp only [b2_t hv, show ¬ ((1 : Int) = 0) by decide, if_false]
    rcases snd_both (d + 14) (d + 15) hG with ⟨M', o1, o2, o3⟩ | ⟨M', A, o1, o2, o3, o4, o5, o6⟩
    · by_cases hfm : f = -1
      · obtain ⟨w, N', e1, e0, e2⟩ := o3 M rfl
        simp only [if_pos hfm]
        refine ⟨_, _, N', rfl, ?_, RF.gr hG (by omega) (fun k hk => rfl) e2⟩
        rw [e1]; simp only [bI_some, if_neg e0]
      · obtain ⟨w, N', e1, e0, e2⟩ := o3 M' (o2 505 (by decide))
        simp only [if_neg hfm]
        rw [o1]
        simp only [bI_some, if_true]
        refine ⟨_, _, N', rfl, ?_, RF.gr hG (by omega) (fun k hk => o2 k (by omega)) e2⟩
        rw [e1]; simp only [bI_some, if_neg e0]
    · have hf' : fd (fun i => M' 7 i = 0) (fun _ => inferInstance) 0 12 = f := by rw [← hf, o2 7 (by decide)]
      have hv' : thS M' v := ⟨hv.1, hv.2.1, by rw [o2 7 (by decide)]; exact hv.2.2⟩
      obtain ⟨vd1, vd2, -⟩ := o5.1.mv.vd hv'
      have hq8 := (o5.1.mv.vd hv').2.2.2.2.2.2.2.1
      by_cases hfm : f = -1
      · obtain ⟨N', e1, e2⟩ := o6 M rfl
        have hN5 : N' 505 = wc A (M' 4) := by rw [e2.1 505 (by omega), ← o2 505 (by decide)]; exact o4
        simp only [if_pos hfm]
        rcases R_newVolume (d + 16) o5.1.mv hN5 (M' 7 v) (M' 8 v) kp v hf' with ⟨_, r1⟩ | ⟨r1, _⟩
        · refine ⟨_, _, N', rfl, ?_, RF.gr hG (by omega) (fun k hk => rfl) e2⟩
          rw [e1]
          simp only [bI_some, if_true, R_isVol (d + 17) o5.1.mv hN5, b2_t hv', show ¬ ((1 : Int) = 0) by decide, if_false, R_got (d + 18) hvr (show (0 : Int) ≤ 1 ∧ (1 : Int) < 9 by decide) hN5, R_got (d + 18) hvr (show (0 : Int) ≤ 2 ∧ (2 : Int) < 9 by decide) hN5, show 1796 + 9 * v + 1 = 1797 + 9 * v by omega, show 1796 + 9 * v + 2 = 1798 + 9 * v by omega, vd1, vd2, r1]
        · omega
      · simp only [if_neg hfm]
        rw [o1]
        simp only [bI_some, show ¬ ((1 : Int) = 0) by decide, if_false]
        obtain ⟨q, hq, hq2⟩ := o3.q
        obtain ⟨b0, -⟩ := kp_beg o3 o5 hq (fun _ _ _ => rfl)
        have hff : 0 ≤ f ∧ f < 12 ∧ M' 7 f = 0 := by
          rcases fd_spec (p := fun i => M' 7 i = 0) (dp := fun _ => inferInstance) 12 0 with ⟨e, _⟩ | ⟨e1, e2, e3, _⟩
          · exact absurd (hf'.symm.trans e) hfm
          · rw [hf'] at e1 e2 e3; exact ⟨e1, by omega, e3⟩
        obtain ⟨z, hz⟩ : ∃ z : Nat, f = (z : Int) := ⟨f.toNat, by omega⟩
        subst hz
        obtain ⟨u, hu⟩ : ∃ u : Nat, v = (u : Int) := ⟨v.toNat, by omega⟩
        subst hu
        have hzu : z ≠ u := fun e => by have := hv'.2.2; rw [← e] at this; omega
        have hf0 : csS q 1 M' 7 (z : Int) = 0 := by rw [b0 7 (by omega)]; exact hff.2.2
        obtain ⟨M1, hM1⟩ : ∃ M1, M1 = csS q 1 M' := ⟨_, rfl⟩
        obtain ⟨c7, c8, c9, c10, c11, c12, c13, c14, c1, co⟩ := av_at M1 z (M1 7 u) (M1 8 u)
        obtain ⟨X, hXd⟩ : ∃ X, X = am_set (am_set (avS M1 z (M1 7 u) (M1 8 u)) 9 z kp) 13 z u := ⟨_, rfl⟩
        have x9 : X 9 = am_up (M1 9) z kp := by
          rw [hXd, set_ne _ _ _ (by decide), set_eq, c9]
          funext y
          by_cases e : y = (z : Int)
          · rw [e, up_eq, up_eq]
          · rw [up_ne _ _ e, up_ne _ _ e, up_ne _ _ e]
        have x13 : X 13 = am_up (M1 13) z u := by
          rw [hXd, set_eq, set_ne _ _ _ (by decide), c13]
          funext y
          by_cases e : y = (z : Int)
          · rw [e, up_eq, up_eq]
          · rw [up_ne _ _ e, up_ne _ _ e, up_ne _ _ e]
        have xo : ∀ k : Nat, k ≠ 9 → k ≠ 13 → X k = avS M1 z (M1 7 u) (M1 8 u) k := fun k k9 k13 => by rw [hXd, set_ne _ _ _ k13, set_ne _ _ _ k9]
        have hframe : ∀ k : Nat, (k = 0 ∨ 15 ≤ k) → hgTS X z (X 10 u) k = csS q 1 M' k := fun k hk => by
          have e : ∀ T, hgTS X z T k = X k := fun T => by
            unfold hgTS
            split
            · have hh : ∀ (m : Nat) (Y : am_M) (t : Int), k ≠ 4 → (LG 4 m Y t).2 k = Y k := by
                intro m
                induction m with
                | zero => intro Y t _; rfl
                | succ m ih =>
                  intro Y t h4
                  unfold LG
                  split
                  · split
                    · split
                      · exact set_ne _ _ _ h4
                      · exact it_inv (σ := Int × am_M) (b := fun i s => (am_wr (s.1 + (LG 4 m s.2 (atS (s.2 6) t i)).1), (LG 4 m s.2 (atS (s.2 6) t i)).2)) (fun _ s => s.2 k = Y k) 8 0 _ (set_ne _ _ _ h4) (fun i s _ _ hs => (ih s.2 _ h4).trans hs)
                    · exact set_ne _ _ _ h4
                  · rfl
              rw [hh 4 _ _ (by omega), set_ne _ _ _ (by omega)]
              unfold raiseS
              split
              · exact set_ne _ _ _ (by omega)
              · rfl
            · rfl
          rw [e, xo k (by omega) (by omega), co k (by omega) (by omega), hM1]
        obtain ⟨k1, -, -, -, -⟩ := keep_fin (d + 16) o3 o4 hq (M2 := hgTS X z (X 10 u)) (fun k hk _ => hframe k hk)
        obtain ⟨-, k2, k3, k4, k5⟩ := keep_fin (d + 17) o3 o4 hq (M2 := hgTS X z (X 10 u)) (fun k hk _ => hframe k hk)
        rw [k1]
        simp only [bV_some, if_t hvr, ← hM1, S_St_addVolume (d + 18) (show 0 ≤ (z : Int) ∧ (z : Int) < 12 by omega), if_t (show (0 ≤ (z : Int) ∧ (z : Int) < 12) ∧ (kp = 0 ∨ kp = 1) from ⟨by omega, hkp⟩), if_t (show 0 ≤ (z : Int) ∧ (z : Int) < 12 by omega), w_eq]
        rw [← hXd]
        simp only [S_St_hangTrunk (d + 12), bV_some]
        rw [k2]
        simp only [bV_some]
        obtain ⟨N', e1, e2⟩ := o6 (ksS (hgTS X z (X 10 u))) (by rw [k4 505 (by omega) (by omega), o2 505 (by decide)])
        have hN5 : N' 505 = wc A (M' 4) := by rw [e2.1 505 (by omega), k4 505 (by omega) (by omega)]; exact o4
        obtain ⟨N1, N2, A1, n1, n2, n3, n4, n5, n6, n7⟩ := k5 N' e2
        obtain ⟨-, hJ1⟩ := kp_beg o3 o5 hq n6
        rw [← hM1] at hJ1 b0 hf0
        rcases R_newVolume (d + 16) o5.1.mv hN5 (M' 7 u) (M' 8 u) kp u hf' with ⟨r1, _⟩ | ⟨-, -, -, r1⟩
        · exact absurd r1 hfm
        · obtain ⟨A2, r2, a0, a1, a2, a3, a4, a5, a6, a7, a8, a9, ao⟩ := r1 N1 N2 A1 (n1 (d + 17)) (n2 (d + 16)) n5
          have hA3 : A1 3 = M1 1 10 := hJ1.1.mv.1.2.1
          have hmd := hJ1.1.pr.1
          have hwr : am_wr (A1 3 + 1) = M1 1 10 + 1 := by rw [hA3, wr_id (by omega) (by omega)]
          have h10 : M1 10 (z : Int) = -1 := (hJ1.1.mv.2 z (by omega) (by omega)).1.2.2.2 hf0
          have hvM1 : thS M1 u := ⟨hvr.1, hvr.2, by rw [b0 7 (by omega)]; exact hv'.2.2⟩
          have hszu := (hJ1.1.mv.2 u hvr.1 hvr.2).1
          have hus := hvM1.2.2
          have hqu := (hJ1.1.mv.vd hvM1).2.2.2.2.2.2.2.1
          have x10 : X 10 = M1 10 := by rw [xo 10 (by decide) (by decide), c10, ← h10, up_self]
          have x4 : X 4 = M1 4 := by rw [xo 4 (by decide) (by decide), co 4 (by decide) (by decide)]
          have x6 : X 6 = M1 6 := by rw [xo 6 (by decide) (by decide), co 6 (by decide) (by decide)]
          have x7 : X 7 = am_up (M1 7) z (M1 7 u) := by rw [xo 7 (by decide) (by decide), c7]
          have hJX : JX X A2 (n + 1) := newvol_J hJ1 (f := z) (by omega) hf0 (sz := M1 7 u) (q := M1 8 u) (by omega) hqu hkp (Or.inr hvM1) hn (fun k h3 h6 => by rw [xo k (by omega) (by omega), co k (by omega) (by omega)]) ⟨by rw [xo 1 (by decide) (by decide), c1, up_ne _ _ (by decide)], by rw [xo 1 (by decide) (by decide), c1, up_eq, wr_id (by omega) (by omega)]⟩ x7 (by rw [xo 8 (by decide) (by decide), c8]) x9 x10 (by rw [xo 11 (by decide) (by decide), c11]) (by rw [xo 12 (by decide) (by decide), c12]) x13 (by rw [xo 14 (by decide) (by decide), c14]) a0 (by rw [a1, b0 7 (by omega)]) (by rw [a2, b0 8 (by omega)]) a3 a4 a5 a6 a7 (by rw [a8, hA3]) (by rw [a9, hwr]) ao
          have hXz : thS X z := ⟨by omega, by omega, by rw [x7, up_eq]; omega⟩
          have x7u : X 7 u = M1 7 u := by rw [x7, up_ne _ _ (by omega)]
          have hXu : thS X u := ⟨hvr.1, hvr.2, by rw [x7u]; exact hus⟩
          have hp := hgTS_pure X hXz (X 10 u) (fun y => by have := hJX.1.pi.bd y; omega)
          have x10z : X 10 z = -1 := by rw [x10]; exact h10
          rw [x10z, LGc_m1] at hp
          have h7' : hgTS X z (X 10 u) 7 = X 7 := by rw [hp, st_ne _ _ (by decide), st_ne _ _ (by decide)]
          have hid : hgTS X z (X 10 u) = am_set (hgTS X z (X 10 u)) 7 z (X 7 u) := by
            have e : X 7 u = hgTS X z (X 10 u) 7 z := by rw [h7', x7u, x7, up_eq]
            unfold am_set
            rw [e, up_self, st_self]
          obtain ⟨g1, g2, g3, g4, g5, g6⟩ := bring_J hJX.1 hXz hXu hzu hid
          have hid2 : am_up (am_up A2 (1796 + 9 * (z : Int) + 4) (decT (X 10 u))) (1797 + 9 * (z : Int)) (X 7 u) = am_up A2 (1796 + 9 * (z : Int) + 4) (decT (X 10 u)) := by
            have e : X 7 u = am_up A2 (1796 + 9 * (z : Int) + 4) (decT (X 10 u)) (1797 + 9 * (z : Int)) := by rw [up_ne _ _ (by omega), a1, x7u, b0 7 (by omega)]
            rw [e, up_self]
          rw [hid2] at g4
          have m10 : hgTS X z (X 10 u) 10 = am_up (X 10) z (X 10 u) := by rw [hp, st_ne _ _ (by decide), st_eq]
          have m4 : hgTS X z (X 10 u) 4 = rs (X 4) (X 10 u) := by rw [hp, st_eq]
          have m6 : hgTS X z (X 10 u) 6 = X 6 := by rw [hp, st_ne _ _ (by decide), st_ne _ _ (by decide)]
          have hth : ∀ y, thS (hgTS X z (X 10 u)) y ↔ thS X y := fun y => by unfold thS; rw [h7']
          have husz : usS (hgTS X z (X 10 u)) z = usS X u := by
            unfold usS
            rw [if_pos ((hth z).mpr hXz), if_pos hXu, m6, m10, up_eq]
          have hal : alS (hgTS X z (X 10 u)) := by
            refine ⟨fun y hy => ?_, ?_⟩
            · obtain ⟨y', hy'⟩ : ∃ y' : Nat, y = (y' : Int) := ⟨y.toNat, by have := hy.1; omega⟩
              subst hy'
              by_cases e : y' = z
              · subst e
                rw [husz, g1 8 (by decide) (by decide) (by decide), xo 8 (by decide) (by decide), c8, up_eq]
                have := hJX.2.1 u hXu
                rw [xo 8 (by decide) (by decide), c8, up_ne _ _ (show (u : Int) ≠ y' by omega)] at this
                exact this
              · rw [g5 y' (by have := hy.2.1; omega) e, g1 8 (by decide) (by decide) (by decide)]
                exact hJX.2.1 y' ((hth y').mp hy)
            · have hff' : ∀ y : Nat, y < 12 → hfS (hgTS X z (X 10 u)) y = hfS X y := fun y hy => by
                unfold hfS
                by_cases ht : thS X y
                · rw [if_pos ht, if_pos ((hth y).mpr ht), g1 11 (by decide) (by decide) (by decide)]
                  by_cases e : y = z
                  · subst e
                    have h1 := usS_bd X y
                    have h2 := usS_bd (hgTS X y (X 10 u)) y
                    rw [xo 11 (by decide) (by decide), c11, up_eq]
                    by_cases q1 : (0 : Int) - usS X y < 0
                    · rw [if_pos q1]
                      by_cases q2 : (0 : Int) - usS (hgTS X y (X 10 u)) y < 0
                      · rw [if_pos q2]
                      · rw [if_neg q2]; omega
                    · rw [if_neg q1]
                      by_cases q2 : (0 : Int) - usS (hgTS X y (X 10 u)) y < 0
                      · rw [if_pos q2]; omega
                      · rw [if_neg q2]; omega
                  · rw [g5 y hy e]
                · rw [if_neg ht, if_neg (fun q => ht ((hth y).mp q))]
              have hnz : nz (hgTS X z (X 10 u) 4) 96 = nz (X 4) 96 := by
                unfold nz
                refine sm_congr 96 (fun b hb => ?_)
                (try dsimp only)
                have : rs (X 4) (X 10 u) b = X 4 b := by
                  unfold rs
                  split
                  · next hT =>
                    rcases hJX.1.rv.tr hJX.1.pi (w := u) (by omega) with e | e
                    · omega
                    · exact up_ne _ _ (by omega)
                  · rfl
                rw [m4, this]
              rw [sm_congr 12 hff', hnz]
              exact hJX.2.2
          have hSR := SR.of (M := hgTS X z (X 10 u)) (n := n + 1) ⟨g4, hal⟩ (by rw [g1 1 (by decide) (by decide) (by decide), xo 1 (by decide) (by decide), c1, up_ne _ _ (by decide), b0 1 (by omega)]; exact o3.2.fl)
          have hrun := g6 (d + 13) N2
          rw [x4, b0 4 (by omega)] at hrun
          have hfin := n7 (am_st N2 505 (wc (am_up A2 (1796 + 9 * (z : Int) + 4) (decT (X 10 u))) (hgTS X z (X 10 u) 4))) _ (st_eq _ _ _) (fun y hy => by rw [up_ne _ _ (by omega)]; exact ao y (by omega) (by omega)) (fun k hk => st_ne _ _ (by omega)) (by rw [st_ne _ _ (by decide)]) (by rw [st_ne _ _ (by decide)]) hSR
          refine ⟨_, _, _, rfl, ?_, hfin.1, fun k hk => by rw [hfin.2 k hk, o2 k (by omega)]⟩
          have hA4 : A2 (1796 + 9 * (u : Int) + 4) = decT (X 10 u) := (hJX.1.rv u (by omega)).2 hXu.2.2
          rw [e1]
          simp only [bI_some, if_true, R_isVol (d + 17) o5.1.mv hN5, b2_t hv', show ¬ ((1 : Int) = 0) by decide, if_false, R_got (d + 18) hvr (show (0 : Int) ≤ 1 ∧ (1 : Int) < 9 by decide) hN5, R_got (d + 18) hvr (show (0 : Int) ≤ 2 ∧ (2 : Int) < 9 by decide) hN5, show 1796 + 9 * (u : Int) + 1 = 1797 + 9 * u by omega, show 1796 + 9 * (u : Int) + 2 = 1798 + 9 * u by omega, vd1, vd2, r2, if_neg hfm, R_get (d + 18) hvr (show (0 : Int) ≤ 4 ∧ (4 : Int) < 9 by decide), hA4, hrun, bV_some]
  · simp only [b2_f hv, if_true]
    obtain ⟨A, c, hR, hJ, hP⟩ := hG.sr
    obtain ⟨w, N', e1, e2⟩ := wr_any (d + 15) hG (N := M) rfl
    obtain ⟨u1, u2, u3⟩ := hJ.un
    refine ⟨_, _, N', rfl, ?_, RF.gr hG (by omega) (fun k hk => rfl) e2⟩
    rw [e1]
    simp only [bI_some, R_isVol (d + 17) u3 (show N' 505 = wc A (M 4) by rw [e2.1 505 (by omega)]; exact hR), b2_f hv, if_true, ite_self]
