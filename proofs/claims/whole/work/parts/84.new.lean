/-! QUOTA, HOLD; A NEW VOLUME -/
theorem J_quota (d : Nat) {M : am_M} {n : Int} (hG : GR M n) (v x : Int) : AG M (n + 1) (am_m am_P (d + 20) j_Tv_quota [am_r 5 0, am_i v, am_i x] M) (am_m am_P (d + 20) j_Md_quota [am_r 6 504, am_i v, am_i x]) := by
  have hX : am_m am_P (d + 20) j_Tv_quota [am_r 5 0, am_i v, am_i x] M = am_at am_P (d + 19) j_Tv_quota 0 [am_r 5 0, am_i v, am_i x] [] M := rfl
  have hY : ∀ N, am_m am_P (d + 20) j_Md_quota [am_r 6 504, am_i v, am_i x] N = am_at am_P (d + 19) j_Md_quota 0 [am_r 6 504, am_i v, am_i x] [] N := fun _ => rfl
  unfold AG
  simp only [hX, hY, E_Tv_quota_0, E_Md_quota_0, Nat.reduceAdd, if_ot, if_to]
  rcases opn_both (d + 13) (d + 14) hG v with ⟨M', o1, o2, o3⟩ | ⟨M', A, o1, o2, o3, o4, o5, o6, o7, o8⟩
  · obtain ⟨N', e1, e2⟩ := o3 M' (o2 505 (by decide))
    rw [o1]
    simp only [bI_some, if_true]
    refine ⟨_, _, N', rfl, ?_, RF.gr hG (by omega) (fun k hk => o2 k (by omega)) e2⟩
    rw [e1]; simp only [bI_some, if_true]
  · obtain ⟨N', e1, e2⟩ := o8 M' (o2 505 (by decide))
    have hN5 : N' 505 = wc A (M' 4) := by rw [e2.1 505 (by omega)]; exact o4
    have hno := RF.gr (n' := n + 1) hG (by omega) (fun k hk => o2 k (by omega)) e2
    obtain ⟨w, hw⟩ : ∃ w : Nat, v = (w : Int) := ⟨v.toNat, by have := o6.1; omega⟩
    subst hw
    have hub := usS_bd M' w
    have hw12 : w < 12 := by have := o6.2.1; omega
    rw [o1]
    simp only [bI_some, show ¬ ((1 : Int) = 0) by decide, if_false, S_Tv_isQuota]
    by_cases hx : usS M' w ≤ x ∧ x ≤ 512
    · simp only [b2_t (show 0 ≤ x ∧ x ≤ 512 by omega), show ¬ ((1 : Int) = 0) by decide, if_false, S_St_usedOf (d + 13), bI_some, if_neg (show ¬ x < usS M' w by omega)]
      obtain ⟨q, hq, hq2⟩ := o3.q
      obtain ⟨b0, -⟩ := kp_beg o3 o5 hq (fun _ _ _ => rfl)
      have hm : ∀ k : Nat, k ≠ 8 → am_set (csS q 1 M') 8 w x k = csS q 1 M' k := fun k hk => set_ne _ _ _ hk
      obtain ⟨k1, -, -, -, -⟩ := keep_fin (d + 16) o3 o4 hq (M2 := am_set (csS q 1 M') 8 w x) (fun k hk _ => hm k (by omega))
      obtain ⟨-, k2, k3, k4, k5⟩ := keep_fin (d + 17) o3 o4 hq (M2 := am_set (csS q 1 M') 8 w x) (fun k hk _ => hm k (by omega))
      rw [k1]
      simp only [bV_some, w_eq, if_t (show 0 ≤ (w : Int) ∧ (w : Int) < 12 by omega)]
      rw [k2]
      simp only [bV_some]
      obtain ⟨N'', e1', e2'⟩ := o8 (ksS (am_set (csS q 1 M') 8 w x)) (by rw [k4 505 (by omega) (by omega), o2 505 (by decide)])
      have hN5' : N'' 505 = wc A (M' 4) := by rw [e2'.1 505 (by omega), k4 505 (by omega) (by omega)]; exact o4
      obtain ⟨N1, N2, A1, n1, n2, n3, n4, n5, n6, n7⟩ := k5 N'' e2'
      obtain ⟨-, hJ1⟩ := kp_beg o3 o5 hq n6
      have hJ2 : JX (am_set (csS q 1 M') 8 w x) (am_up A1 (1796 + 9 * (w : Int) + 2) x) (n + 1) := by
        refine hJ1.meta (fun k _ h8 _ => hm k h8) (by rw [hm 1 (by decide)]) (hJ1.1.mv.f8 (by omega) (by omega) hm (set_eq _ _ _ _)) (fun y hy _ _ => up_ne _ _ (by omega)) (fun u hu => up_ne _ _ (by omega)) (fun u hu => ?_)
        rw [set_eq]
        by_cases e : u = w
        · rw [e, up_eq]
          have : usS (csS q 1 M') w = usS M' w := by unfold usS thS; rw [b0 6 (by omega), b0 7 (by omega), b0 10 (by omega)]
          omega
        · rw [up_ne _ _ e]; exact hJ1.2.1 u hu
      have hfin := n7 (am_set N2 505 (1796 + 9 * (w : Int) + 2) x) (am_up A1 (1796 + 9 * (w : Int) + 2) x) (by rw [set_eq, n5, wc_upN _ _ (by omega) (by omega), hm 4 (by decide), b0 4 (by omega)]) (fun y hy => up_ne _ _ (by omega)) (fun k hk => set_ne _ _ _ (by omega)) (by rw [set_ne _ _ _ (by decide)]) (by rw [set_ne _ _ _ (by decide)]) (SR.of hJ2 (by rw [hm 1 (by decide), b0 1 (by omega)]; exact o3.2.fl))
      refine ⟨_, _, _, rfl, ?_, hfin.1, fun k hk => by rw [hfin.2 k hk, o2 k (by omega)]⟩
      rw [e1']
      simp only [bI_some, show ¬ ((1 : Int) = 0) by decide, if_false, R_usedOf (d + 15) o5.1.pi o5.1.rv o6 hN5', S_Md_isIn, b2_t hx, n1, bV_some, n2, S_Md_let (d + 18) (show 0 ≤ (w : Int) ∧ (w : Int) < 12 by omega) (show (0 : Int) ≤ 2 ∧ (2 : Int) < 9 by decide)]
    · have href : am_bI (am_m am_P (d + 19) j_Md_isOpen [am_r 6 504, am_i (w : Int)] M') (fun x2 M1 => if x2 = 0 then some (some (am_i 0), M1) else am_bI (am_m am_P (d + 19) j_Md_usedOf [am_r 6 504, am_i (w : Int)] M1) fun x4 M3 => am_bI (am_m am_P (d + 19) j_Md_isIn [am_i x, am_i x4, am_i 512] M3) fun x6 M5 => if x6 = 0 then some (some (am_i 0), M5) else am_bV (am_m am_P (d + 19) j_Md_begin [am_r 6 504] M5) fun M7 => am_bV (am_m am_P (d + 19) j_Md_keep [am_r 6 504] M7) fun M8 => am_bV (am_m am_P (d + 19) j_Md_let [am_r 6 504, am_i (w : Int), am_i 2, am_i x] M8) fun M9 => some (some (am_i 1), M9)) = some (some (am_i 0), N') := by
        rw [e1]
        simp only [bI_some, show ¬ ((1 : Int) = 0) by decide, if_false, R_usedOf (d + 15) o5.1.pi o5.1.rv o6 hN5, S_Md_isIn, b2_f hx, if_true]
      by_cases hx2 : 0 ≤ x ∧ x ≤ 512
      · simp only [b2_t hx2, show ¬ ((1 : Int) = 0) by decide, if_false, S_St_usedOf (d + 13), bI_some, if_pos (show x < usS M' w by omega)]
        exact ⟨_, _, N', rfl, href, hno⟩
      · simp only [b2_f hx2, if_true, bI_some]
        exact ⟨_, _, N', rfl, href, hno⟩
theorem newvol_J {M M2 : am_M} {A A2 : Int → Int} {n : Int} (h : JX M A n) {f : Nat} (hf : f < 12) (h0 : M 7 f = 0) {sz q kp p : Int} (hsz : 1 ≤ sz ∧ sz ≤ 512) (hq : 0 ≤ q ∧ q ≤ 512) (hkp : kp = 0 ∨ kp = 1) (hp : p = -1 ∨ thS M p) (hn : n < 1000)
    (eo : ∀ k : Nat, 3 ≤ k → k ≤ 6 → M2 k = M k) (e1 : M2 1 9 = M 1 9 ∧ M2 1 10 = M 1 10 + 1) (e7 : M2 7 = am_up (M 7) f sz) (e8 : M2 8 = am_up (M 8) f q) (e9 : M2 9 = am_up (M 9) f kp) (e10 : M2 10 = M 10) (e11 : M2 11 = am_up (M 11) f 0) (e12 : M2 12 = am_up (M 12) f 0) (e13 : M2 13 = am_up (M 13) f p) (e14 : M2 14 = am_up (M 14) f (M 1 10))
    (a0 : A2 (1796 + 9 * (f : Int)) = 1) (a1 : A2 (1797 + 9 * (f : Int)) = sz) (a2 : A2 (1798 + 9 * (f : Int)) = q) (a3 : A2 (1799 + 9 * (f : Int)) = kp) (a4 : A2 (1800 + 9 * (f : Int)) = -1) (a5 : A2 (1801 + 9 * (f : Int)) = 0) (a6 : A2 (1802 + 9 * (f : Int)) = 0) (a7 : A2 (1803 + 9 * (f : Int)) = p) (a8 : A2 (1804 + 9 * (f : Int)) = M 1 10) (ab : A2 3 = M 1 10 + 1) (ao : ∀ y : Int, y ≠ 3 → ¬ (1796 + 9 * (f : Int) ≤ y ∧ y < 1805 + 9 * (f : Int)) → A2 y = A y) : JX M2 A2 (n + 1) := by
  have h10f : M 10 f = -1 := (h.1.mv.2 f (by omega) (by omega)).1.2.2.2 h0
  have f7 : ∀ z : Int, z ≠ f → M2 7 z = M 7 z := fun z hz => by rw [e7, up_ne _ _ hz]
  have f7f : M2 7 f = sz := by rw [e7, up_eq]
  have hth : ∀ z : Int, thS M2 z ↔ (thS M z ∨ z = f) := fun z => by
    unfold thS
    by_cases e : z = f
    · rw [e, f7f]; exact ⟨fun _ => Or.inr rfl, fun _ => ⟨by omega, by omega, by omega⟩⟩
    · rw [f7 z e]; exact ⟨fun q => Or.inl q, fun q => q.resolve_right e⟩
  have hnf : ¬ thS M f := fun q => by have := q.2.2; omega
  have ctf : ∀ b, ct (M 6) (M 10) f b = -1 := fun b => by unfold ct; rw [h10f, at_m1, at_m1, at_m1]
  have hus : ∀ z : Int, z ≠ f → usS M2 z = usS M z := fun z hz => by
    unfold usS
    by_cases ht : thS M z
    · rw [if_pos ht, if_pos ((hth z).mpr (Or.inl ht)), eo 6 (by omega) (by omega), e10]
    · rw [if_neg ht, if_neg (fun q => ((hth z).mp q).elim ht hz)]
  have husf : usS M2 f = 0 := by
    unfold usS
    rw [if_pos ((hth f).mpr (Or.inr rfl)), mu_um, eo 6 (by omega) (by omega), e10]
    exact sm_zero 512 (fun a _ => by (try dsimp only); rw [ctf, if_pos rfl])
  obtain ⟨p1, p2, p3, p4, p5⟩ := h.1.pi
  refine ⟨⟨?_, ?_, ?_, ?_, ?_, ?_⟩, ?_, ?_⟩
  · rw [eo 4 (by omega) (by omega), eo 5 (by omega) (by omega), eo 6 (by omega) (by omega), e10]
    refine ⟨p1, p2, p3, fun r hr hr0 => ?_, p5⟩
    obtain ⟨c1, c2⟩ := p4 r hr hr0
    rw [ao _ (by omega) (by omega)]
    exact ⟨c1, fun k hk => by rw [ao _ (by omega) (by omega)]; exact c2 k hk⟩
  · intro z hz
    obtain ⟨v1, v2⟩ := h.1.rv z hz
    rw [e10, eo 5 (by omega) (by omega)]
    refine ⟨v1, fun h7 => ?_⟩
    by_cases e : z = f
    · subst e
      rw [show 1796 + 9 * (z : Int) + 4 = 1800 + 9 * z by omega, a4, h10f]; rfl
    · rw [ao _ (by omega) (by omega)]
      rw [f7 z (by omega)] at h7
      exact v2 h7
  · intro b b0 b1 hb
    rw [eo 4 (by omega) (by omega)] at hb
    rw [ao _ (by omega) (by omega), eo 3 (by omega) (by omega)]
    exact h.1.rb b b0 b1 hb
  · obtain ⟨⟨m1, m2, m3⟩, m4⟩ := h.1.mv
    refine ⟨⟨by rw [ao 2 (by omega) (by omega), e1.1]; exact m1, by rw [ab, e1.2], by rw [e1.1]; exact m3⟩, fun z z0 z12 => ?_⟩
    obtain ⟨⟨k1, k2, k3, k4⟩, k5⟩ := m4 z z0 z12
    by_cases e : z = f
    · subst e
      rw [f7f, a0]
      refine ⟨⟨by omega, by omega, ⟨fun _ => by omega, fun _ => rfl⟩, fun q => by omega⟩, fun _ => ?_⟩
      unfold VD
      rw [f7f, e8, e9, e11, e12, e13, e14, up_eq, up_eq, up_eq, up_eq, up_eq, up_eq]
      exact ⟨a1, a2, a3, a5, a6, a7, a8, hq, hkp, by omega, by omega⟩
    · rw [f7 z e, e10, ao _ (by omega) (by omega)]
      refine ⟨⟨k1, k2, k3, k4⟩, fun h7 => ?_⟩
      have := k5 h7
      unfold VD at this ⊢
      rw [f7 z e, e8, e9, e11, e12, e13, e14, up_ne _ _ e, up_ne _ _ e, up_ne _ _ e, up_ne _ _ e, up_ne _ _ e, up_ne _ _ e, ao _ (by omega) (by omega), ao _ (by omega) (by omega), ao _ (by omega) (by omega), ao _ (by omega) (by omega), ao _ (by omega) (by omega), ao _ (by omega) (by omega), ao _ (by omega) (by omega)]
      exact this
  · obtain ⟨q1, q2⟩ := h.1.pr
    refine ⟨by rw [e1.2]; omega, fun z hz h7 => ?_⟩
    rw [e1.2, e13, e14]
    by_cases e : z = f
    · subst e
      rw [up_eq, up_eq]
      refine ⟨by omega, ?_⟩
      rcases hp with e | e
      · exact Or.inl e
      · have hpz : p ≠ (z : Int) := fun q => hnf (by rw [← q]; exact e)
        refine Or.inr ⟨(hth p).mpr (Or.inl e), ?_⟩
        rw [up_ne _ _ hpz]
        obtain ⟨u, hu⟩ : ∃ u : Nat, p = (u : Int) := ⟨p.toNat, by have := e.1; omega⟩
        subst hu
        exact (q2 u (by have := e.2.1; omega) e.2.2).1.2
    · rw [f7 z (by omega)] at h7
      obtain ⟨r1, r2⟩ := q2 z hz h7
      rw [up_ne _ _ (show (z : Int) ≠ f by omega), up_ne _ _ (show (z : Int) ≠ f by omega)]
      refine ⟨by omega, ?_⟩
      rcases r2 with e' | ⟨s1, s2⟩
      · exact Or.inl e'
      · have hpz : M 13 z ≠ (f : Int) := fun q => hnf (by rw [← q]; exact s1)
        exact Or.inr ⟨(hth _).mpr (Or.inl s1), by rw [up_ne _ _ hpz]; exact s2⟩
  · intro z hz h7 a a1 a2
    rw [eo 6 (by omega) (by omega), e10]
    by_cases e : z = f
    · subst e; exact ctf a
    · rw [f7 z (by omega)] at h7 a1
      exact h.1.ci z hz h7 a a1 a2
  · intro z hz
    by_cases e : z = f
    · rw [e, husf, e8, up_eq]; omega
    · rw [hus z e, e8, up_ne _ _ e]
      exact h.2.1 z (((hth z).mp hz).resolve_right e)
  · have hf' : ∀ z : Nat, z < 12 → hfS M2 z = hfS M z := fun z _ => by
      unfold hfS
      by_cases e : z = f
      · subst e
        rw [if_pos ((hth z).mpr (Or.inr rfl)), if_neg hnf, husf, e11, up_eq]
        rfl
      · by_cases ht : thS M z
        · rw [if_pos ht, if_pos ((hth z).mpr (Or.inl ht)), hus z (by omega), e11, up_ne _ _ (by omega)]
        · rw [if_neg ht, if_neg (fun q => ((hth z).mp q).elim ht (by omega))]
    rw [sm_congr 12 hf', eo 4 (by omega) (by omega)]
    exact h.2.2
