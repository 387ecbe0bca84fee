/-! EXCHANGED (gen78.py) -/
theorem settle_no (d e : Nat) {M : am_M} {n n' : Int} (hG : GR M n) (hn : n ≤ n') {A : Int → Int} (hJ : JX M A n) (hR : M 505 = wc A (M 4)) {q : Nat} (hq : M 0 1 = (q : Int)) {M2 : am_M} (hM2 : ∀ k : Nat, (k = 0 ∨ 15 ≤ k) → M2 k = csS q 1 M k) (hz : OZ M M2) (hMV : ∃ A', MV M2 A') (hal : ¬ alS M2) :
    am_m am_P (d + 8) j_Tv_settle [am_r 5 0, am_i 1] M2 = some (some (am_i 0), csS 1 q M2) ∧ (∀ k : Nat, 495 ≤ k → csS 1 q M2 k = M k) ∧
      ∀ N1 N2 : am_M, BN (csS 1 q M2) N1 → (∀ k : Nat, k ≠ 504 → k ≠ 505 → N2 k = N1 k) → (∀ j : Int, j ≠ 2 → N2 504 j = N1 504 j) → (∀ y : Int, (y < 2 ∨ 1904 ≤ y) → N2 505 y = A y) → ∃ M6, am_m am_P (e + 6) j_Md_bringBack [am_r 6 504] N2 = some (none, M6) ∧ GX M6 n' ∧ (∀ k : Nat, k ≠ 504 → k ≠ 505 → M6 k = N1 k) ∧ ∀ j : Int, j ≠ 2 → M6 504 j = N1 504 j := by
  have hqB : isB (q : Int) := by rw [← hq]; exact hG.1.1.1
  have hqr := isB_rng hqB
  have hoff : ∀ k : Nat, (k = 0 ∨ 15 ≤ k) → (k < q ∨ q + 13 < k) → M2 k = M k := fun k k1 k2 => by rw [hM2 k k1, cs_off _ _ _ k2]
  have h20 : M2 0 = M 0 := hoff 0 (by omega) (by omega)
  have hhi : ∀ k : Nat, 255 ≤ k → M2 k = M k := fun k hk => hoff k (by omega) (by omega)
  have hz2 : ∀ x, ¬ TA x → M2 4 x = 0 := fun x hx => by rw [hz x hx]; exact hJ.1.pi.zo x hx
  have hX : am_m am_P (d + 8) j_Tv_settle [am_r 5 0, am_i 1] M2 = am_at am_P (d + 7) j_Tv_settle 0 [am_r 5 0, am_i 1] [] M2 := rfl
  have hqf : M2 q 11 = 0 ∨ M2 q 11 = 1 := by
    rw [hM2 q (by omega)]
    have e := (cs_EQ (r0 := q) (r1 := 1) (by omega) M).2.2.2.2.2.2.2
    have e' : csS q 1 M q 11 = M 1 11 := e
    rw [e']
    exact hG.2.fl
  have hMA := JX.row hR
  have e0 : (M2 0 1).toNat = q := by rw [h20, hq, Int.toNat_natCast]
  obtain ⟨Am, hMV⟩ := hMV
  have hk : ∀ k : Nat, 495 ≤ k → csS 1 q M2 k = M k := fun k hk => by rw [cs_off _ _ _ (by omega), hhi k (by omega)]
  refine ⟨?_, hk, fun N1 N2 hb h2 h4 h5 => ?_⟩
  · rw [hX, E_Tv_settle_0]
    simp only [Nat.reduceAdd, if_ot, if_to]
    rw [if_neg (by decide), S_St_isAllowed d M2 (fun w hw => (hMV.vd hw).2.2.2.2.2.2.2.2.2.1), bI_some, bc_f hal, if_pos rfl, e0, S_St_copyFrom (d + 5) M2 (by omega) hqf, bV_some]
  · obtain ⟨N', n1, n2, n3⟩ := R_back (e + 5) (M := M) hb (hk 505 (by omega)) hMA h2 rfl h5
    have n3' : ∀ k : Nat, k ≠ 504 → k ≠ 505 → N' k = N1 k := fun k k4 k5 => by rw [n3 k k5, h2 k k4 k5]
    refine ⟨N', n1, ?_, n3', fun j hj => by rw [n3 504 (by decide), h4 j hj]⟩
    refine GX.back hG hn hq hM2 hz2 (fun k hk' => by rw [n3' k (by omega) (by omega), hb.1 k (by omega)]) n2 ?_
    rw [n3' 506 (by decide) (by decide), hb.1 506 (by omega), hk 506 (by omega)]
theorem rfT_swap (tr : Int → Int) {v w : Nat} (hv : v < 12) (hw : w < 12) (hvw : v ≠ w) (t : Int) : rfT (am_up (am_up tr v (tr w)) w (tr v)) t = rfT tr t := by
  rw [rfT_up _ hw, rfT_up _ hv, up_ne _ _ (show (w : Int) ≠ v by omega)]
  omega
def swA (A : Int → Int) (v w : Int) : Int → Int := am_up (am_up (am_up (am_up A (1796 + 9 * v + 4) (A (1796 + 9 * w + 4))) (1796 + 9 * v + 1) (A (1796 + 9 * w + 1))) (1796 + 9 * w + 4) (A (1796 + 9 * v + 4))) (1796 + 9 * w + 1) (A (1796 + 9 * v + 1))
theorem swA_o {A : Int → Int} {v w y : Int} (h1 : y ≠ 1796 + 9 * v + 4) (h2 : y ≠ 1796 + 9 * v + 1) (h3 : y ≠ 1796 + 9 * w + 4) (h4 : y ≠ 1796 + 9 * w + 1) : swA A v w y = A y := by
  unfold swA
  rw [up_ne _ _ h4, up_ne _ _ h3, up_ne _ _ h2, up_ne _ _ h1]
theorem swap_J {M : am_M} {A : Int → Int} {n : Int} (h : JY M A n) {v w : Nat} (hv : thS M v) (hw : thS M w) (hvw : v ≠ w) :
    (∀ k : Nat, k ≠ 7 → k ≠ 10 → exS M v w k = M k) ∧ (∀ z, thS (exS M v w) z ↔ thS M z) ∧ JY (exS M v w) (swA A v w) n ∧ (∀ z : Nat, z < 12 → z ≠ v → z ≠ w → usS (exS M v w) z = usS M z) := by
  have hv12 : v < 12 := by have := hv.2.1; omega
  have hw12 : w < 12 := by have := hw.2.1; omega
  have nvw : (v : Int) ≠ w := by omega
  have eo : ∀ k : Nat, k ≠ 7 → k ≠ 10 → exS M v w k = M k := fun k k7 k10 => by unfold exS; rw [set_ne _ _ _ k7, set_ne _ _ _ k10, set_ne _ _ _ k7, set_ne _ _ _ k10]
  have e10 : exS M v w 10 = am_up (am_up (M 10) v (M 10 w)) w (M 10 v) := by unfold exS; rw [set_ne _ _ _ (by decide), set_eq, set_ne _ _ _ (by decide), set_eq]
  have e7 : exS M v w 7 = am_up (am_up (M 7) v (M 7 w)) w (M 7 v) := by unfold exS; rw [set_eq, set_ne _ _ _ (by decide), set_eq, set_ne _ _ _ (by decide)]
  have f10v : exS M v w 10 v = M 10 w := by rw [e10, up_ne _ _ nvw, up_eq]
  have f10w : exS M v w 10 w = M 10 v := by rw [e10, up_eq]
  have f10 : ∀ z : Int, z ≠ v → z ≠ w → exS M v w 10 z = M 10 z := fun z h1 h2 => by rw [e10, up_ne _ _ h2, up_ne _ _ h1]
  have f7v : exS M v w 7 v = M 7 w := by rw [e7, up_ne _ _ nvw, up_eq]
  have f7w : exS M v w 7 w = M 7 v := by rw [e7, up_eq]
  have f7 : ∀ z : Int, z ≠ v → z ≠ w → exS M v w 7 z = M 7 z := fun z h1 h2 => by rw [e7, up_ne _ _ h2, up_ne _ _ h1]
  have hth : ∀ z, thS (exS M v w) z ↔ thS M z := fun z => by
    unfold thS
    by_cases e1 : z = v
    · rw [e1, f7v]; exact ⟨fun q => ⟨q.1, q.2.1, hv.2.2⟩, fun q => ⟨q.1, q.2.1, hw.2.2⟩⟩
    · by_cases e2 : z = w
      · rw [e2, f7w]; exact ⟨fun q => ⟨q.1, q.2.1, hw.2.2⟩, fun q => ⟨q.1, q.2.1, hv.2.2⟩⟩
      · rw [f7 z e1 e2]
  generalize exS M v w = M2 at eo e10 e7 f10v f10w f10 f7v f7w f7 hth ⊢
  have hct : ∀ (z y : Nat), M2 10 z = M 10 y → ∀ b, ct (M2 6) (M2 10) z b = ct (M 6) (M 10) y b := fun z y e b => by
    unfold ct
    rw [eo 6 (by decide) (by decide), e]
  refine ⟨eo, hth, ⟨?_, ?_, ?_, ?_, ?_, ?_⟩, ?_⟩
  · obtain ⟨p1, p2, p3, p4, p5⟩ := h.pi
    rw [eo 4 (by decide) (by decide), eo 5 (by decide) (by decide), eo 6 (by decide) (by decide)]
    refine ⟨p1, p2, fun t ht => ?_, fun p hp h0 => ?_, p5⟩
    · rw [e10, rfT_swap _ hv12 hw12 hvw]; exact p3 t ht
    · obtain ⟨c1, c2⟩ := p4 p hp h0
      rw [swA_o (by omega) (by omega) (by omega) (by omega)]
      exact ⟨c1, fun k hk8 => by rw [swA_o (by omega) (by omega) (by omega) (by omega)]; exact c2 k hk8⟩
  · intro z hz
    rw [eo 5 (by decide) (by decide)]
    by_cases e1 : z = v
    · subst e1
      rw [f10v]
      refine ⟨(h.rv w hw12).1, fun _ => ?_⟩
      have : swA A z w (1796 + 9 * (z : Int) + 4) = A (1796 + 9 * (w : Int) + 4) := by
        unfold swA; rw [up_ne _ _ (by omega), up_ne _ _ (by omega), up_ne _ _ (by omega), up_eq]
      rw [this]
      exact (h.rv w hw12).2 hw.2.2
    · by_cases e2 : z = w
      · subst e2
        rw [f10w]
        refine ⟨(h.rv v hv12).1, fun _ => ?_⟩
        have : swA A v z (1796 + 9 * (z : Int) + 4) = A (1796 + 9 * (v : Int) + 4) := by
          unfold swA; rw [up_ne _ _ (by omega), up_eq]
        rw [this]
        exact (h.rv v hv12).2 hv.2.2
      · rw [f10 z (by omega) (by omega), f7 z (by omega) (by omega), swA_o (by omega) (by omega) (by omega) (by omega)]
        exact h.rv z hz
  · exact RB_mono h.rb (eo 3 (by decide) (by decide)) (fun y _ hy => swA_o (by omega) (by omega) (by omega) (by omega)) (fun x _ _ hx => by rw [eo 4 (by decide) (by decide)]; exact hx)
  · obtain ⟨⟨m1, m2, m3⟩, m4⟩ := h.mv
    refine ⟨⟨by rw [swA_o (by omega) (by omega) (by omega) (by omega), eo 1 (by decide) (by decide)]; exact m1, by rw [swA_o (by omega) (by omega) (by omega) (by omega), eo 1 (by decide) (by decide)]; exact m2, by rw [eo 1 (by decide) (by decide)]; exact m3⟩, fun z z0 z12 => ?_⟩
    obtain ⟨⟨k1, k2, k3, k4⟩, k5⟩ := m4 z z0 z12
    have mv := m4 v hv.1 hv.2.1
    have mw := m4 w hw.1 hw.2.1
    have hv2 := hv.2.2
    have hw2 := hw.2.2
    refine ⟨⟨?_, ?_, ?_, ?_⟩, fun h7 => ?_⟩
    · by_cases e1 : z = v
      · rw [e1, f7v]; exact mw.1.1
      · by_cases e2 : z = w
        · rw [e2, f7w]; exact mv.1.1
        · rw [f7 z e1 e2]; exact k1
    · by_cases e1 : z = v
      · rw [e1, f7v]; exact mw.1.2.1
      · by_cases e2 : z = w
        · rw [e2, f7w]; exact mv.1.2.1
        · rw [f7 z e1 e2]; exact k2
    · rw [swA_o (by omega) (by omega) (by omega) (by omega), k3]
      have := hth z
      unfold thS at this
      constructor
      · intro q; exact (this.mpr ⟨z0, z12, q⟩).2.2
      · intro q; exact (this.mp ⟨z0, z12, q⟩).2.2
    · by_cases e1 : z = v
      · rw [e1, f7v]; intro q; omega
      · by_cases e2 : z = w
        · rw [e2, f7w]; intro q; omega
        · rw [f7 z e1 e2, f10 z e1 e2]; exact k4
    · have hz : 0 < M 7 z := ((hth z).mp ⟨z0, z12, h7⟩).2.2
      obtain ⟨v1, v2, v3, v4, v5, v6, v7, v8, v9, v10, v11⟩ := k5 hz
      have e1 : swA A v w (1797 + 9 * z) = M2 7 z := by
        by_cases e1 : z = v
        · rw [e1, f7v]
          unfold swA
          rw [up_ne _ _ (by omega), up_ne _ _ (by omega), show 1797 + 9 * (v : Int) = 1796 + 9 * (v : Int) + 1 by omega, up_eq, show 1796 + 9 * (w : Int) + 1 = 1797 + 9 * (w : Int) by omega]
          exact (h.mv.vd hw).1
        · by_cases e2 : z = w
          · rw [e2, f7w]
            unfold swA
            rw [show 1797 + 9 * (w : Int) = 1796 + 9 * (w : Int) + 1 by omega, up_eq, show 1796 + 9 * (v : Int) + 1 = 1797 + 9 * (v : Int) by omega]
            exact (h.mv.vd hv).1
          · rw [f7 z e1 e2, swA_o (by omega) (by omega) (by omega) (by omega)]; exact v1
      unfold VD
      rw [eo 8 (by decide) (by decide), eo 9 (by decide) (by decide), eo 11 (by decide) (by decide), eo 12 (by decide) (by decide), eo 13 (by decide) (by decide), eo 14 (by decide) (by decide)]
      exact ⟨e1, (swA_o (by omega) (by omega) (by omega) (by omega)).trans v2, (swA_o (by omega) (by omega) (by omega) (by omega)).trans v3, (swA_o (by omega) (by omega) (by omega) (by omega)).trans v4, (swA_o (by omega) (by omega) (by omega) (by omega)).trans v5, (swA_o (by omega) (by omega) (by omega) (by omega)).trans v6, (swA_o (by omega) (by omega) (by omega) (by omega)).trans v7, v8, v9, v10, v11⟩
  · obtain ⟨p1, p2⟩ := h.pr
    unfold PRt
    rw [eo 1 (by decide) (by decide), eo 13 (by decide) (by decide), eo 14 (by decide) (by decide)]
    refine ⟨p1, fun z hz h7 => ?_⟩
    obtain ⟨q1, q2⟩ := p2 z hz ((hth z).mp ⟨by omega, by omega, h7⟩).2.2
    refine ⟨q1, ?_⟩
    rcases q2 with e | ⟨e1, e2⟩
    · exact Or.inl e
    · exact Or.inr ⟨(hth _).mpr e1, e2⟩
  · intro z hz h7 a a1 a2
    by_cases e1 : z = v
    · subst e1
      rw [hct z w f10v]
      rw [f7v] at a1
      exact h.ci w hw12 hw.2.2 a a1 a2
    · by_cases e2 : z = w
      · subst e2
        rw [hct z v f10w]
        rw [f7w] at a1
        exact h.ci v hv12 hv.2.2 a a1 a2
      · rw [hct z z (f10 z (by omega) (by omega))]
        rw [f7 z (by omega) (by omega)] at h7 a1
        exact h.ci z hz h7 a a1 a2
  · intro z hz e1 e2
    unfold usS
    by_cases hz2 : thS M z
    · rw [if_pos hz2, if_pos ((hth z).mpr hz2), mu_um, mu_um]
      exact sm_congr 512 (fun a _ => by (try dsimp only); rw [hct z z (f10 z (by omega) (by omega))])
    · rw [if_neg hz2, if_neg (fun q => hz2 ((hth z).mp q))]
theorem J_swap (d : Nat) {M : am_M} {n : Int} (hG : GR M n) (v u : Int) : AG M (n + 1) (am_m am_P (d + 20) j_Tv_swap [am_r 5 0, am_i v, am_i u] M) (am_m am_P (d + 20) j_Md_swap [am_r 6 504, am_i v, am_i u]) := by
  have hX : am_m am_P (d + 20) j_Tv_swap [am_r 5 0, am_i v, am_i u] M = am_at am_P (d + 19) j_Tv_swap 0 [am_r 5 0, am_i v, am_i u] [] M := rfl
  have hY : ∀ N, am_m am_P (d + 20) j_Md_swap [am_r 6 504, am_i v, am_i u] N = am_at am_P (d + 19) j_Md_swap 0 [am_r 6 504, am_i v, am_i u, am_u, am_u] [] N := fun _ => rfl
  unfold AG
  simp only [hX, hY, E_Tv_swap_0, E_Md_swap_0, Nat.reduceAdd, if_ot, if_to]
  rcases opn_both (d + 13) (d + 14) hG v with ⟨M', o1, o2, o3⟩ | ⟨M', A, o1, o2, o3, o4, o5, o6, o7, o8⟩
  · obtain ⟨N', e1, e2⟩ := o3 M' (o2 505 (by decide))
    rw [o1]
    simp only [bI_some, if_true]
    refine ⟨_, _, N', rfl, ?_, RF.gr hG (by omega) (fun k hk => o2 k (by omega)) e2⟩
    rw [e1]; simp only [bI_some, if_true]
  · obtain ⟨N', e1, e2⟩ := o8 M' (o2 505 (by decide))
    have hN5 : N' 505 = wc A (M' 4) := by rw [e2.1 505 (by omega)]; exact o4
    have hno := RF.gr (n' := n + 1) hG (by omega) (fun k hk => o2 k (by omega)) e2
    obtain ⟨w, hw⟩ : ∃ w : Nat, v = (w : Int) := ⟨v.toNat, by have := o6.1; omega⟩
    subst hw
    have hs := (o5.1.mv.2 w o6.1 o6.2.1).1
    rw [o1]
    simp only [bI_some, show ¬ ((1 : Int) = 0) by decide, if_false]
    rcases opn_both (d + 13) (d + 14) o3 u with ⟨M4, t1, t2, t3⟩ | ⟨M4, A4, t1, t2, t3, t4, t5, t6, t7, t8⟩
    · obtain ⟨N4, f1, f2⟩ := o8 M4 (by rw [t2 505 (by decide), o2 505 (by decide)])
      obtain ⟨N5, f3, f4⟩ := t3 N4 (by rw [f2.1 505 (by omega), t2 505 (by decide)])
      rw [t1]
      simp only [bI_some, if_true]
      refine ⟨_, _, N5, rfl, ?_, RF.gr hG (by omega) (fun k hk => by rw [t2 k (by omega), o2 k (by omega)]) (f2.trans f4)⟩
      rw [f1]; simp only [bI_some, show ¬ ((1 : Int) = 0) by decide, if_false]
      rw [f3]; simp only [bI_some, if_true]
    · rw [t1]
      simp only [bI_some, show ¬ ((1 : Int) = 0) by decide, if_false]
      by_cases hne : ¬ (w : Int) = u
      · simp only [if_neg hne]
        obtain ⟨z, hz⟩ : ∃ z : Nat, u = (z : Int) := ⟨u.toNat, by have := t6.1; omega⟩
        subst hz
        obtain ⟨q, hq, hq2⟩ := t3.q
        have hw4 : thS M4 w := ⟨o6.1, o6.2.1, by rw [t2 7 (by decide)]; exact o6.2.2⟩
        obtain ⟨b0, b1, bt, b3, b4⟩ := beg_opr t3 t5 hw4 hq
        have hw12 : w < 12 := by have := o6.2.1; omega
        have hz12 : z < 12 := by have := t6.2.1; omega
        have hJ1 : JY (csS q 1 M4) A4 (n + 1) := by
          obtain ⟨j1, j2, j3, j4, ⟨⟨j5, j6⟩, j7⟩, j8⟩ := b3.1
          exact ⟨j1, j2, j3, j4, ⟨⟨j5, by omega⟩, j7⟩, j8⟩
        obtain ⟨g1, g2, g3, g4⟩ := swap_J hJ1 b1 ((bt z).mpr t6) (by omega)
        have hM2 : ∀ k : Nat, (k = 0 ∨ 15 ≤ k) → exS (csS q 1 M4) w z k = csS q 1 M4 k := fun k hk => g1 k (by omega) (by omega)
        have hOZ : OZ M4 (exS (csS q 1 M4) w z) := fun y hy => by rw [g1 4 (by decide) (by decide), b0 4 (by omega)]
        have hex := S_St_exchange (d + 17) (csS q 1 M4) b1 ((bt z).mpr t6)
        have hb := S_Tv_begin (d + 16) M4 hq (by omega) t3.2.fl
        -- the reference's lets
        have hlet : ∀ N1 : am_M, N1 505 = wc A4 (M4 4) → N1 504 2 = 0 → ∃ N2, (∀ X : am_M → Option am_O, (am_bI (am_m am_P (d + 19) j_Md_get [am_r 6 504, am_i (w : Int), am_i 4] N1) fun x7 M6 => am_v x7 fun x8 => am_bI (am_m am_P (d + 19) j_Md_get [am_r 6 504, am_i (w : Int), am_i 1] M6) fun x10 M9 => am_v x10 fun x11 => am_bI (am_m am_P (d + 19) j_Md_get [am_r 6 504, am_i (z : Int), am_i 4] M9) fun x13 M12 => am_bV (am_m am_P (d + 19) j_Md_let [am_r 6 504, am_i (w : Int), am_i 4, am_i x13] M12) fun M14 => am_bI (am_m am_P (d + 19) j_Md_get [am_r 6 504, am_i (z : Int), am_i 1] M14) fun x16 M15 => am_bV (am_m am_P (d + 19) j_Md_let [am_r 6 504, am_i (w : Int), am_i 1, am_i x16] M15) fun M17 => am_bV (am_m am_P (d + 19) j_Md_let [am_r 6 504, am_i (z : Int), am_i 4, am_i x8] M17) fun M18 => am_bV (am_m am_P (d + 19) j_Md_let [am_r 6 504, am_i (z : Int), am_i 1, am_i x11] M18) X) = X N2) ∧ N2 = am_st N1 505 (wc (swA A4 w z) (M4 4)) := fun N1 h5 _ => by
          refine ⟨_, fun X => ?_, rfl⟩
          have hs : ∀ (B : Int → Int) (j x : Int), 1796 ≤ j → am_set (am_st N1 505 (wc B (M4 4))) 505 j x = am_st N1 505 (wc (am_up B j x) (M4 4)) := fun B j x hj => by
            unfold am_set
            rw [st_eq, st_st, wc_upN _ _ (by omega) (by omega)]
          have e1 : N1 = am_st N1 505 (wc A4 (M4 4)) := by rw [← h5, st_self]
          rw [R_got (d + 18) (by omega) (by omega) h5, bI_some, v_eq, R_got (d + 18) (by omega) (by omega) h5, bI_some, v_eq, R_got (d + 18) (by omega) (by omega) h5, bI_some, S_Md_let (d + 18) (by omega) (by omega), bV_some]
          conv => lhs; rw [e1]
          rw [hs _ _ _ (by omega), R_get (d + 18) (by omega) (by omega), bI_some, up_ne _ _ (by omega), S_Md_let (d + 18) (by omega) (by omega), bV_some, hs _ _ _ (by omega), S_Md_let (d + 18) (by omega) (by omega), bV_some, hs _ _ _ (by omega), S_Md_let (d + 18) (by omega) (by omega), bV_some, hs _ _ _ (by omega)]
          rfl
        rw [hb]
        simp only [bV_some, hex]
        have hK : ∀ M3 : am_M, (∀ k : Nat, 495 ≤ k → M3 k = M4 k) → ∃ N9, RF M3 N9 ∧ ∀ (Y : am_M → Option am_O), (am_bI (am_m am_P (d + 19) j_Md_isOpen [am_r 6 504, am_i (w : Int)] M3) fun x2 M1 => if x2 = 0 then some (some (am_i 0), M1) else (am_bI (am_m am_P (d + 19) j_Md_isOpen [am_r 6 504, am_i (z : Int)] M1) fun x4 M3 => if x4 = 0 then some (some (am_i 0), M3) else Y M3)) = Y N9 := fun M3 hM3 => by
          obtain ⟨N4, f1, f2⟩ := o8 M3 (by rw [hM3 505 (by omega), t2 505 (by decide), o2 505 (by decide)])
          obtain ⟨N5, f3, f4⟩ := t8 N4 (by rw [f2.1 505 (by omega), hM3 505 (by omega), t2 505 (by decide)])
          refine ⟨N5, f2.trans f4, fun Y => ?_⟩
          rw [f1, bI_some, if_neg (by decide), f3, bI_some, if_neg (by decide)]
        have hsum : ∀ N1 : am_M, N1 504 2 = 0 → am_m am_P (d + 18) j_Md_isRight [am_r 6 504, am_i (z : Int)] (am_st N1 505 (wc (swA A4 w z) (M4 4))) = some (some (am_i (b2 (usS (exS (csS q 1 M4) w z) z ≤ exS (csS q 1 M4) w z 8 z ∧ sm (hfS (exS (csS q 1 M4) w z)) 12 ≤ 96 - nz (exS (csS q 1 M4) w z 4) 96))), am_st N1 505 (wc (swA A4 w z) (M4 4))) := fun N1 h2 => by
          have := S_Md_isRight (d + 12) g3.pi g3.rv g3.mv ((g2 z).mpr ((bt z).mpr t6)) h2
          rw [g1 4 (by decide) (by decide), b0 4 (by omega)] at this
          rw [g1 4 (by decide) (by decide), b0 4 (by omega)]
          exact this
        have hEB : ∀ N2 : am_M, am_m am_P (d + 19) j_Md_endBoth [am_r 6 504, am_i (w : Int), am_i (z : Int)] N2 = am_at am_P (d + 18) j_Md_endBoth 0 [am_r 6 504, am_i (w : Int), am_i (z : Int)] [] N2 := fun _ => rfl
        have h11 : exS (csS q 1 M4) w z 1 11 = M4 1 11 := by rw [g1 1 (by decide) (by decide), b0 1 (by omega)]
        have hfin : ∀ (M3 M6 N9 N1 : am_M), (∀ k : Nat, 495 ≤ k → M3 k = M4 k) → RF M3 N9 → (∀ k : Nat, (k ≤ 503 ∨ k = 506 ∨ 513 ≤ k) → N1 k = N9 k) → (∀ j : Int, j ≠ 2 → N1 504 j = N9 504 j) → GX M6 (n + 1) → (∀ k : Nat, k ≠ 504 → k ≠ 505 → M6 k = N1 k) → (∀ j : Int, j ≠ 2 → M6 504 j = N1 504 j) → GR M6 (n + 1) ∧ ∀ k : Nat, 517 ≤ k → M6 k = M k := fun M3 M6 N9 N1 s3 r1 r2 r3 r4 r5 r6 => by
          have hall : ∀ k : Nat, (495 ≤ k ∧ k ≤ 500 ∨ 513 ≤ k) → M6 k = M4 k := fun k hk => by rw [r5 k (by omega) (by omega), r2 k (by omega), r1.1 k (by omega), s3 k (by omega)]
          exact ⟨r4.gr (t3.1.2.2.2.2.2.2.at (fun k k1 k2 => hall k (by omega)) (by rw [r6 13 (by decide), r3 13 (by decide), r1.2.1, s3 504 (by omega)]) (by rw [r6 16 (by decide), r3 16 (by decide), r1.2.2, s3 504 (by omega)]) (fun k k1 k2 => hall k (by omega))), fun k hk => by rw [hall k (by omega), t2 k (by omega), o2 k (by omega)]⟩
        by_cases hr : usS (exS (csS q 1 M4) w z) z ≤ exS (csS q 1 M4) w z 8 z ∧ sm (hfS (exS (csS q 1 M4) w z)) 12 ≤ 96 - nz (exS (csS q 1 M4) w z 4) 96
        · obtain ⟨bo, M3, s1, s2, s3, s4⟩ := settle_fin (d + 11) (d + 11) t3 (show n ≤ n + 1 by omega) t5 t4 hq (r := 1) hM2 hOZ h11 (v := w) ((g2 w).mpr b1) (fun _ => Or.inr ⟨_, g3.mv⟩) (Or.inr rfl) (fun _ y hy hyw ht => by
            by_cases e : y = z
            · rw [e]; exact hr.1
            · rw [g4 y hy hyw e, g1 8 (by decide) (by decide)]
              exact b3.2.1 y ((g2 y).mp ht))
          obtain ⟨N9, r1, r2⟩ := hK M3 s3
          obtain ⟨N1, n1, n2, n3, n4⟩ := R_begin (d + 18) r1
          have h5 : N1 505 = wc A4 (M4 4) := by rw [n2.1 505 (by omega), s3 505 (by omega)]; exact t4
          obtain ⟨N2, l1, l2⟩ := hlet N1 h5 n2.2.2
          obtain ⟨M6, m1, m2, m3, m4⟩ := s4 N1 N2 n2 (Or.inr ⟨rfl, swA A4 w z, by rw [l2, g1 4 (by decide) (by decide), b0 4 (by omega)], fun y hy => swA_o (by omega) (by omega) (by omega) (by omega), g3⟩)
          rw [s1]
          simp only [bI_some, if_t s2]
          refine ⟨_, _, M6, rfl, ?_, hfin M3 M6 N9 N1 s3 r1 n3 n4 m2 m3 m4⟩
          rw [r2, n1, bV_some, l1, hEB, E_Md_endBoth_0, l2, hsum N1 n2.2.2, bI_some, b2_t hr, if_neg (by decide), ← l2, m1]
          simp only [bI_some, if_t s2]
        · have hal : ¬ alS (exS (csS q 1 M4) w z) := fun q => hr ⟨q.1 z ((g2 z).mpr ((bt z).mpr t6)), q.2⟩
          obtain ⟨s1, s3, s4⟩ := settle_no (d + 11) (d + 12) t3 (show n ≤ n + 1 by omega) t5 t4 hq hM2 hOZ ⟨_, g3.mv⟩ hal
          obtain ⟨N9, r1, r2⟩ := hK _ s3
          obtain ⟨N1, n1, n2, n3, n4⟩ := R_begin (d + 18) r1
          have h5 : N1 505 = wc A4 (M4 4) := by rw [n2.1 505 (by omega), s3 505 (by omega)]; exact t4
          obtain ⟨N2, l1, l2⟩ := hlet N1 h5 n2.2.2
          obtain ⟨M6, m1, m2, m3, m4⟩ := s4 N1 N2 n2 (fun k _ k5 => by rw [l2, st_ne _ _ k5]) (fun j _ => by rw [l2, st_ne _ _ (by decide)]) (fun y hy => by rw [l2, st_eq, wc_o _ _ (by omega), swA_o (by omega) (by omega) (by omega) (by omega)])
          rw [s1]
          simp only [bI_some, if_ot]
          refine ⟨_, _, M6, rfl, ?_, hfin _ M6 N9 N1 s3 r1 n3 n4 m2 m3 m4⟩
          rw [r2, n1, bV_some, l1, hEB, E_Md_endBoth_0, l2, hsum N1 n2.2.2, bI_some, b2_f hr, if_pos rfl, ← l2, m1]
          simp only [bV_some, bI_some, if_ot]
      · simp only [if_pos (Classical.not_not.mp hne)]
        obtain ⟨N4, f1, f2⟩ := o8 M4 (by rw [t2 505 (by decide), o2 505 (by decide)])
        obtain ⟨N5, f3, f4⟩ := t8 N4 (by rw [f2.1 505 (by omega), t2 505 (by decide)])
        refine ⟨_, _, N5, rfl, ?_, RF.gr hG (by omega) (fun k hk => by rw [t2 k (by omega), o2 k (by omega)]) (f2.trans f4)⟩
        rw [f1]; simp only [bI_some, show ¬ ((1 : Int) = 0) by decide, if_false]
        rw [f3]; simp only [bI_some, show ¬ ((1 : Int) = 0) by decide, if_false, if_pos (Classical.not_not.mp hne)]
