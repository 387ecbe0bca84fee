/-! LIKE ONES FOLDED: what such changes keep; merge -/
/-- from M0 with the row A0 to M with the row A: what is mapped where is the same, no more is used -/
def FR (A0 : Int → Int) (M0 M : am_M) (A : Int → Int) : Prop :=
  (∀ k : Nat, k ≠ 4 → k ≠ 6 → k ≠ 10 → M k = M0 k) ∧ (∀ y : Int, (y < 196 ∨ 1796 ≤ y) → (∀ v : Nat, v < 12 → y ≠ 1796 + 9 * (v : Int) + 4) → A y = A0 y) ∧ PI A (M 4) (M 5) (M 6) (M 10) (fun _ => 0) ∧ RV M A ∧ RB M A ∧ (∀ x : Int, M0 4 x = 0 → M 4 x = 0) ∧ (∀ w : Nat, w < 12 → ∀ a : Int, 0 ≤ a → a < 512 → (ct (M 6) (M 10) w a = -1 ↔ ct (M0 6) (M0 10) w a = -1)) ∧ ∀ v : Nat, v < 12 → M0 7 v = 0 → M 10 v = -1
theorem FR.init {A0 : Int → Int} {M0 : am_M} {n : Int} (hJ : JX M0 A0 n) : FR A0 M0 M0 A0 :=
  ⟨fun _ _ _ _ => rfl, fun _ _ _ => rfl, hJ.1.pi, hJ.1.rv, hJ.1.rb, fun _ h => h, fun _ _ _ _ _ => Iff.rfl, fun v hv h => (hJ.1.mv.2 v (by omega) (by omega)).1.2.2.2 h⟩
theorem nz_mono {c c' : Int → Int} (h : ∀ x : Int, c x = 0 → c' x = 0) (h0 : ∀ x, 0 ≤ c x) (n : Nat) : nz c' n ≤ nz c n := by
  unfold nz
  induction n with
  | zero => exact Int.le_refl _
  | succ n ih =>
    show sm _ n + _ ≤ sm _ n + _
    have h1 := h (n : Int)
    have h2 := h0 (n : Int)
    have h3 : (if 0 < c' (n : Int) then (1 : Int) else 0) ≤ (if 0 < c (n : Int) then 1 else 0) := by
      by_cases hc : 0 < c (n : Int)
      · rw [if_pos hc]; split <;> omega
      · rw [if_neg hc, if_neg (by have := h1 (by omega); omega)]
        omega
    (try dsimp only)
    omega
theorem FR.jx {A0 : Int → Int} {M0 M : am_M} {A : Int → Int} {n : Int} (hJ : JX M0 A0 n) (h : FR A0 M0 M A) : JX M A (n + 1) := by
  obtain ⟨h1, h2, h3, h4, h5, h6, h7, h8⟩ := h
  have e : ∀ k : Nat, (k < 4 ∨ k = 5 ∨ (7 ≤ k ∧ k ≤ 9) ∨ 11 ≤ k) → M k = M0 k := fun k hk => h1 k (by omega) (by omega) (by omega)
  have hth : ∀ v, thS M v ↔ thS M0 v := fun v => by unfold thS; rw [e 7 (by omega)]
  obtain ⟨⟨m1, m2, m3⟩, m4⟩ := hJ.1.mv
  have hMV : MV M A := by
    refine ⟨⟨by rw [h2 2 (by omega) (fun v hv => by omega), e 1 (by omega)]; exact m1, by rw [h2 3 (by omega) (fun v hv => by omega), e 1 (by omega)]; exact m2, by rw [e 1 (by omega)]; exact m3⟩, fun w w0 w12 => ?_⟩
    obtain ⟨⟨k1, k2, k3, k4⟩, k5⟩ := m4 w w0 w12
    rw [e 7 (by omega), h2 (1796 + 9 * w) (by omega) (fun v hv => by omega)]
    refine ⟨⟨k1, k2, k3, fun q => ?_⟩, fun q => ?_⟩
    · obtain ⟨z, hz⟩ : ∃ z : Nat, w = (z : Int) := ⟨w.toNat, by omega⟩
      subst hz
      exact h8 z (by omega) q
    · have := k5 q
      unfold VD at this ⊢
      rw [e 7 (by omega), e 8 (by omega), e 9 (by omega), e 11 (by omega), e 12 (by omega), e 13 (by omega), e 14 (by omega), h2 (1797 + 9 * w) (by omega) (fun v hv => by omega), h2 (1798 + 9 * w) (by omega) (fun v hv => by omega), h2 (1799 + 9 * w) (by omega) (fun v hv => by omega), h2 (1801 + 9 * w) (by omega) (fun v hv => by omega), h2 (1802 + 9 * w) (by omega) (fun v hv => by omega), h2 (1803 + 9 * w) (by omega) (fun v hv => by omega), h2 (1804 + 9 * w) (by omega) (fun v hv => by omega)]
      exact this
  have hus : ∀ v, usS M v = usS M0 v := by
    intro v
    unfold usS
    by_cases hv : thS M0 v
    · rw [if_pos hv, if_pos ((hth v).mpr hv), mu_um, mu_um]
      obtain ⟨z, hz⟩ : ∃ z : Nat, v = (z : Int) := ⟨v.toNat, by have := hv.1; omega⟩
      subst hz
      have h12 := hv.2.1
      refine sm_congr 512 (fun a ha => ?_)
      (try dsimp only)
      have hi := h7 z (by omega) a (by omega) (by omega)
      by_cases hc : ct (M0 6) (M0 10) z a = -1
      · rw [if_pos hc, if_pos (hi.mpr hc)]
      · rw [if_neg hc, if_neg (fun q => hc (hi.mp q))]
    · rw [if_neg hv, if_neg (fun q => hv ((hth v).mp q))]
  have hhf : ∀ v, hfS M v = hfS M0 v := by
    intro v
    unfold hfS
    rw [hus, e 11 (by omega)]
    by_cases hv : thS M0 v
    · rw [if_pos hv, if_pos ((hth v).mpr hv)]
    · rw [if_neg hv, if_neg (fun q => hv ((hth v).mp q))]
  refine ⟨⟨h3, h4, h5, hMV, ?_, fun w hw hw7 a a1 a2 => ?_⟩, fun v hv => ?_, ?_⟩
  · have := hJ.1.pr
    unfold PRt at this ⊢
    rw [e 1 (by omega), e 7 (by omega), e 13 (by omega), e 14 (by omega)]
    obtain ⟨p1, p2⟩ := this
    refine ⟨⟨p1.1, by have := p1.2; omega⟩, fun v hv h7' => ?_⟩
    obtain ⟨q1, q2⟩ := p2 v hv h7'
    refine ⟨q1, ?_⟩
    rcases q2 with q2 | ⟨q2, q3⟩
    · exact Or.inl q2
    · exact Or.inr ⟨(hth _).mpr q2, q3⟩
  · rw [e 7 (by omega)] at hw7 a1
    exact (h7 w hw a (by omega) a2).mpr (hJ.1.ci w hw hw7 a a1 a2)
  · rw [hus, e 8 (by omega)]
    exact hJ.2.1 v ((hth v).mp hv)
  · rw [sm_congr 12 (fun v _ => hhf v)]
    have h9 := hJ.2.2
    have h10 := nz_mono h6 (fun x => (hJ.1.pi.bd x).1) 96
    omega
/-- a thing hung in a leaf in place of a block: what is mapped stays so -/
theorem leaf_iff {M : am_M} {A ex : Int → Int} (hV : RV M A) (h : PI A (M 4) (M 5) (M 6) (M 10) ex) {p k : Nat} (hp : p < 160) (hk : k < 8) (hkd : M 5 p = 0) (hb : M 6 ((p : Int) * 8 + k) ≠ -1) {x : Int} (hx : x ≠ -1) {w : Nat} (hw : w < 12) (a : Int) : ct (am_up (M 6) ((p : Int) * 8 + k) x) (M 10) w a = -1 ↔ ct (M 6) (M 10) w a = -1 := by
  have e1 : atS (am_up (M 6) ((p : Int) * 8 + k) x) (M 10 w) (plc a 2) = twS M w a := by
    refine at_up hk (fun q => ?_)
    rcases hV.tr h hw with e | ⟨_, _, _, e⟩
    · omega
    · rw [q.1, show (p : Int) + 96 - 96 = p by omega] at e; omega
  have e2 : atS (am_up (M 6) ((p : Int) * 8 + k) x) (twS M w a) (plc a 1) = lfS M w a := by
    refine at_up hk (fun q => ?_)
    rcases tw_ok hV h hw a with e | ⟨_, _, _, e⟩
    · omega
    · rw [q.1, show (p : Int) + 96 - 96 = p by omega] at e; omega
  unfold ct
  rw [e1, e2]
  show _ ↔ bkS M w a = -1
  by_cases hc : lfS M w a = (p : Int) + 96 ∧ plc a 0 = k
  · have e3 : bkS M w a = M 6 ((p : Int) * 8 + k) := by
      unfold bkS
      rw [hc.1, hc.2, at_in ⟨by omega, by omega⟩ ⟨by omega, by omega⟩, show (p : Int) + 96 - 96 = p by omega]
    rw [hc.1, hc.2, at_upe hp hk, e3]
    exact ⟨fun q => absurd q hx, fun q => absurd q hb⟩
  · rw [at_up hk hc]
    exact Iff.rfl
theorem mg_step (d : Nat) {A0 A : Int → Int} {M0 M : am_M} (hF : FR A0 M0 M A) (hc : ∀ x : Int, 96 ≤ x → M 4 x = M0 4 x) {p k : Nat} (hp : p < 160) (hk : k < 8) (hu : M 4 ((p : Int) + 96) ≠ 0) (hkd : M 5 p = 0) (N0 : am_M) (a1 : Int) {M' : am_M} (hM' : M' = if atS (M 6) ((p : Int) + 96) k = -1 then M else if fd (fun i => 0 < M 4 i ∧ M 3 i = valS (M 3) (atS (M 6) ((p : Int) + 96) k)) (fun _ => inferInstance) 0 96 = atS (M 6) ((p : Int) + 96) k then M else hangS M ((p : Int) + 96) k (fd (fun i => 0 < M 4 i ∧ M 3 i = valS (M 3) (atS (M 6) ((p : Int) + 96) k)) (fun _ => inferInstance) 0 96)) :
    ∃ A', FR A0 M0 M' A' ∧ (∀ x : Int, 96 ≤ x → M' 4 x = M0 4 x) ∧ am_at am_P (d + 19) j_Md_merge 34 [am_r 6 504, am_i a1, am_i (p : Int), am_i (k : Int), am_u, am_u] [] (am_st N0 505 (wc A (M 4))) = am_at am_P (d + 19) j_Md_merge 34 [am_r 6 504, am_i a1, am_i (p : Int), am_i ((k : Int) + 1), am_u, am_u] [] (am_st N0 505 (wc A' (M' 4))) := by
  obtain ⟨h1, h2, h3, h4, h5, h6, h7, h8⟩ := id hF
  have hat : atS (M 6) ((p : Int) + 96) k = M 6 ((p : Int) * 8 + k) := by rw [at_in ⟨by omega, by omega⟩ ⟨by omega, by omega⟩, show (p : Int) + 96 - 96 = p by omega]
  rw [hat] at hM'
  have hpart : b2 (0 ≤ (p : Int) ∧ (p : Int) < 160 ∧ ¬ am_st N0 505 (wc A (M 4)) 505 (197 + 10 * (p : Int)) = 0) = 1 := b2_t ⟨by omega, by omega, by rw [st_eq, wc_p _ _ (by omega)]; exact hu⟩
  obtain ⟨hco1, hco2⟩ := h3.co p hp hu
  have hco := hco2 k hk
  rw [hkd, dec_0] at hco
  have hb0 := fun x => h3.bd x
  rw [E_Md_merge_34, if_pos (by omega), S_Md_isPart (d + 17), bI_some, hpart, if_neg (by decide), S_Md_kindOf (d + 18) (by omega), bI_some, st_eq, wc_k _ _ (by omega), hco1, hkd, if_pos rfl, S_Md_placeOf (d + 18) (by omega) (by omega), bI_some, st_eq, wc_l _ _ (by omega) (by omega), hco, v_eq]
  by_cases hm : M 6 ((p : Int) * 8 + k) = -1
  · rw [if_pos hm] at hM'
    rw [if_pos hm, v_eq, if_pos hm.symm, v_eq, wr_id (by omega) (by omega), hM']
    exact ⟨A, hF, hc, rfl⟩
  · rw [if_neg hm] at hM'
    obtain ⟨y1, y2⟩ : 0 ≤ M 6 ((p : Int) * 8 + k) ∧ M 6 ((p : Int) * 8 + k) < 96 := by
      rcases (h3.kw p hp hu).2 k hk with q | ⟨_, q1, q2⟩ | ⟨q1, _⟩
      · exact absurd q hm
      · exact ⟨q1, q2⟩
      · omega
    have hused := h3.child hp hk hu ⟨y1, by omega⟩
    have hval := (h5 _ y1 y2 (by omega)).1
    have hvs : valS (M 3) (M 6 ((p : Int) * 8 + k)) = M 3 (M 6 ((p : Int) * 8 + k)) := if_pos ⟨y1, y2⟩
    rw [hvs] at hM'
    rw [if_neg hm, S_Md_valueOf (d + 18) ⟨y1, y2⟩, bI_some, st_eq, wc_v _ _ ⟨y1, y2⟩, hval, S_Md_blockWith (d + 17) (fun x => (hb0 x).1) h5, bI_some, v_eq]
    have hfd := fd_spec (p := fun i => 0 < M 4 i ∧ M 3 i = M 3 (M 6 ((p : Int) * 8 + k))) (dp := fun _ => inferInstance) 96 0
    generalize fd (fun i => 0 < M 4 i ∧ M 3 i = M 3 (M 6 ((p : Int) * 8 + k))) (fun _ => inferInstance) 0 96 = L at hM' hfd ⊢
    obtain ⟨L1, L2, L3⟩ : 0 ≤ L ∧ L < 96 ∧ 0 < M 4 L := by
      rcases hfd with ⟨_, q⟩ | ⟨q1, q2, q3, _⟩
      · exact absurd ⟨hused, rfl⟩ (q _ y1 (by omega))
      · exact ⟨q1, by omega, q3.1⟩
    by_cases hL : L = M 6 ((p : Int) * 8 + k)
    · rw [if_pos hL] at hM'
      rw [if_pos hL, v_eq, wr_id (by omega) (by omega), hM']
      exact ⟨A, hF, hc, rfl⟩
    · rw [if_neg hL] at hM'
      have hFT : FT (M 5) (M 5 p) L := Or.inl ⟨hkd, L1, L2⟩
      obtain ⟨g1, g2, g3, g4⟩ := thing_hang h3 hp hk hu hFT (by omega) (d + 11) N0
      rw [hkd, dec_0] at g1 g2
      have hz := @hang_z M _ _ p k hp hk L (fun y => by have := hb0 y; omega) g2
      have hz' : ∀ x : Int, M 4 x = 0 → hangS M ((p : Int) + 96) k L 4 x = 0 := fun x q => hz (fun e => by rw [e] at q; omega) q
      rw [if_neg hL, g1, bV_some, v_eq, wr_id (by omega) (by omega), hM']
      have e4 : ∀ x : Int, 96 ≤ x → hangS M ((p : Int) + 96) k L 4 x = M 4 x := by
        intro x hx
        rw [hangS_pure M hp hk L (fun y => by have := hb0 y; omega), st_eq, LGc_blk _ 3 _ ⟨y1, y2⟩, up_ne _ _ (by omega)]
        unfold rs
        rw [if_pos ⟨L1, by omega⟩, up_ne _ _ (by omega)]
      refine ⟨_, ⟨fun r r4 r6 r10 => by rw [g4 r r4 r6, h1 r r4 r6 r10], fun y hy hv => by rw [up_ne _ _ (by omega), h2 y hy hv], ?_, ?_, ?_, fun x hx => hz' x (h6 x hx), fun w hw a a1 a2 => ?_, fun v hv h0 => by rw [g4 10 (by decide) (by decide)]; exact h8 v hv h0⟩, fun x hx => by rw [e4 x hx, hc x hx], rfl⟩
      · rw [g4 5 (by decide) (by decide), g4 10 (by decide) (by decide)]; exact g2
      · exact hang_RV (by omega) h4 (g4 5 (by decide) (by decide)) (g4 7 (by decide) (by decide)) (g4 10 (by decide) (by decide))
      · exact RB_mono h5 (g4 3 (by decide) (by decide)) (fun y _ _ => up_ne _ _ (by omega)) (fun x _ _ => hz' x)
      · rw [g3, g4 10 (by decide) (by decide)]
        exact (leaf_iff h4 h3 hp hk hkd hm (by omega) hw a).trans (h7 w hw a a1 a2)
theorem mg_loop (d : Nat) {A0 : Int → Int} {M0 : am_M} {n : Int} (hJ : JX M0 A0 n) (N0 : am_M) (a1 : Int) : ∃ A, FR A0 M0 (jbS M0) A ∧ am_at am_P (d + 19) j_Md_merge 25 [am_r 6 504, am_i a1, am_i 0, am_u, am_u, am_u] [] (am_st N0 505 (wc A0 (M0 4))) = am_bI (am_m am_P (d + 19) j_Md_blocks [am_r 6 504] (am_st N0 505 (wc A (jbS M0 4)))) fun x2 M1 => some (some (am_i (am_wr (a1 - x2))), M1) := by
  have key := lp_rl (F := fun t N => am_at am_P (d + 19) j_Md_merge 25 [am_r 6 504, am_i a1, am_i (t - 96), am_u, am_u, am_u] [] N) (b := fun t N => if kndS (N 4) (N 5) t = 0 then jb1 t N else N) (r := fun N => am_bI (am_m am_P (d + 19) j_Md_blocks [am_r 6 504] N) fun x2 M1 => some (some (am_i (am_wr (a1 - x2))), M1)) (fun _ M N => ∃ A, FR A0 M0 M A ∧ (∀ x : Int, 96 ≤ x → M 4 x = M0 4 x) ∧ N = am_st N0 505 (wc A (M 4))) 160 96 M0 (am_st N0 505 (wc A0 (M0 4))) ⟨A0, FR.init hJ, fun _ _ => rfl, rfl⟩ (fun N => by
    (try dsimp only)
    rw [E_Md_merge_25, if_neg (by omega)]) (fun t M N t1 t2 hR => by
    obtain ⟨A, hF, hc, rfl⟩ := hR
    (try dsimp only)
    obtain ⟨p, hp⟩ : ∃ p : Nat, t = (p : Int) + 96 := ⟨(t - 96).toNat, by omega⟩
    subst hp
    have hp160 : p < 160 := by omega
    rw [show (p : Int) + 96 - 96 = p by omega, show (p : Int) + 96 + 1 - 96 = (p : Int) + 1 by omega, E_Md_merge_25, if_pos (by omega), v_eq]
    have hpi := hF.2.2.1
    by_cases hk : kndS (M 4) (M 5) ((p : Int) + 96) = 0
    · rw [if_pos hk]
      unfold kndS at hk
      by_cases hu : 96 ≤ (p : Int) + 96 ∧ (p : Int) + 96 < 256 ∧ 0 < M 4 ((p : Int) + 96)
      · rw [if_pos hu, show (p : Int) + 96 - 96 = p by omega] at hk
        unfold jb1
        have inner := lp_rl (F := fun k N => am_at am_P (d + 19) j_Md_merge 34 [am_r 6 504, am_i a1, am_i (p : Int), am_i k, am_u, am_u] [] N) (b := fun k N => if atS (N 6) ((p : Int) + 96) k = -1 then N else if fd (fun i => 0 < N 4 i ∧ N 3 i = valS (N 3) (atS (N 6) ((p : Int) + 96) k)) (fun _ => inferInstance) 0 96 = atS (N 6) ((p : Int) + 96) k then N else hangS N ((p : Int) + 96) k (fd (fun i => 0 < N 4 i ∧ N 3 i = valS (N 3) (atS (N 6) ((p : Int) + 96) k)) (fun _ => inferInstance) 0 96)) (r := fun N => am_at am_P (d + 19) j_Md_merge 25 [am_r 6 504, am_i a1, am_i ((p : Int) + 1), am_u, am_u, am_u] [] N) (fun _ M N => ∃ A, FR A0 M0 M A ∧ (∀ x : Int, 96 ≤ x → M 4 x = M0 4 x) ∧ N = am_st N0 505 (wc A (M 4))) 8 0 M (am_st N0 505 (wc A (M 4))) ⟨A, hF, hc, rfl⟩ (fun N => by
          (try dsimp only)
          rw [E_Md_merge_34, if_neg (by omega), v_eq, wr_id (by omega) (by omega)]) (fun k M2 N2 k1 k2 hR2 => by
          obtain ⟨A2, hF2, hc2, rfl⟩ := hR2
          (try dsimp only)
          obtain ⟨j, hj⟩ : ∃ j : Nat, k = (j : Int) := ⟨k.toNat, by omega⟩
          subst hj
          obtain ⟨A3, b1, b2', b3⟩ := mg_step d hF2 hc2 hp160 (show j < 8 by omega) (by rw [hc2 _ (by omega), ← hc _ (by omega)]; omega) (by rw [hF2.1 5 (by decide) (by decide) (by decide), ← hF.1 5 (by decide) (by decide) (by decide)]; exact hk) N0 a1 rfl
          exact ⟨_, b3, A3, b1, b2', rfl⟩)
        exact inner
      · rw [if_neg hu] at hk; omega
    · rw [if_neg hk]
      refine ⟨_, ?_, A, hF, hc, rfl⟩
      rw [E_Md_merge_34, if_pos (by omega), S_Md_isPart (d + 17), bI_some]
      have hb := (hpi.bd ((p : Int) + 96)).1
      by_cases hu : M 4 ((p : Int) + 96) = 0
      · rw [b2_f (fun q => q.2.2 (by rw [st_eq, wc_p _ _ (by omega)]; exact hu)), if_pos rfl, v_eq, wr_id (by omega) (by omega)]
      · rw [b2_t ⟨by omega, by omega, by rw [st_eq, wc_p _ _ (by omega)]; exact hu⟩, if_neg (by decide), S_Md_kindOf (d + 18) (by omega), bI_some, st_eq, wc_k _ _ (by omega), (hpi.co p hp160 hu).1, if_neg (fun q => hk (by
          unfold kndS
          rw [if_pos ⟨by omega, by omega, by omega⟩, show (p : Int) + 96 - 96 = p by omega]
          exact q)), v_eq, wr_id (by omega) (by omega)])
  obtain ⟨N', f1, A, f2, f3, rfl⟩ := key
  refine ⟨A, f2, ?_⟩
  rw [show (96 : Int) - 96 = 0 by omega] at f1
  exact f1
theorem J_merge (d : Nat) {M : am_M} {n : Int} (hG : GR M n) : AG M (n + 1) (am_m am_P (d + 20) j_Tv_merge [am_r 5 0] M) (am_m am_P (d + 20) j_Md_merge [am_r 6 504]) := by
  have hX : am_m am_P (d + 20) j_Tv_merge [am_r 5 0] M = am_at am_P (d + 19) j_Tv_merge 0 [am_r 5 0, am_u] [] M := rfl
  have hY : ∀ N, am_m am_P (d + 20) j_Md_merge [am_r 6 504] N = am_at am_P (d + 19) j_Md_merge 0 [am_r 6 504, am_u, am_u, am_u, am_u, am_u] [] N := fun _ => rfl
  unfold AG
  rw [hX, E_Tv_merge_0]
  simp only [hY, E_Md_merge_0, Nat.reduceAdd]
  rcases snd_both (d + 14) (d + 15) hG with ⟨M', o1, o2, o3⟩ | ⟨M', A, o1, o2, o3, o4, o5, o6⟩
  · obtain ⟨w, N', e1, e0, e2⟩ := o3 M' (o2 505 (by decide))
    rw [o1, bI_some, if_pos rfl]
    refine ⟨_, _, N', rfl, ?_, RF.gr hG (by omega) (fun k hk => o2 k (by omega)) e2⟩
    rw [e1, bI_some, if_neg e0]
  · rw [o1, bI_some, if_neg (by decide)]
    obtain ⟨q, hq, hq2⟩ := o3.q
    obtain ⟨b0, hJ0⟩ := kp_beg o3 o5 hq (fun _ _ _ => rfl)
    obtain ⟨Az, hFz, -⟩ := mg_loop d hJ0 M' 0
    have hm : ∀ k : Nat, k ≠ 4 → k ≠ 6 → k ≠ 10 → jbS (csS q 1 M') k = csS q 1 M' k := hFz.1
    have eb1 : am_m am_P (d + 19) j_Po_usedBlocks [am_r 2 2] (csS q 1 M') = some (some (am_i (nz (M' 4) 96)), csS q 1 M') := by
      have := S_Po_usedBlocks (d + 18) 2 (csS q 1 M')
      rw [b0 4 (by omega)] at this
      exact this
    have ej := S_Po_joinLikeBlocks (d + 11) (csS q 1 M')
    have hloop := fun (A1 : Int → Int) (hA : ∀ y : Int, 2 ≤ y → y < 1904 → A1 y = A y) (N0 : am_M) (a1 : Int) => mg_loop d (kp_beg o3 o5 hq hA).2 N0 a1
    generalize jbS (csS q 1 M') = M2 at hm ej hloop
    obtain ⟨k1, -, -, -, -⟩ := keep_fin (d + 16) o3 o4 hq (M2 := M2) (fun k hk _ => hm k (by omega) (by omega) (by omega))
    obtain ⟨-, k2, k3, k4, k5⟩ := keep_fin (d + 17) o3 o4 hq (M2 := M2) (fun k hk _ => hm k (by omega) (by omega) (by omega))
    have eb2 : am_m am_P (d + 19) j_Po_usedBlocks [am_r 2 2] (ksS M2) = some (some (am_i (nz (M2 4) 96)), ksS M2) := by
      have := S_Po_usedBlocks (d + 18) 2 (ksS M2)
      rw [show (2 : Nat) + 2 = 4 from rfl, k3 4 (by omega)] at this
      exact this
    rw [k1, bV_some, eb1, bI_some, v_eq, ej, bV_some, k2, bV_some, eb2, bI_some]
    obtain ⟨N', e1, e2⟩ := o6 (ksS M2) (by rw [k4 505 (by omega) (by omega), o2 505 (by decide)])
    obtain ⟨N1, N2, A1, n1, n2, n3, n4, n5, n6, n7⟩ := k5 N' e2
    have hN5 : N' 505 = wc A (M' 4) := by rw [e2.1 505 (by omega), k4 505 (by omega) (by omega)]; exact o4
    have rb1 : am_m am_P (d + 19) j_Md_blocks [am_r 6 504] N' = some (some (am_i (nz (M' 4) 96)), N') := by rw [S_Md_blocks (d + 17), hN5, nz_wc]
    obtain ⟨A3, f1, f2⟩ := hloop A1 n6 N2 (nz (M' 4) 96)
    have hJ2 := FR.jx (kp_beg o3 o5 hq n6).2 f1
    have h511 : M2 1 11 = 0 ∨ M2 1 11 = 1 := by rw [hm 1 (by decide) (by decide) (by decide), b0 1 (by omega)]; exact o3.2.fl
    have hfin := n7 (am_st N2 505 (wc A3 (M2 4))) A3 (st_eq _ _ _) (fun y hy => f1.2.1 y (by omega) (fun v hv => by omega)) (fun k hk => st_ne _ _ (by omega)) (by rw [st_ne _ _ (by decide)]) (by rw [st_ne _ _ (by decide)]) (SR.of hJ2 h511)
    have rb2 : am_m am_P (d + 19) j_Md_blocks [am_r 6 504] (am_st N2 505 (wc A3 (M2 4))) = some (some (am_i (nz (M2 4) 96)), am_st N2 505 (wc A3 (M2 4))) := by rw [S_Md_blocks (d + 17), st_eq, nz_wc]
    refine ⟨_, _, am_st N2 505 (wc A3 (M2 4)), rfl, ?_, hfin.1, fun k hk => by rw [hfin.2 k hk, o2 k (by omega)]⟩
    rw [b0 4 (by omega), ← n5, st_self] at f2
    rw [e1, bI_some, if_pos rfl, rb1, bI_some, v_eq, n1, bV_some, n2, bV_some, v_eq, f2, rb2, bI_some]
