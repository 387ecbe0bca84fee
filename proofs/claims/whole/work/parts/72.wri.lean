/-! WRITTEN, WIPED: the public methods -/
theorem R_isAddress (d : Nat) {M : am_M} {A c : Int → Int} (hM : MV M A) {N : am_M} (hN : N 505 = wc A c) (v a : Int) : am_m am_P (d + 3) j_Md_isAddress [am_r 6 504, am_i v, am_i a] N = some (some (am_i (b2 (thS M v ∧ 0 ≤ a ∧ a < M 7 v))), N) := by
  have e : ∀ v, thS M v → N 505 (1797 + 9 * v) = M 7 v := fun v hv => by
    have := hv.1
    rw [hN, wc_o _ _ (by omega)]; exact (hM.vd hv).1
  have ht : ∀ v, thR (N 505) v ↔ thS M v := fun v => by rw [hN]; exact hM.th c v
  rw [S_Md_isAddress d v a N (fun q => by
    have q' := (ht v).mp q
    have := (hM.2 v q'.1 q'.2.1).1
    rw [e v q']
    exact ⟨q'.2.2, this.2.1⟩)]
  rw [b2_iff (q := thS M v ∧ 0 ≤ a ∧ a < M 7 v)]
  constructor
  · rintro ⟨q1, q2, q3⟩
    have q' := (ht v).mp q1
    rw [e v q'] at q3
    exact ⟨q', q2, q3⟩
  · rintro ⟨q1, q2, q3⟩
    exact ⟨(ht v).mpr q1, q2, by rw [e v q1]; exact q3⟩
theorem R_isVol (d : Nat) {M : am_M} {A c : Int → Int} (hM : MV M A) {N : am_M} (hN : N 505 = wc A c) (v : Int) : am_m am_P (d + 2) j_Md_isVolume [am_r 6 504, am_i v] N = some (some (am_i (b2 (thS M v))), N) := by
  have := R_isVolume d hM v c N
  rw [← hN, st_self] at this
  exact this
theorem R_got (d : Nat) {v w : Int} (hv : 0 ≤ v ∧ v < 12) (hw : 0 ≤ w ∧ w < 9) {A c : Int → Int} {N : am_M} (hN : N 505 = wc A c) : am_m am_P (d + 1) j_Md_get [am_r 6 504, am_i v, am_i w] N = some (some (am_i (A (1796 + 9 * v + w))), N) := by
  have := R_get d hv hw A c N
  rw [← hN, st_self] at this
  exact this
theorem R_isRow (d : Nat) {M : am_M} {A c : Int → Int} (hM : MV M A) {N : am_M} (hN : N 505 = wc A c) (v a n : Int) : am_m am_P (d + 4) j_Md_isRow [am_r 6 504, am_i v, am_i a, am_i n] N = some (some (am_i (b2 (1 ≤ n ∧ n ≤ 64 ∧ thS M v ∧ 0 ≤ a ∧ a < M 7 v ∧ am_wr (a + n) ≤ M 7 v))), N) := by
  show am_at am_P (d + 3) j_Md_isRow 0 [am_r 6 504, am_i v, am_i a, am_i n] [] N = _
  rw [E_Md_isRow_0, S_Md_isIn, bI_some]
  simp only [if_ot, if_to, b2_0]
  by_cases h1 : 1 ≤ n ∧ n ≤ 64
  · rw [if_neg (fun q => q h1), R_isAddress d hM hN, bI_some]
    simp only [b2_0]
    by_cases h2 : thS M v ∧ 0 ≤ a ∧ a < M 7 v
    · rw [if_neg (fun q => q h2), R_got (d + 2) ⟨h2.1.1, h2.1.2.1⟩ (by omega) hN, bI_some, show 1796 + 9 * v + 1 = 1797 + 9 * v by omega, (hM.vd h2.1).1]
      by_cases h3 : M 7 v < am_wr (a + n)
      · rw [if_pos h3, b2_f (fun q => by have := q.2.2.2.2.2; omega)]
      · rw [if_neg h3, b2_t ⟨h1.1, h1.2, h2.1, h2.2.1, h2.2.2, by omega⟩]
    · rw [if_pos h2, b2_f (fun q => h2 ⟨q.2.2.1, q.2.2.2.1, q.2.2.2.2.1⟩)]
  · rw [if_pos h1, b2_f (fun q => h1 ⟨q.1, q.2.1⟩)]
theorem R_blockAt (d : Nat) {M : am_M} {A ex c' : Int → Int} (h : PI A (M 4) (M 5) (M 6) (M 10) ex) (hV : RV M A) {v : Nat} (hv : thS M v) {a : Int} (ha : 0 ≤ a ∧ a < 512) {N : am_M} (hN : N 505 = wc A c') : am_m am_P (d + 3) j_Md_blockAt [am_r 6 504, am_i v, am_i a] N = some (some (am_i (blkS M v a)), N) := by
  have := S_Md_blockAt d (c' := c') h hV hv ha N
  rw [← hN, st_self] at this
  exact this
theorem R_partAt (d : Nat) {M : am_M} {A ex c' : Int → Int} (h : PI A (M 4) (M 5) (M 6) (M 10) ex) (hV : RV M A) {v : Nat} (hv : thS M v) {a kd : Int} (ha : 0 ≤ a ∧ a < 512) (hk : 0 ≤ kd ∧ kd ≤ 2) {N : am_M} (hN : N 505 = wc A c') : am_m am_P (d + 2) j_Md_partAt [am_r 6 504, am_i v, am_i a, am_i kd] N = some (some (am_i (decT (thgS M v a (kd + 1)))), N) := by
  have := S_Md_partAt d (c' := c') h hV hv ha hk N
  rw [← hN, st_self] at this
  exact this
theorem R_usedOf (d : Nat) {M : am_M} {A ex c' : Int → Int} (h : PI A (M 4) (M 5) (M 6) (M 10) ex) (hV : RV M A) {v : Nat} (hv : thS M v) {N : am_M} (hN : N 505 = wc A c') : am_m am_P (d + 4) j_Md_usedOf [am_r 6 504, am_i v] N = some (some (am_i (usS M v)), N) := by
  have := S_Md_usedOf d (c' := c') h hV hv N
  rw [← hN, st_self, ← us_um hv] at this
  exact this
/-- from the beginning to the end of a change by hand -/
theorem hand_fin' (d e' : Nat) {M : am_M} {n : Int} (hG : GR M n) {A : Int → Int} (hJ : JX M A n) (hR : M 505 = wc A (M 4)) {v : Nat} (hv : thS M v) {q : Nat} (hq : M 0 1 = (q : Int)) {r : Int} {M2 : am_M} {P : am_M → am_M → Prop} (hop : ∀ N1 : am_M, N1 505 = wc A (M 4) → N1 504 2 = 0 → (N1 504 13 = M 504 13 ∧ N1 504 16 = M 504 16 ∧ ∀ k : Nat, 513 ≤ k → N1 k = M k) → ∃ N2, P N1 N2 ∧ (r = 0 ∨ r = 1) ∧ OPR A (csS q 1 M) N1 v r M2 N2) :
    am_m am_P (d + 3) j_Tv_begin [am_r 5 0] M = some (none, csS q 1 M) ∧ ∃ (b : Int) (M3 : am_M), am_m am_P (d + 8) j_Tv_settle [am_r 5 0, am_i r] M2 = some (some (am_i b), M3) ∧ (b = 0 ∨ b = 1) ∧ (∀ k : Nat, 495 ≤ k → M3 k = M k) ∧
      ∀ N : am_M, (∀ k : Nat, (k ≤ 494 ∨ (501 ≤ k ∧ k ≤ 503) ∨ k = 505 ∨ k = 506 ∨ 513 ≤ k) → N k = M3 k) → N 504 13 = M 504 13 → N 504 16 = M 504 16 → ∃ N1 N2 M6 : am_M, (∀ e : Nat, am_m am_P (e + 1) j_Md_begin [am_r 6 504] N = some (none, N1)) ∧ N1 504 2 = 0 ∧ N1 505 = wc A (M 4) ∧ P N1 N2 ∧ am_m am_P (e' + 7) j_Md_end [am_r 6 504, am_i v] N2 = some (some (am_i b), M6) ∧ GX M6 (n + 1) ∧ (∀ k : Nat, (k ≤ 503 ∨ 513 ≤ k) → M6 k = N k) ∧ M6 504 13 = N 504 13 ∧ M6 504 16 = N 504 16 := by
  have hqB : isB (q : Int) := by rw [← hq]; exact hG.1.1.1
  have hqr := isB_rng hqB
  have e0 : ∀ k : Nat, k < q → csS q 1 M k = M k := fun k hk => cs_off _ _ _ (by omega)
  have hJ1 : JX (csS q 1 M) A n := hJ.congr (Int.le_refl _) (EQ_of (fun k k1 k2 => e0 k (by omega))) (fun x hx => by rw [e0 4 (by omega)]; exact hJ.1.pi.zo x hx) (fun _ _ _ => rfl)
  have hv1 : thS (csS q 1 M) v := ⟨hv.1, hv.2.1, by rw [e0 7 (by omega)]; exact hv.2.2⟩
  refine ⟨S_Tv_begin d M hq (by omega) hG.2.fl, ?_⟩
  -- one run of it, for what is known of the class's side
  obtain ⟨N2, -, hr01, hO⟩ := hop (am_set M 504 2 0) (by rw [set_ne _ _ _ (by decide)]; exact hR) (by rw [set_eq, up_eq]) ⟨by rw [set_eq, up_ne _ _ (by decide)], by rw [set_eq, up_ne _ _ (by decide)], fun k hk => set_ne _ _ _ (by omega)⟩
  have f1 := hO.1
  have hM2 : ∀ k : Nat, (k = 0 ∨ 15 ≤ k) → M2 k = csS q 1 M k := fun k hk => f1 k (by omega) (by omega) (by omega) (by omega) (by omega)
  have e7 : M2 7 = M 7 := by rw [f1 7 (by decide) (by decide) (by decide) (by decide) (by decide), e0 7 (by omega)]
  have hdn := hO.dn hJ1.1 hv1
  obtain ⟨b, M3, s1, s2, s3, s4⟩ := settle_fin d e' hG (show n ≤ n + 1 by omega) hJ hR hq hM2 (fun x hx => by rw [hO.2.1 x hx, e0 4 (by omega)]) (by rw [f1 1 (by decide) (by decide) (by decide) (by decide) (by decide), e0 1 (by omega)]) (v := v) ⟨hv.1, hv.2.1, by rw [e7]; exact hv.2.2⟩ (fun q => Or.inr (hdn.2 q)) hr01 (fun q w hw hwv ht => hO.us hJ1 q w hw hwv ht)
  refine ⟨b, M3, s1, s2, s3, fun N hN h13 h16 => ?_⟩
  have hb : BN M3 (am_set (am_st N 507 (cpF (N 507) (N 505) 0 2 1902)) 504 2 0) := by
    refine ⟨fun k hk => ?_, fun j j1 j2 => ?_, by rw [set_eq, up_eq]⟩
    · rw [set_ne _ _ _ (by omega), st_ne _ _ (by omega), hN k (by omega)]
    · rw [set_ne _ _ _ (by decide), st_eq, cpF_in (by omega), hN 505 (by omega)]; congr 1; omega
  have hk : ∀ k : Nat, (k ≤ 503 ∨ 513 ≤ k) → am_set (am_st N 507 (cpF (N 507) (N 505) 0 2 1902)) 504 2 0 k = N k := fun k hk => by rw [set_ne _ _ _ (by omega), st_ne _ _ (by omega)]
  have h4 : ∀ j : Int, j ≠ 2 → am_set (am_st N 507 (cpF (N 507) (N 505) 0 2 1902)) 504 2 0 504 j = N 504 j := fun j hj => by rw [set_eq, up_ne _ _ hj, st_ne _ _ (by decide)]
  have hbg := fun e => S_Md_begin e N
  generalize am_set (am_st N 507 (cpF (N 507) (N 505) 0 2 1902)) 504 2 0 = N1 at hb hk h4 hbg
  have h5 : N1 505 = wc A (M 4) := by rw [hb.1 505 (by omega), s3 505 (by omega)]; exact hR
  obtain ⟨N2, p1, -, p3⟩ := hop N1 h5 hb.2.2 ⟨by rw [h4 13 (by decide), h13], by rw [h4 16 (by decide), h16], fun k hk' => by rw [hk k (by omega), hN k (by omega), s3 k (by omega)]⟩
  have hd := (p3.dn hJ1.1 hv1).1
  have hd' : DN A M2 N1 N2 r (n + 1) := by
    rcases hd with d1 | ⟨d1, A', d2, d3, d4⟩
    · exact Or.inl d1
    · refine Or.inr ⟨d1, A', d2, d3, ?_⟩
      obtain ⟨j1, j2, j3, j4, ⟨⟨j5, j6⟩, j7⟩, j8⟩ := d4
      exact ⟨j1, j2, j3, j4, ⟨⟨j5, by omega⟩, j7⟩, j8⟩
  obtain ⟨M6, m1, m2, m3, m4⟩ := s4 N1 N2 hb hd'
  exact ⟨N1, N2, M6, hbg, hb.2.2, h5, p1, m1, m2, fun k hk' => by rw [m3 k (by omega) (by omega), hk k hk'], by rw [m4 13 (by decide), h4 13 (by decide)], by rw [m4 16 (by decide), h4 16 (by decide)]⟩
theorem hand_fin (d e' : Nat) {M : am_M} {n : Int} (hG : GR M n) {A : Int → Int} (hJ : JX M A n) (hR : M 505 = wc A (M 4)) {v : Nat} (hv : thS M v) {q : Nat} (hq : M 0 1 = (q : Int)) {r : Int} {M2 : am_M} {P : am_M → am_M → Prop} (hop : ∀ N1 : am_M, N1 505 = wc A (M 4) → N1 504 2 = 0 → ∃ N2, P N1 N2 ∧ (r = 0 ∨ r = 1) ∧ OPR A (csS q 1 M) N1 v r M2 N2) :
    am_m am_P (d + 3) j_Tv_begin [am_r 5 0] M = some (none, csS q 1 M) ∧ ∃ (b : Int) (M3 : am_M), am_m am_P (d + 8) j_Tv_settle [am_r 5 0, am_i r] M2 = some (some (am_i b), M3) ∧ (b = 0 ∨ b = 1) ∧ (∀ k : Nat, 501 ≤ k → M3 k = M k) ∧
      ∀ N : am_M, RF M3 N → ∃ N1 N2 M6 : am_M, (∀ e : Nat, am_m am_P (e + 1) j_Md_begin [am_r 6 504] N = some (none, N1)) ∧ N1 504 2 = 0 ∧ N1 505 = wc A (M 4) ∧ P N1 N2 ∧ am_m am_P (e' + 7) j_Md_end [am_r 6 504, am_i v] N2 = some (some (am_i b), M6) ∧ GR M6 (n + 1) ∧ ∀ k : Nat, 517 ≤ k → M6 k = M k := by
  obtain ⟨h1, b, M3, s1, s2, s3, s4⟩ := hand_fin' d e' hG hJ hR hv hq (fun N1 h5 h2 _ => hop N1 h5 h2)
  refine ⟨h1, b, M3, s1, s2, fun k hk => s3 k (by omega), fun N hN => ?_⟩
  obtain ⟨N1, N2, M6, n1, n2, n3, n4, n5, n6, n7, n8, n9⟩ := s4 N (fun k hk => hN.1 k (by omega)) (by rw [hN.2.1, s3 504 (by omega)]) (by rw [hN.2.2, s3 504 (by omega)])
  have hall : ∀ k : Nat, (495 ≤ k ∧ k ≤ 500 ∨ 513 ≤ k) → M6 k = M k := fun k hk => by rw [n7 k (by omega), hN.1 k (by omega), s3 k (by omega)]
  exact ⟨N1, N2, M6, n1, n2, n3, n4, n5, n6.gr (hG.1.2.2.2.2.2.2.at (fun k k1 k2 => hall k (by omega)) (by rw [n8, hN.2.1, s3 504 (by omega)]) (by rw [n9, hN.2.2, s3 504 (by omega)]) (fun k k1 k2 => hall k (by omega))), fun k hk => hall k (by omega)⟩
theorem GR.q {M : am_M} {n : Int} (h : GR M n) : ∃ q : Nat, M 0 1 = (q : Int) ∧ 15 ≤ q := by
  have := isB_rng h.1.1.1
  exact ⟨(M 0 1).toNat, by omega, by omega⟩
theorem J_write (d : Nat) {M : am_M} {n : Int} (hG : GR M n) (v a x : Int) : AG M (n + 1) (am_m am_P (d + 20) j_Tv_write [am_r 5 0, am_i v, am_i a, am_i x] M) (am_m am_P (d + 20) j_Md_write [am_r 6 504, am_i v, am_i a, am_i x]) := by
  have hX : am_m am_P (d + 20) j_Tv_write [am_r 5 0, am_i v, am_i a, am_i x] M = am_at am_P (d + 19) j_Tv_write 0 [am_r 5 0, am_i v, am_i a, am_i x] [] M := rfl
  have hY : ∀ N, am_m am_P (d + 20) j_Md_write [am_r 6 504, am_i v, am_i a, am_i x] N = am_at am_P (d + 19) j_Md_write 0 [am_r 6 504, am_i v, am_i a, am_i x] [] N := fun _ => rfl
  unfold AG
  simp only [hX, hY, E_Tv_write_0, E_Md_write_0, Nat.reduceAdd, if_ot, if_to]
  rcases opn_both (d + 13) (d + 14) hG v with ⟨M', o1, o2, o3⟩ | ⟨M', A, o1, o2, o3, o4, o5, o6, o7, o8⟩
  · obtain ⟨N', e1, e2⟩ := o3 M' (o2 505 (by decide))
    rw [o1]
    simp only [bI_some, if_true]
    refine ⟨_, _, N', rfl, ?_, RF.gr hG (by omega) (fun k hk => o2 k (by omega)) e2⟩
    rw [e1]; simp only [bI_some, if_true]
  · obtain ⟨N', e1, e2⟩ := o8 M' (o2 505 (by decide))
    have hN5 : N' 505 = wc A (M' 4) := by rw [e2.1 505 (by omega)]; exact o4
    have hno := RF.gr (n' := n + 1) hG (by omega) (fun k hk => o2 k (by omega)) e2
    rw [o1]
    simp only [bI_some, show ¬ ((1 : Int) = 0) by decide, if_false, S_Tv_isInside]
    by_cases ha : thS M' v ∧ 0 ≤ a ∧ a < M' 7 v
    · simp only [b2_t ha, show ¬ ((1 : Int) = 0) by decide, if_false, S_Tv_isValue, bI_some]
      by_cases hx : 0 ≤ x ∧ x < 1000000
      · simp only [b2_t hx, show ¬ ((1 : Int) = 0) by decide, if_false]
        obtain ⟨q, hq, hq2⟩ := o3.q
        obtain ⟨w, hw⟩ : ∃ w : Nat, v = (w : Int) := ⟨v.toNat, by have := o6.1; omega⟩
        subst hw
        have hs := (o5.1.mv.2 w o6.1 o6.2.1).1
        have e0 : ∀ k : Nat, k < q → csS q 1 M' k = M' k := fun k hk => cs_off _ _ _ (by omega)
        have hw12 : w < 12 := by have := o6.2.1; omega
        have ev1 : thS (csS q 1 M') w := ⟨o6.1, o6.2.1, by rw [e0 7 (by omega)]; exact o6.2.2⟩
        have hop : ∀ N1 : am_M, N1 505 = wc A (M' 4) → N1 504 2 = 0 → ∃ N2, (am_m am_P (d + 19) j_Md_writeNow [am_r 6 504, am_i (w : Int), am_i a, am_i x] N1 = some (none, N2)) ∧ ((puS (csS q 1 M') w a x).1 = 0 ∨ (puS (csS q 1 M') w a x).1 = 1) ∧ OPR A (csS q 1 M') N1 w (puS (csS q 1 M') w a x).1 (puS (csS q 1 M') w a x).2 N2 := fun N1 h5 _ => by
          have hJ1 : JX (csS q 1 M') A n := o5.congr (Int.le_refl _) (EQ_of (fun k k1 k2 => e0 k (by omega))) (fun y hy => by rw [e0 4 (by omega)]; exact o5.1.pi.zo y hy) (fun _ _ _ => rfl)
          have hi := OPR.init (N1 := N1) hJ1.1 ev1 (by rw [e0 4 (by omega)]; exact h5)
          exact hi.step hw12 (a := a) (by rw [e0 7 (by omega)]; exact ha.2.2) (by rw [e0 7 (by omega)]; exact hs.1) (f := am_m am_P (d + 19) j_Md_writeNow [am_r 6 504, am_i (w : Int), am_i a, am_i x]) (fun A1 p1 p2 p3 p4 => put_both (d + 9) (by omega) (by omega) N1 p1 p2 p3 ev1 (by rw [p4, e0 1 (by omega)]; exact o5.1.mv.1.1)) (OZ_pu _ _ _ _) (fun A1 p1 p2 p3 u hu b hb hub => put_ct (by omega) p1 p2 ev1 p3 hu hb hub)
        obtain ⟨hb, b, M3, s1, s2, s3, s4⟩ := hand_fin (d + 11) (d + 12) o3 o5 o4 o6 hq hop
        have hb' := (hand_fin (d + 16) 0 o3 o5 o4 o6 hq hop).1
        rw [hb']
        simp only [bV_some, S_St_put (d + 10), bI_some, s1, if_t s2]
        obtain ⟨N'', e1', e2'⟩ := o8 M3 (by rw [s3 505 (by omega), o2 505 (by decide)])
        have hN5' : N'' 505 = wc A (M' 4) := by rw [e2'.1 505 (by omega), s3 505 (by omega)]; exact o4
        obtain ⟨N1, N2, M6, n1, n2, n3, n4, n5, n6, n7⟩ := s4 N'' e2'
        refine ⟨_, _, M6, rfl, ?_, n6, fun k hk => by rw [n7 k hk, o2 k (by omega)]⟩
        rw [e1']
        simp only [bI_some, show ¬ ((1 : Int) = 0) by decide, if_false, R_isAddress (d + 16) o5.1.mv hN5', b2_t ha, S_Md_isIn, b2_t (show 0 ≤ x ∧ x ≤ 999999 by omega), n1, bV_some, n4]
        rw [n5, bI_some, if_t s2]
      · simp only [b2_f hx, if_true]
        refine ⟨_, _, N', rfl, ?_, hno⟩
        rw [e1]
        simp only [bI_some, show ¬ ((1 : Int) = 0) by decide, if_false, R_isAddress (d + 16) o5.1.mv hN5, b2_t ha, S_Md_isIn, b2_f (show ¬ (0 ≤ x ∧ x ≤ 999999) by omega), if_true]
    · simp only [b2_f ha, if_true, bI_some]
      refine ⟨_, _, N', rfl, ?_, hno⟩
      rw [e1]
      simp only [bI_some, show ¬ ((1 : Int) = 0) by decide, if_false, R_isAddress (d + 16) o5.1.mv hN5, b2_f ha, if_true]
