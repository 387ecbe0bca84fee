/-! SPOILT; STEPS told and TAKEN BACK -/
theorem J_spoil (d : Nat) {M : am_M} {n : Int} (hG : GR M n) (b x : Int) : AG M (n + 1) (am_m am_P (d + 20) j_Tv_spoil [am_r 5 0, am_i b, am_i x] M) (am_m am_P (d + 20) j_Md_spoil [am_r 6 504, am_i b, am_i x]) := by
  have hX : am_m am_P (d + 20) j_Tv_spoil [am_r 5 0, am_i b, am_i x] M = am_at am_P (d + 19) j_Tv_spoil 0 [am_r 5 0, am_i b, am_i x] [] M := rfl
  have hY : ∀ N, am_m am_P (d + 20) j_Md_spoil [am_r 6 504, am_i b, am_i x] N = am_at am_P (d + 19) j_Md_spoil 0 [am_r 6 504, am_i b, am_i x] [] N := fun _ => rfl
  unfold AG
  simp only [hX, hY, E_Tv_spoil_0, E_Md_spoil_0, Nat.reduceAdd, if_ot, if_to, S_Po_isUsedBlock, bI_some, S_Md_isBlock]
  obtain ⟨A, c, hR, hJ, hP⟩ := hG.sr
  have hblk : ∀ N : am_M, N 505 = M 505 → (0 ≤ b ∧ b < 96 ∧ ¬ N 505 (5 + 2 * b) = 0 ↔ 0 ≤ b ∧ b < 96 ∧ 0 < M 4 b) := fun N hN => by
    rw [hN]
    constructor
    · rintro ⟨h1, h2, h3⟩
      have := hP.2.1 b h1 h2
      rw [hR, wc_b _ _ ⟨h1, h2⟩, if_neg (by omega)] at h3
      exact ⟨h1, h2, by omega⟩
    · rintro ⟨h1, h2, h3⟩
      refine ⟨h1, h2, ?_⟩
      rw [hR, wc_b _ _ ⟨h1, h2⟩, if_neg (by omega)]
      omega
  by_cases hb : 0 ≤ b ∧ b < 96 ∧ 0 < M 4 b
  · simp only [b2_t hb, show ¬ ((1 : Int) = 0) by decide, if_false]
    by_cases hx : 1 ≤ x ∧ x ≤ 999
    · simp only [if_neg (show ¬ x < 1 by omega), if_neg (show ¬ (999 : Int) < x by omega)]
      obtain ⟨q, hq, hq2⟩ := hG.q
      have hqr := isB_rng (show isB (q : Int) by rw [← hq]; exact hG.1.1.1)
      have b0 : ∀ k : Nat, k ≤ 14 → csS q 1 M k = M k := fun k hk => cs_off _ _ _ (by omega)
      obtain ⟨M2, hM2⟩ : ∃ M2, M2 = am_set (am_set (csS q 1 M) 4 b x) 1 11 1 := ⟨_, rfl⟩
      have m4 : M2 4 = am_up (M 4) b x := by rw [hM2, set_ne _ _ _ (by decide), set_eq, b0 4 (by omega)]
      have m1 : M2 1 = am_up (M 1) 11 1 := by rw [hM2, set_eq, set_ne _ _ _ (by decide), b0 1 (by omega)]
      have mo : ∀ k : Nat, k ≠ 1 → k ≠ 4 → M2 k = csS q 1 M k := fun k k1 k4 => by rw [hM2, set_ne _ _ _ k1, set_ne _ _ _ k4]
      obtain ⟨k1, -, -, -, -⟩ := keep_fin (d + 16) hG hR hq (M2 := M2) (fun k hk _ => mo k (by omega) (by omega))
      obtain ⟨-, k2, k3, k4, k5⟩ := keep_fin (d + 17) hG hR hq (M2 := M2) (fun k hk _ => mo k (by omega) (by omega))
      rw [k1]
      simp only [bV_some, if_t (show 0 ≤ b ∧ b < 256 by omega), w_eq]
      rw [← hM2, k2]
      simp only [bV_some]
      obtain ⟨N1, N2, A1, n1, n2, n3, n4, n5, n6, n7⟩ := k5 (ksS M2) (RF_rfl _)
      have hcz : ∀ y, ¬ TA y → c y = 0 := fun y hy => by have := hJ.1.pi.zo y hy; rw [st_eq] at this; exact this
      have hJ1 : JX (am_st (csS q 1 M) 4 c) A1 n := hJ.congr (Int.le_refl _) (EQ_of (fun k k1 k2 => by
        by_cases e : k = 4
        · rw [e, st_eq, st_eq]
        · rw [st_ne _ _ e, st_ne _ _ e, b0 k k2])) (fun y hy => by rw [st_eq]; exact hcz y hy) n6
      have hSR : SR M2 A1 (n + 1) := by
        refine ⟨c, ?_, fun y hy => ?_, fun y h0 h1 => ?_, by rw [m1, up_eq]; exact Or.inr rfl, fun q => by rw [m1, up_eq] at q; omega⟩
        · have e1 : am_st M2 4 c 1 = am_up (am_st (csS q 1 M) 4 c 1) 11 1 := by rw [st_ne _ _ (by decide), st_ne _ _ (by decide), m1, b0 1 (by omega)]
          have eo : ∀ k : Nat, k ≠ 1 → am_st M2 4 c k = am_st (csS q 1 M) 4 c k := fun k h1 => by
            by_cases e : k = 4
            · rw [e, st_eq, st_eq]
            · rw [st_ne _ _ e, st_ne _ _ e, mo k h1 e]
          generalize am_st M2 4 c = X at e1 eo ⊢
          refine hJ1.meta (fun k h1 _ _ => eo k h1) (by rw [e1, up_ne _ _ (by decide)]) ?_ (fun _ _ _ _ => rfl) (fun _ _ => rfl) (fun v hv => by rw [eo 8 (by decide)]; exact hJ1.2.1 v hv)
          obtain ⟨⟨t1, t2, t3⟩, t4⟩ := hJ1.1.mv
          refine ⟨⟨by rw [e1, up_ne _ _ (by decide)]; exact t1, by rw [e1, up_ne _ _ (by decide)]; exact t2, by rw [e1, up_ne _ _ (by decide)]; exact t3⟩, fun u u0 u12 => ?_⟩
          obtain ⟨a1, a5⟩ := t4 u u0 u12
          rw [eo 7 (by decide), eo 10 (by decide)]
          refine ⟨a1, fun h7 => ?_⟩
          have := a5 h7
          unfold VD at this ⊢
          rw [eo 7 (by decide), eo 8 (by decide), eo 9 (by decide), eo 11 (by decide), eo 12 (by decide), eo 13 (by decide), eo 14 (by decide)]
          exact this
        · rw [m4, up_ne _ _ (fun e => hy (by rw [e]; omega))]; exact hP.1 y hy
        · rw [m4]
          by_cases e : y = b
          · rw [e, up_eq]
            have := (hP.2.1 b hb.1 hb.2.1).2.2
            exact ⟨by omega, by omega, ⟨fun q => by omega, fun q => by have := this.mpr q; omega⟩⟩
          · rw [up_ne _ _ e]; exact hP.2.1 y h0 h1
      have hrow : am_up (am_up (N2 505) (4 + 2 * b) (N2 505 (4 + 2 * b))) (5 + 2 * b) x = wc A1 (M2 4) := by
        rw [up_self, n5, m4, wc_upB _ _ ⟨hb.1, hb.2.1⟩ (x := x) (y := x) (by rw [if_neg (by omega)])]
      have hfin := n7 (am_st N2 505 (am_up (am_up (N2 505) (4 + 2 * b) (N2 505 (4 + 2 * b))) (5 + 2 * b) x)) A1 (by rw [st_eq, hrow]) (fun _ _ => rfl) (fun k hk => st_ne _ _ (by omega)) (by rw [st_ne _ _ (by decide)]) (by rw [st_ne _ _ (by decide)]) hSR
      refine ⟨_, _, _, rfl, ?_, hfin⟩
      simp only [b2_t ((hblk (ksS M2) (k4 505 (by omega) (by omega))).mpr hb), show ¬ ((1 : Int) = 0) by decide, if_false, S_Md_isIn, b2_t hx, bI_some, n1, bV_some, n2, S_Md_valueOf (d + 18) (show 0 ≤ b ∧ b < 96 from ⟨hb.1, hb.2.1⟩), S_Md_letBlock (d + 18) (show 0 ≤ b ∧ b < 96 from ⟨hb.1, hb.2.1⟩)]
    · have hX2 : ∀ Z : Option am_O, (if x < 1 then some (some (am_i 0), M) else if (999 : Int) < x then some (some (am_i 0), M) else Z) = some (some (am_i 0), M) := fun Z => by
        by_cases h1 : x < 1
        · rw [if_pos h1]
        · rw [if_neg h1, if_pos (by omega)]
      rw [hX2]
      refine ⟨_, _, M, rfl, ?_, RF.gr hG (by omega) (fun k hk => rfl) (RF_rfl M)⟩
      simp only [b2_t ((hblk M rfl).mpr hb), show ¬ ((1 : Int) = 0) by decide, if_false, S_Md_isIn, b2_f hx, bI_some, if_true]
  · simp only [b2_f hb, if_true]
    refine ⟨_, _, M, rfl, ?_, RF.gr hG (by omega) (fun k hk => rfl) (RF_rfl M)⟩
    simp only [b2_f (fun q => hb ((hblk M rfl).mp q)), if_true]
theorem J_steps (d : Nat) {M : am_M} {n : Int} (hG : GR M n) : AG M (n + 1) (am_m am_P (d + 20) j_Tv_steps [am_r 5 0] M) (am_m am_P (d + 20) j_Md_steps [am_r 6 504]) := by
  have hX : am_m am_P (d + 20) j_Tv_steps [am_r 5 0] M = am_at am_P (d + 19) j_Tv_steps 0 [am_r 5 0] [] M := rfl
  have hY : ∀ N, am_m am_P (d + 20) j_Md_steps [am_r 6 504] N = am_at am_P (d + 19) j_Md_steps 0 [am_r 6 504] [] N := fun _ => rfl
  unfold AG
  simp only [hX, hY, E_Tv_steps_0, E_Md_steps_0, Nat.reduceAdd]
  refine ⟨_, M, M, rfl, ?_, RF.gr hG (by omega) (fun k hk => rfl) (RF_rfl M)⟩
  rw [if_t (by decide), hG.1.2.1.2.1]
theorem cp_same (o1 o2 : Int) (r : Nat) (M : am_M) : ∀ (n : Nat), o1 + n ≤ o2 → itS (fun k N => am_set N r (o1 + k) (N r (o2 + k))) n 0 M = am_st M r (cpF (M r) (M r) o1 o2 n) := by
  intro n hn
  have key := it_inv (σ := am_M) (b := fun k N => am_set N r (o1 + k) (N r (o2 + k))) (fun i N => 0 ≤ i ∧ N = am_st M r (cpF (M r) (M r) o1 o2 i)) n 0 M ⟨by omega, by
    have e : cpF (M r) (M r) o1 o2 0 = M r := by funext y; exact cpF_out (by omega)
    rw [e, st_self]⟩ (fun i N i1 i2 hN => by
    obtain ⟨h0, rfl⟩ := hN
    refine ⟨by omega, ?_⟩
    unfold am_set
    rw [st_eq, st_st, cpF_out (show ¬ (o1 ≤ o2 + i ∧ o2 + i < o1 + i) by omega)]
    congr 1
    funext y
    by_cases e : y = o1 + i
    · rw [e, up_eq, cpF_in (by omega)]; congr 1; omega
    · rw [up_ne _ _ e]
      by_cases hy : o1 ≤ y ∧ y < o1 + i
      · rw [cpF_in hy, cpF_in (by omega)]
      · rw [cpF_out hy, cpF_out (by omega)])
  rw [key.2, Int.zero_add]
theorem S_Md_undo (d : Nat) (M : am_M) (h0 : 1 ≤ M 505 0 ∧ M 505 0 ≤ 16) (h1 : 0 ≤ M 505 1 ∧ M 505 1 < 16) : am_m am_P (d + 2) j_Md_undo [am_r 6 504] M = some (some (am_i (M 505 0 - 1)), am_st M 505 (cpF (am_up (M 505) 0 (M 505 0 - 1)) (M 505) 2 (1904 + 1902 * ((M 505 1 + (M 505 0 - 1)) % 16)) 1902)) := by
  show am_at am_P (d + 1) j_Md_undo 0 [am_r 6 504, am_u, am_u] [] M = _
  rw [E_Md_undo_0, if_t (by decide)]
  simp only [Nat.reduceAdd]
  rw [if_neg (by omega), if_t (by decide), if_t (by decide), w_eq, if_t (by decide), if_t (by decide), wr_id (by omega) (by omega), set_eq, up_ne _ _ (by decide), up_eq, S_Md_stepAt d h1 (by omega), bI_some, v_eq, v_eq]
  obtain ⟨x, hx⟩ : ∃ x : Int, x = (M 505 1 + (M 505 0 - 1)) % 16 := ⟨_, rfl⟩
  rw [← hx]
  obtain ⟨n, hn⟩ : ∃ n : Nat, n = 1902 := ⟨_, rfl⟩
  have key := lp_it (σ := am_M) (F := fun i N => am_at am_P (d + 1) j_Md_undo 39 [am_r 6 504, am_i (1904 + 1902 * x), am_i i] [] N) (b := fun k N => am_set N 505 (2 + k) (N 505 (1904 + 1902 * x + k))) (r := fun N => some (some (am_i (N 505 0)), N)) n 0 (am_set M 505 0 (M 505 0 - 1)) (fun s => by
    try dsimp only
    rw [E_Md_undo_39, if_neg (by omega), if_t (by decide)]) (fun i s h1 h2 => by
    try dsimp only
    rw [E_Md_undo_39, if_pos (by omega), wr_id (z := 1904 + 1902 * x + i) (by omega) (by omega), wr_id (z := 2 + i) (by omega) (by omega), if_t (by omega), if_t (by omega), w_eq, v_eq, wr_id (by omega) (by omega)])
  rw [cp_same _ _ _ _ _ (by omega), show ((n : Nat) : Int) = 1902 by omega] at key
  rw [key]
  (try dsimp only)
  have e5 : am_set M 505 0 (M 505 0 - 1) 505 = am_up (M 505) 0 (M 505 0 - 1) := set_eq _ _ _ _
  have e6 : cpF (am_up (M 505) 0 (M 505 0 - 1)) (am_up (M 505) 0 (M 505 0 - 1)) 2 (1904 + 1902 * x) 1902 = cpF (am_up (M 505) 0 (M 505 0 - 1)) (M 505) 2 (1904 + 1902 * x) 1902 := by
    funext y
    by_cases hy : 2 ≤ y ∧ y < 2 + 1902
    · rw [cpF_in hy, cpF_in hy, up_ne _ _ (by omega)]
    · rw [cpF_out hy, cpF_out hy]
  rw [e5, e6, st_eq, cpF_out (by omega), up_eq]
  unfold am_set
  rw [st_st]
theorem J_undo (d : Nat) {M : am_M} {n : Int} (hG : GR M n) : AG M (n + 1) (am_m am_P (d + 20) j_Tv_undo [am_r 5 0] M) (am_m am_P (d + 20) j_Md_undo [am_r 6 504]) := by
  have hX : am_m am_P (d + 20) j_Tv_undo [am_r 5 0] M = am_at am_P (d + 19) j_Tv_undo 0 [am_r 5 0] [] M := rfl
  obtain ⟨⟨b1, b2, b3, b4, b5, b6, b7⟩, b8⟩ := id hG
  obtain ⟨c1, c2, c3, c4⟩ := id b2
  unfold AG
  rw [hX, E_Tv_undo_0]
  simp only [Nat.reduceAdd]
  by_cases h0 : M 29 1 = 0
  · rw [if_pos h0]
    have hY : am_m am_P (d + 20) j_Md_undo [am_r 6 504] M = am_at am_P (d + 19) j_Md_undo 0 [am_r 6 504, am_u, am_u] [] M := rfl
    refine ⟨_, M, M, rfl, ?_, RF.gr hG (by omega) (fun k hk => rfl) (RF_rfl M)⟩
    rw [hY, E_Md_undo_0, if_t (by decide)]
    simp only [Nat.reduceAdd]
    rw [if_pos (by omega)]
  · rw [if_neg h0]
    have hB := b1.2.1 (M 29 1 - 1) (by omega) (by omega)
    have hr := isB_rng hB.1
    obtain ⟨q, hq⟩ : ∃ q : Nat, M 30 (M 29 1 - 1) = (q : Int) := ⟨(M 30 (M 29 1 - 1)).toNat, by omega⟩
    have hS := c4 (M 29 1 - 1) (by omega) (by omega)
    rw [hq, Int.toNat_natCast] at hS
    have hfl : M q 11 = 0 ∨ M q 11 = 1 := hS.fl
    rw [S_Pa_takeLatest (d + 16) M (by omega) c1.2 hq (by omega) hfl (by omega), bV_some]
    have hc : ∀ k : Nat, 14 < k → csS 1 q (am_set M 29 1 (M 29 1 - 1)) k = am_set M 29 1 (M 29 1 - 1) k := fun k hk => cs_off _ _ _ (by omega)
    have hc0 : csS 1 q (am_set M 29 1 (M 29 1 - 1)) 0 = M 0 := by rw [cs_off _ _ _ (by omega), set_ne _ _ _ (by decide)]
    have hk : ∀ k : Nat, 14 < k → k ≠ 29 → csS 1 q (am_set M 29 1 (M 29 1 - 1)) k = M k := fun k h1 h2 => by rw [hc k h1, set_ne _ _ _ h2]
    have h29 : csS 1 q (am_set M 29 1 (M 29 1 - 1)) 29 1 = M 29 1 - 1 := by rw [hc 29 (by decide), set_eq, up_eq]
    have hEQ := cs_EQ (r0 := 1) (r1 := q) (by omega) (am_set M 29 1 (M 29 1 - 1))
    rw [vw_1] at hEQ
    have hzo : ∀ x, ¬ TA x → csS 1 q (am_set M 29 1 (M 29 1 - 1)) 4 x = 0 := fun x hx => by
      have := cs_zo 1 q (am_set M 29 1 (M 29 1 - 1)) hx
      rw [show csS 1 q (am_set M 29 1 (M 29 1 - 1)) 4 x = am_set M 29 1 (M 29 1 - 1) 4 x from this, set_ne _ _ _ (by decide)]
      exact b8.zo x hx
    have hvq : EQ (vw q M) (vw q (am_set M 29 1 (M 29 1 - 1))) := EQ_of (fun k k1 k2 => by
      show am_set M 29 1 (M 29 1 - 1) (q + k - 1) = M (q + k - 1)
      exact set_ne _ _ _ (by omega))
    have hE2 := hvq.trans hEQ
    generalize csS 1 q (am_set M 29 1 (M 29 1 - 1)) = M1 at hc hc0 hk h29 hE2 hzo ⊢
    have h5 : M1 505 = M 505 := hk 505 (by decide) (by decide)
    have hrun := S_Md_undo (d + 18) M1 (by rw [h5]; omega) (by rw [h5]; exact c3)
    rw [h5] at hrun
    obtain ⟨x, hx⟩ : ∃ x : Int, x = (M 505 1 + (M 505 0 - 1)) % 16 := ⟨_, rfl⟩
    have hx2 : 0 ≤ x ∧ x < 16 := by omega
    rw [← hx] at hrun
    have hR : ∀ y : Int, (y = 1 ∨ 1904 ≤ y) → cpF (am_up (M 505) 0 (M 505 0 - 1)) (M 505) 2 (1904 + 1902 * x) 1902 y = M 505 y := fun y hy => by rw [cpF_out (by omega), up_ne _ _ (by omega)]
    have hR0 : cpF (am_up (M 505) 0 (M 505 0 - 1)) (M 505) 2 (1904 + 1902 * x) 1902 0 = M 505 0 - 1 := by rw [cpF_out (by omega), up_eq]
    have hRm : ∀ y : Int, 2 ≤ y → y < 1904 → cpF (am_up (M 505) 0 (M 505 0 - 1)) (M 505) 2 (1904 + 1902 * x) 1902 y = stR (M 505) x y := fun y y1 y2 => by
      rw [cpF_in (by omega)]; unfold stR; congr 1; omega
    generalize cpF (am_up (M 505) 0 (M 505 0 - 1)) (M 505) 2 (1904 + 1902 * x) 1902 = R at hR hR0 hRm hrun
    refine ⟨_, M1, am_st M1 505 R, rfl, by rw [hrun, h29, c2], ?_, fun k hk' => by rw [st_ne _ _ (by omega), hk k (by omega) (by omega)]⟩
    have ho : ∀ k : Nat, k ≠ 505 → am_st M1 505 R k = M1 k := fun k hk => st_ne _ _ hk
    refine ⟨⟨?_, ?_, ?_, ?_, ?_, ?_, ?_⟩, ?_⟩
    · unfold BQ; rw [ho 0 (by decide), ho 30 (by decide), hc0, hk 30 (by decide) (by decide)]; exact b1
    · unfold PS
      rw [st_eq, ho 29 (by decide), h29, ho 30 (by decide), hk 30 (by decide) (by decide), hR0, hR 1 (Or.inl rfl)]
      refine ⟨by omega, by omega, c3, fun i i1 i2 => ?_⟩
      have hBi := isB_rng (b1.2.1 i i1 (by omega)).1
      refine (c4 i i1 (by omega)).at (by omega) (fun k k1 k2 => by rw [ho k (by omega), hk k (by omega) (by omega)]) (fun y y1 y2 => ?_)
      unfold stR
      exact hR _ (by omega)
    · rw [ho 506 (by decide), hk 506 (by decide) (by decide)]
      exact b3.at (by omega) (fun k k1 k2 => by rw [ho k (by omega), hk k (by omega) (by omega)]) (fun _ _ _ => rfl)
    · rw [ho 506 (by decide), hk 506 (by decide) (by decide)]
      refine b4.at (by omega) (by rw [ho 269 (by decide), hk 269 (by decide) (by decide)]) (by rw [ho 270 (by decide), hk 270 (by decide) (by decide)]) (fun i i1 i2 k k1 k2 => ?_) (fun _ _ => rfl)
      have := b4.1
      have := b5 i i1 (by omega)
      rw [ho k (by omega), hk k (by omega) (by omega)]
    · rw [ho 270 (by decide), hk 270 (by decide) (by decide)]; exact b5
    · intro p hp y hy
      have hp2 : 15 ≤ p ∧ p + 3 ≠ 29 ∧ p + 3 ≤ 494 := by
        rcases hp with q1 | rfl | ⟨i, hi, rfl⟩
        · have := isB_rng q1; omega
        · omega
        · omega
      rw [ho _ (by omega), hk _ (by omega) (by omega)]
      exact b6 p hp y hy
    · exact b7.at (fun k k1 k2 => by rw [ho k (by omega), hk k (by omega) (by omega)]) (by rw [ho 504 (by decide), hk 504 (by decide) (by decide)]) (by rw [ho 504 (by decide), hk 504 (by decide) (by decide)]) (fun k k1 k2 => by rw [ho k (by omega), hk k (by omega) (by omega)])
    · rw [st_eq]
      refine hS.congr (by omega) (hE2.trans (EQ_of (fun k k1 k2 => ho k (by omega)))) (fun y hy => by rw [ho 4 (by decide)]; exact hzo y hy) (fun y y1 y2 => ?_)
      rw [hRm y y1 y2, hx, c2]
