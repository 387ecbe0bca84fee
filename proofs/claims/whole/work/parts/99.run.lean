/-! RUNS: the reference's layRuns; run -/
theorem A_blkN (d : Nat) {M N : am_M} {A c : Int → Int} {n : Int} (hR : M 505 = wc A (M 4)) (hJ : JX (am_st M 4 c) A n) (hN : N 505 = M 505) {v : Int} (hv : thS M v) {a : Int} (ha : 0 ≤ a ∧ a < 512) : am_m am_P (d + 3) j_Md_blockAt [am_r 6 504, am_i v, am_i a] N = some (some (am_i (blkS M v a)), N) := by
  obtain ⟨w, hw⟩ : ∃ w : Nat, v = (w : Int) := ⟨v.toNat, by have := hv.1; omega⟩
  subst hw
  rw [R_blockAt d hJ.1.pi hJ.1.rv ((th_st M c w).mpr hv) ha (hN.trans hR), blk_st]
def lsS (M : am_M) (v a : Int) : Int := if a = 0 then -1 else blkS M v (a - 1)
def lrS (M : am_M) (v i a : Int) (N : am_M) : am_M := if blkS M v a = -1 then N else if rstS M v a then (if rnS M v a.toNat = i then am_set (am_set (am_set (am_set N 504 17 a) 504 18 (blkS M v a)) 504 19 0) 504 19 1 else N) else if rnS M v a.toNat - 1 = i then am_set N 504 19 (am_wr (N 504 19 + 1)) else N
/-- what laying the runs leaves -/
def LYR (M N : am_M) : Prop := (∀ k : Nat, k ≠ 504 → N k = M k) ∧ ∀ j : Int, (j < 17 ∨ 19 < j) → N 504 j = M 504 j
theorem LR_set {M N : am_M} (h : LYR M N) {j : Int} (hj : 17 ≤ j ∧ j ≤ 19) (x : Int) : LYR M (am_set N 504 j x) := by
  refine ⟨fun k hk => by rw [set_ne _ _ _ hk]; exact h.1 k hk, fun i hi => ?_⟩
  rw [set_eq, up_ne _ _ (by omega)]
  exact h.2 i hi
theorem LR_lr {M N : am_M} (v i a : Int) (h : LYR M N) : LYR M (lrS M v i a N) := by
  unfold lrS
  split
  · exact h
  · split
    · split
      · exact LR_set (LR_set (LR_set (LR_set h (by omega) _) (by omega) _) (by omega) _) (by omega) _
      · exact h
    · split
      · exact LR_set h (by omega) _
      · exact h
theorem rn_s (M : am_M) (v : Int) {a : Int} (ha : 0 ≤ a) : rnS M v (a + 1).toNat = rnS M v a.toNat + (if rstS M v a then 1 else 0) := by
  rw [show (a + 1).toNat = a.toNat + 1 by omega]
  show rnS M v a.toNat + (if rstS M v (a.toNat : Int) then 1 else 0) = _
  rw [show ((a.toNat : Nat) : Int) = a by omega]
theorem lr_step (d : Nat) {M N : am_M} {A c : Int → Int} {n : Int} (hR : M 505 = wc A (M 4)) (hJ : JX (am_st M 4 c) A n) (hN : N 505 = M 505) {v : Int} (hv : thS M v) {i : Int} {a : Int} (ha : 0 ≤ a ∧ a < 512) : am_at am_P (d + 3) j_Md_layRuns 8 [am_r 6 504, am_i v, am_i i, am_i (rnS M v a.toNat), am_i (lsS M v a), am_i a, am_u] [] N = am_at am_P (d + 3) j_Md_layRuns 8 [am_r 6 504, am_i v, am_i i, am_i (rnS M v (a + 1).toNat), am_i (lsS M v (a + 1)), am_i (a + 1), am_u] [] (lrS M v i a N) := by
  have hb := rn_bd M v a.toNat
  have e1 : lsS M v (a + 1) = blkS M v a := by unfold lsS; rw [if_neg (by omega), show a + 1 - 1 = a by omega]
  have e3 : ∀ (P Q : am_M), P = Q → am_at am_P (d + 3) j_Md_layRuns 8 [am_r 6 504, am_i v, am_i i, am_i (rnS M v a.toNat + 1), am_i (blkS M v a), am_i (a + 1), am_u] [] P = am_at am_P (d + 3) j_Md_layRuns 8 [am_r 6 504, am_i v, am_i i, am_i (rnS M v a.toNat + 1), am_i (blkS M v a), am_i (a + 1), am_u] [] Q := fun P Q h => by rw [h]
  rw [E_Md_layRuns_8, if_pos (by omega), A_blkN d hR hJ hN hv ha, bI_some, v_eq, rn_s M v ha.1, e1, wr_id (z := a + 1) (by omega) (by omega)]
  by_cases h0 : blkS M v a = -1
  · rw [show lrS M v i a N = N by unfold lrS; rw [if_pos h0], if_pos h0, if_pos h0, if_neg (fun q => q.1 h0), v_eq, v_eq, Int.add_zero]
  · rw [if_neg h0]
    by_cases hs : rstS M v a
    · rw [show lrS M v i a N = (if rnS M v a.toNat = i then am_set (am_set (am_set (am_set N 504 17 a) 504 18 (blkS M v a)) 504 19 0) 504 19 1 else N) by unfold lrS; rw [if_neg h0, if_pos hs], if_pos hs]
      by_cases h1 : lsS M v a = -1
      · rw [if_pos h1]
        rw [v_eq, wr_id (z := rnS M v a.toNat + 1) (by omega) (by omega), wr_id (z := rnS M v a.toNat + 1 - 1) (by omega) (by omega), show rnS M v a.toNat + 1 - 1 = rnS M v a.toNat by omega]
        by_cases hi : rnS M v a.toNat = i
        · rw [if_pos hi, if_pos hi, w_eq, w_eq, w_eq, if_neg h0, if_pos hi, w_eq, v_eq, v_eq]
          refine e3 _ _ ?_
          rw [set_eq (am_set (am_set N 504 17 a) 504 18 (blkS M v a)), up_eq]
          rfl
        · rw [if_neg hi, if_neg hi, if_neg h0, if_neg hi, v_eq, v_eq]
      · rw [if_neg h1]
        have h2 : ¬ blkS M v a = am_wr (lsS M v a + 1) := by
          intro q
          rcases hs.2 with r | r | r
          · exact h1 (by unfold lsS; rw [if_pos r])
          · by_cases r0 : a = 0
            · exact h1 (by unfold lsS; rw [if_pos r0])
            · exact h1 (by unfold lsS; rw [if_neg r0]; exact r)
          · by_cases r0 : a = 0
            · exact h1 (by unfold lsS; rw [if_pos r0])
            · refine r ?_
              rw [q]
              unfold lsS
              rw [if_neg r0]
        rw [if_neg h2]
        rw [v_eq, wr_id (z := rnS M v a.toNat + 1) (by omega) (by omega), wr_id (z := rnS M v a.toNat + 1 - 1) (by omega) (by omega), show rnS M v a.toNat + 1 - 1 = rnS M v a.toNat by omega]
        by_cases hi : rnS M v a.toNat = i
        · rw [if_pos hi, if_pos hi, w_eq, w_eq, w_eq, if_neg h0, if_pos hi, w_eq, v_eq, v_eq]
          refine e3 _ _ ?_
          rw [set_eq (am_set (am_set N 504 17 a) 504 18 (blkS M v a)), up_eq]
          rfl
        · rw [if_neg hi, if_neg hi, if_neg h0, if_neg hi, v_eq, v_eq]
    · rw [show lrS M v i a N = (if rnS M v a.toNat - 1 = i then am_set N 504 19 (am_wr (N 504 19 + 1)) else N) by unfold lrS; rw [if_neg h0, if_neg hs], if_neg hs]
      have hn0 : ¬ a = 0 := fun q => hs ⟨h0, Or.inl q⟩
      have hl : lsS M v a = blkS M v (a - 1) := by unfold lsS; rw [if_neg hn0]
      have h1 : ¬ lsS M v a = -1 := fun q => hs ⟨h0, Or.inr (Or.inl (by rw [← hl]; exact q))⟩
      have h2 : blkS M v a = am_wr (lsS M v a + 1) := by
        by_cases q : am_wr (blkS M v (a - 1) + 1) = blkS M v a
        · rw [hl]; exact q.symm
        · exact absurd ⟨h0, Or.inr (Or.inr q)⟩ hs
      rw [if_neg h1, if_pos h2, if_neg h0, wr_id (z := rnS M v a.toNat - 1) (by omega) (by omega), Int.add_zero]
      by_cases hi : rnS M v a.toNat - 1 = i
      · rw [if_pos hi, if_pos hi, w_eq, v_eq, v_eq]
      · rw [if_neg hi, if_neg hi, v_eq, v_eq]
theorem S_Md_layRuns (d : Nat) {M : am_M} {A c : Int → Int} {n : Int} (hR : M 505 = wc A (M 4)) (hJ : JX (am_st M 4 c) A n) {v : Int} (hv : thS M v) (i : Int) (P : Int → am_M → Prop) (hP0 : P 0 M) (hPs : ∀ (a : Int) (N : am_M), 0 ≤ a → a < 512 → LYR M N → P a N → P (a + 1) (lrS M v i a N)) : ∃ N, am_m am_P (d + 4) j_Md_layRuns [am_r 6 504, am_i v, am_i i] M = some (some (am_i (rnS M v 512)), N) ∧ LYR M N ∧ P 512 N := by
  have hX : am_m am_P (d + 4) j_Md_layRuns [am_r 6 504, am_i v, am_i i] M = am_at am_P (d + 3) j_Md_layRuns 0 [am_r 6 504, am_i v, am_i i, am_u, am_u, am_u, am_u] [] M := rfl
  rw [hX, E_Md_layRuns_0, v_eq, v_eq, v_eq]
  have key := lp_itP (F := fun a N => am_at am_P (d + 3) j_Md_layRuns 8 [am_r 6 504, am_i v, am_i i, am_i (rnS M v a.toNat), am_i (lsS M v a), am_i a, am_u] [] N) (b := fun a N => lrS M v i a N) (r := fun N => some (some (am_i (rnS M v 512)), N)) (fun a N => LYR M N ∧ P a N) 512 0 M ⟨⟨fun k _ => rfl, fun j _ => rfl⟩, hP0⟩ ?_ ?_
  · generalize itS (fun a N => lrS M v i a N) 512 0 M = N at key
    exact ⟨N, key.1, key.2.1, key.2.2⟩
  · rintro N -
    (try dsimp only)
    rw [E_Md_layRuns_8, if_neg (by omega)]
    rfl
  · rintro a N h1 h2 ⟨h3, h4⟩
    (try dsimp only)
    exact ⟨lr_step d hR hJ (h3.1 505 (by decide)) hv ⟨h1, by omega⟩, LR_lr v i a h3, hPs a N h1 (by omega) h3 h4⟩
theorem rn_mo (M : am_M) (v : Int) (s : Int) (hs : 0 ≤ s) : ∀ k : Nat, rnS M v s.toNat ≤ rnS M v (s + k).toNat
  | 0 => by rw [show s + ((0 : Nat) : Int) = s by omega]; exact Int.le_refl _
  | k + 1 => by
    have h1 := rn_mo M v s hs k
    have h2 := rn_s M v (a := s + k) (by omega)
    rw [show s + ((k + 1 : Nat) : Int) = s + k + 1 by omega, h2]
    split <;> omega
theorem rn_le (M : am_M) (v : Int) {s a : Int} (hs : 0 ≤ s) (ha : s ≤ a) : rnS M v s.toNat ≤ rnS M v a.toNat := by
  have := rn_mo M v s hs (a - s).toNat
  rwa [show s + ((a - s).toNat : Int) = a by omega] at this
theorem rn_eq (M : am_M) (v : Int) {s : Int} (hs : 0 ≤ s) : ∀ k : Nat, (∀ e : Int, s ≤ e → e < s + k → ¬ rstS M v e) → rnS M v (s + k).toNat = rnS M v s.toNat
  | 0, _ => by rw [show s + ((0 : Nat) : Int) = s by omega]
  | k + 1, h => by
    have h1 := rn_eq M v hs k (fun e h1 h2 => h e h1 (by omega))
    have h2 := rn_s M v (a := s + k) (by omega)
    rw [if_neg (h (s + k) (by omega) (by omega))] at h2
    rw [show s + ((k + 1 : Nat) : Int) = s + k + 1 by omega, h2, h1, Int.add_zero]
theorem rn_ex (M : am_M) (v : Int) {p : Int} (hp : 0 ≤ p) (h0 : blkS M v p = -1) : ∀ (k : Nat), blkS M v (p + k) ≠ -1 → ∃ e : Int, p < e ∧ e ≤ p + k ∧ rstS M v e
  | 0, h => absurd (by rw [show p + ((0 : Nat) : Int) = p by omega]; exact h0) h
  | k + 1, h => by
    by_cases hs : rstS M v (p + ((k + 1 : Nat) : Int))
    · exact ⟨_, by omega, by omega, hs⟩
    · have h1 : blkS M v (p + k) ≠ -1 := by
        intro q
        exact hs ⟨h, Or.inr (Or.inl (by rw [show p + ((k + 1 : Nat) : Int) - 1 = p + k by omega]; exact q))⟩
      obtain ⟨e, e1, e2, e3⟩ := rn_ex M v hp h0 k h1
      exact ⟨e, e1, by omega, e3⟩
/-- the run that is looked for, as far as it is laid -/
def LRQ (M : am_M) (v s a : Int) (N : am_M) : Prop := N 504 17 = s ∧ N 504 18 = blkS M v s ∧ 1 ≤ N 504 19 ∧ s + N 504 19 ≤ a ∧ (∀ e : Int, s < e → e < s + N 504 19 → ¬ rstS M v e ∧ blkS M v e ≠ -1) ∧ (s + N 504 19 < a → blkS M v (s + N 504 19) = -1 ∨ rstS M v (s + N 504 19))
def LRP (M : am_M) (v i a : Int) (N : am_M) : Prop := ∀ s : Int, 0 ≤ s → s < a → rstS M v s → rnS M v s.toNat = i → LRQ M v s a N
theorem LRP_step {M N : am_M} {v i a : Int} (ha : 0 ≤ a ∧ a < 512) (h : LRP M v i a N) : LRP M v i (a + 1) (lrS M v i a N) := by
  intro s h0 h1 h2 h3
  by_cases hsa : s = a
  · subst hsa
    have e : lrS M v i s N = am_set (am_set (am_set (am_set N 504 17 s) 504 18 (blkS M v s)) 504 19 0) 504 19 1 := by
      unfold lrS; rw [if_neg h2.1, if_pos h2, if_pos h3]
    have e17 : lrS M v i s N 504 17 = s := by rw [e, set_eq, up_ne _ _ (by decide), set_eq, up_ne _ _ (by decide), set_eq, up_ne _ _ (by decide), set_eq, up_eq]
    have e18 : lrS M v i s N 504 18 = blkS M v s := by rw [e, set_eq, up_ne _ _ (by decide), set_eq, up_ne _ _ (by decide), set_eq, up_eq]
    have e19 : lrS M v i s N 504 19 = 1 := by rw [e, set_eq, up_eq]
    unfold LRQ
    rw [e17, e18, e19]
    exact ⟨rfl, rfl, by omega, by omega, fun e h4 h5 => by omega, fun q => by omega⟩
  · obtain ⟨g1, g2, g3, g4, g5, g6⟩ := h s h0 (by omega) h2 h3
    have hs1 := rn_s M v h0
    rw [if_pos h2, h3] at hs1
    have hle := rn_le M v (s := s + 1) (a := a) (by omega) (by omega)
    have nochange : lrS M v i a N = N → (s + N 504 19 = a → blkS M v a = -1 ∨ rstS M v a) → LRQ M v s (a + 1) (lrS M v i a N) := fun q r => by
      rw [q]
      exact ⟨g1, g2, g3, by omega, g5, fun q => by
        by_cases hq : s + N 504 19 = a
        · rw [hq]; exact r hq
        · exact g6 (by omega)⟩
    by_cases hb : blkS M v a = -1
    · exact nochange (by unfold lrS; rw [if_pos hb]) (fun _ => Or.inl hb)
    · by_cases hr : rstS M v a
      · exact nochange (by unfold lrS; rw [if_neg hb, if_pos hr, if_neg (by omega)]) (fun _ => Or.inr hr)
      · by_cases hq : s + N 504 19 = a
        · have hne : rnS M v a.toNat = i + 1 := by
            have := rn_eq M v (s := s + 1) (by omega) (a - (s + 1)).toNat (fun e h4 h5 => (g5 e (by omega) (by omega)).1)
            rw [show s + 1 + ((a - (s + 1)).toNat : Int) = a by omega] at this
            omega
          have e : lrS M v i a N = am_set N 504 19 (N 504 19 + 1) := by
            unfold lrS; rw [if_neg hb, if_neg hr, if_pos (by omega), wr_id (by omega) (by omega)]
          have e17 : lrS M v i a N 504 17 = s := by rw [e, set_eq, up_ne _ _ (by decide)]; exact g1
          have e18 : lrS M v i a N 504 18 = blkS M v s := by rw [e, set_eq, up_ne _ _ (by decide)]; exact g2
          have e19 : lrS M v i a N 504 19 = N 504 19 + 1 := by rw [e, set_eq, up_eq]
          unfold LRQ
          rw [e17, e18, e19]
          refine ⟨rfl, rfl, by omega, by omega, fun e h4 h5 => ?_, fun q => by omega⟩
          by_cases he : e = a
          · subst he; exact ⟨hr, hb⟩
          · exact g5 e h4 (by omega)
        · refine nochange ?_ (fun q => absurd q hq)
          have hge : i + 2 ≤ rnS M v a.toNat := by
            obtain ⟨e, e1, e2, e3⟩ : ∃ e : Int, s < e ∧ e < a ∧ rstS M v e := by
              rcases g6 (by omega) with q | q
              · obtain ⟨e, e1, e2, e3⟩ := rn_ex M v (p := s + N 504 19) (by omega) q (a - (s + N 504 19)).toNat (by rw [show s + N 504 19 + ((a - (s + N 504 19)).toNat : Int) = a by omega]; exact hb)
                refine ⟨e, by omega, ?_, e3⟩
                by_cases he : e = a
                · subst he; exact absurd e3 hr
                · omega
              · exact ⟨_, by omega, by omega, q⟩
            have k1 := rn_s M v (a := e) (by omega)
            rw [if_pos e3] at k1
            have k2 := rn_le M v (s := s + 1) (a := e) (by omega) (by omega)
            have k3 := rn_le M v (s := e + 1) (a := a) (by omega) (by omega)
            omega
          unfold lrS; rw [if_neg hb, if_neg hr, if_neg (by omega)]
theorem RF_LR {M N : am_M} (h : LYR M N) : RF M N := ⟨fun k hk => h.1 k (by omega), h.2 13 (by omega), h.2 16 (by omega)⟩
/-- the i-th run's start, over all addresses -/
theorem rn_iv (M : am_M) (v i : Int) (hi : 0 ≤ i) : ∀ k : Nat, i < rnS M v k → ∃ s : Int, 0 ≤ s ∧ s < k ∧ rstS M v s ∧ rnS M v s.toNat = i
  | 0, h => by have : rnS M v 0 = 0 := rfl; omega
  | k + 1, h => by
    have h1 : rnS M v (k + 1) = rnS M v k + (if rstS M v (k : Int) then 1 else 0) := rfl
    by_cases hk : i < rnS M v k
    · obtain ⟨s, a1, a2, a3⟩ := rn_iv M v i hi k hk
      exact ⟨s, a1, by omega, a3⟩
    · by_cases hr : rstS M v (k : Int)
      · rw [if_pos hr] at h1
        exact ⟨k, by omega, by omega, hr, by rw [Int.toNat_natCast]; omega⟩
      · rw [if_neg hr] at h1; omega
theorem J_run (d : Nat) {M : am_M} {n : Int} (hG : GR M n) (v i w : Int) : AG M (n + 1) (am_m am_P (d + 20) j_Tv_run [am_r 5 0, am_i v, am_i i, am_i w] M) (am_m am_P (d + 20) j_Md_run [am_r 6 504, am_i v, am_i i, am_i w]) := by
  have hX : am_m am_P (d + 20) j_Tv_run [am_r 5 0, am_i v, am_i i, am_i w] M = am_at am_P (d + 19) j_Tv_run 0 [am_r 5 0, am_i v, am_i i, am_i w, am_u] [] M := rfl
  have hY : am_m am_P (d + 20) j_Md_run [am_r 6 504, am_i v, am_i i, am_i w] M = am_at am_P (d + 19) j_Md_run 0 [am_r 6 504, am_i v, am_i i, am_i w] [] M := rfl
  obtain ⟨A, c, hR, hJ, hP⟩ := hG.sr
  obtain ⟨u1, u2, u3⟩ := hJ.un
  by_cases hv : thS M v
  rotate_left
  · refine AG.same hG (a := am_i (-1)) ?_ ?_
    · rw [hX, E_Tv_run_0]
      simp only [Nat.reduceAdd]
      rw [S_St_isThere, bI_some, b2_f hv, if_pos rfl]
    · rw [hY, E_Md_run_0, R_isVol (d + 17) u3 hR, bI_some, b2_f hv, if_pos rfl]
  have hs := (u3.2 v hv.1 hv.2.1).1
  by_cases hi : i < 0
  · refine AG.same hG (a := am_i (-1)) ?_ ?_
    · rw [hX, E_Tv_run_0]
      simp only [Nat.reduceAdd]
      rw [S_St_isThere, bI_some, b2_t hv, if_neg (by decide), if_pos hi]
    · rw [hY, E_Md_run_0, R_isVol (d + 17) u3 hR, bI_some, b2_t hv, if_neg (by decide), if_pos hi]
  have hX1 : am_m am_P (d + 20) j_Tv_run [am_r 5 0, am_i v, am_i i, am_i w] M = (if rsaS M v i = (-1) then (some (some (am_i (-1)), M)) else (if w = 0 then (some (some (am_i (rsaS M v i)), M)) else if w = 1 then (am_bI (am_m am_P (d + 19) j_St_blockAt [am_r 4 1, am_i v, am_i (rsaS M v i)] M) fun x7 M6 => some (some (am_i x7), M6)) else if w = 2 then (am_bI (am_m am_P (d + 19) j_St_runLength [am_r 4 1, am_i v, am_i (rsaS M v i)] M) fun x9 M8 => some (some (am_i x9), M8)) else (some (some (am_i (-1)), M)))) := by
    rw [hX, E_Tv_run_0]
    simp only [Nat.reduceAdd]
    rw [S_St_isThere, bI_some, b2_t hv, if_neg (by decide), if_neg hi, S_St_runStart (d + 14) i M hv hs.2.1, bI_some, v_eq]
  by_cases hw : 0 ≤ w ∧ w ≤ 2
  rotate_left
  · refine AG.same hG (a := am_i (-1)) ?_ ?_
    · rw [hX1]
      by_cases h : rsaS M v i = -1
      · rw [if_pos h]
      · rw [if_neg h, if_neg (by omega), if_neg (by omega), if_neg (by omega)]
    · rw [hY, E_Md_run_0, R_isVol (d + 17) u3 hR, bI_some, b2_t hv, if_neg (by decide), if_neg hi, S_Md_isIn, bI_some, b2_f hw, if_pos rfl]
  obtain ⟨N, hN1, hN2, hN3⟩ := S_Md_layRuns (d + 15) hR hJ hv i (LRP M v i) (fun s h1 h2 => by omega) (fun a N h1 h2 _ h4 => LRP_step ⟨h1, h2⟩ h4)
  have hYN : am_m am_P (d + 20) j_Md_run [am_r 6 504, am_i v, am_i i, am_i w] M = (if i < rnS M v 512 then (if w = 0 then (some (some (am_i (N 504 17)), N)) else (if w = 1 then (some (some (am_i (N 504 18)), N)) else (some (some (am_i (N 504 19)), N)))) else (some (some (am_i (-1)), N))) := by
    rw [hY, E_Md_run_0, R_isVol (d + 17) u3 hR, bI_some, b2_t hv, if_neg (by decide), if_neg hi, S_Md_isIn, bI_some, b2_t hw, if_neg (by decide), hN1, bI_some]
  obtain ⟨r1, r2⟩ := RF.gr (n' := n + 1) hG (by omega) (fun k hk => rfl) (RF_LR hN2)
  by_cases hlt : i < rnS M v 512
  · obtain ⟨s, s1, s2, s3, s4⟩ := rn_iv M v i (by omega) 512 hlt
    obtain ⟨g1, g2, g3, g4, g5, g6⟩ := hN3 s s1 s2 s3 s4
    have hsz : s < M 7 v := by
      by_cases h : s < M 7 v
      · exact h
      · exact absurd (mp_sz hJ hv (by omega) s2) s3.1
    have hrs : rsaS M v i = s := by
      unfold rsaS
      rcases fd_spec (p := fun a => rstS M v a ∧ rnS M v a.toNat = i) (dp := fun _ => inferInstance) (M 7 v).toNat 0 with ⟨_, e⟩ | ⟨e1, e2, e3, e4⟩
      · exact absurd ⟨s3, s4⟩ (e s s1 (by omega))
      · generalize fd (fun a => rstS M v a ∧ rnS M v a.toNat = i) (fun _ => inferInstance) 0 (M 7 v).toNat = z at e1 e2 e3 e4 ⊢
        (try dsimp only at e3 e4)
        rcases (show z < s ∨ z = s ∨ s < z by omega) with h | h | h
        · have k1 := rn_s M v e1
          rw [if_pos e3.1] at k1
          have k2 := rn_le M v (s := z + 1) (a := s) (by omega) (by omega)
          omega
        · exact h
        · exact absurd ⟨s3, s4⟩ (e4 s s1 h)
    have hrl : rlS M v s = N 504 19 := by
      unfold rlS
      have hle : s + N 504 19 ≤ M 7 v := by
        by_cases h : s + N 504 19 ≤ M 7 v
        · exact h
        · exact absurd (mp_sz hJ hv (Int.le_refl _) (by omega)) (g5 (M 7 v) hsz (by omega)).2
      unfold reS
      rcases fd_spec (p := fun a => blkS M v a = -1 ∨ rstS M v a) (dp := fun _ => inferInstance) (M 7 v - (s + 1)).toNat (s + 1) with ⟨e, e'⟩ | ⟨e1, e2, e3, e4⟩
      · rw [e, if_pos rfl]
        by_cases h : s + N 504 19 = M 7 v
        · omega
        · exact absurd (g6 (by omega)) (e' _ (by omega) (by omega))
      · generalize fd (fun a => blkS M v a = -1 ∨ rstS M v a) (fun _ => inferInstance) (s + 1) (M 7 v - (s + 1)).toNat = z at e1 e2 e3 e4 ⊢
        rw [if_neg (by omega)]
        (try dsimp only at e3 e4)
        rcases (show z < s + N 504 19 ∨ z = s + N 504 19 ∨ s + N 504 19 < z by omega) with h | h | h
        · have := g5 z (by omega) h
          rcases e3 with q | q
          · exact absurd q this.2
          · exact absurd q this.1
        · omega
        · exact absurd (g6 (by omega)) (e4 _ (by omega) h)
    have h3 : s ≠ -1 := by omega
    rw [hrs, if_neg h3] at hX1
    rcases (show w = 0 ∨ w = 1 ∨ w = 2 by omega) with rfl | rfl | rfl
    · refine ⟨am_i s, M, N, ?_, ?_, r1, r2⟩
      · rw [hX1, if_pos rfl]
      · rw [hYN, if_pos hlt, if_pos rfl, g1]
    · refine ⟨am_i (blkS M v s), M, N, ?_, ?_, r1, r2⟩
      · rw [hX1, if_neg (by decide), if_pos rfl, S_St_blockAt, bI_some]
      · rw [hYN, if_pos hlt, if_neg (by decide), if_pos rfl, g2]
    · refine ⟨am_i (rlS M v s), M, N, ?_, ?_, r1, r2⟩
      · rw [hX1, if_neg (by decide), if_neg (by decide), if_pos rfl, S_St_runLength (d + 14) M hv hs.2.1 ⟨s1, hsz⟩, bI_some]
      · rw [hYN, if_pos hlt, if_neg (by decide), if_neg (by decide), hrl]
  · refine ⟨am_i (-1), M, N, ?_, ?_, r1, r2⟩
    · rw [hX1, if_pos]
      unfold rsaS
      rcases fd_spec (p := fun a => rstS M v a ∧ rnS M v a.toNat = i) (dp := fun _ => inferInstance) (M 7 v).toNat 0 with ⟨e, _⟩ | ⟨e1, e2, e3, e4⟩
      · exact e
      · exfalso
        generalize fd (fun a => rstS M v a ∧ rnS M v a.toNat = i) (fun _ => inferInstance) 0 (M 7 v).toNat = z at e1 e2 e3 e4
        (try dsimp only at e3)
        have k1 := rn_s M v e1
        rw [if_pos e3.1] at k1
        have k2 := rn_le M v (s := z + 1) (a := 512) (by omega) (by omega)
        rw [show (512 : Int).toNat = 512 from rfl] at k2
        omega
    · rw [hYN, if_neg hlt]
