/-! TOLD: differs, walked, changed, send: both sides -/
theorem lp_ex {F : Int → am_M → Option am_O} {r : am_M → Option am_O} (P : Int → am_M → Prop) : ∀ (n : Nat) (a : Int) (N : am_M), P a N → (∀ N, P (a + n) N → F (a + n) N = r N) → (∀ (i : Int) (N : am_M), a ≤ i → i < a + n → P i N → ∃ N', F i N = F (i + 1) N' ∧ P (i + 1) N') → ∃ N', F a N = r N' ∧ P (a + n) N'
  | 0, a, N, h0, hend, _ => by
    have h1 : P (a + ((0 : Nat) : Int)) N := by simpa using h0
    exact ⟨N, by simpa using hend N h1, h1⟩
  | n + 1, a, N, h0, hend, hstep => by
    obtain ⟨N1, h1, h2⟩ := hstep a N (by omega) (by omega) h0
    have e : a + 1 + (n : Int) = a + ((n + 1 : Nat) : Int) := by omega
    obtain ⟨N2, h3, h4⟩ := lp_ex (F := F) (r := r) P n (a + 1) N1 h2 (fun N hN => by rw [e] at hN ⊢; exact hend N hN) (fun i N h3 h4 => hstep i N (by omega) (by omega))
    rw [e] at h4
    exact ⟨N2, h1.trans h3, h4⟩
theorem vat_eq {M M1 : am_M} (h : ∀ k : Nat, k ≤ 14 → M1 k = M k) (v a : Int) : vatS M1 v a = vatS M v a ∧ blkS M1 v a = blkS M v a := by
  have e : blkS M1 v a = blkS M v a := by
    unfold blkS thgS bkS lfS twS thS
    simp only [h 6 (by omega), h 7 (by omega), h 10 (by omega)]
  refine ⟨?_, e⟩
  unfold vatS
  rw [e, h 3 (by omega)]
theorem N_read (d : Nat) {M : am_M} {A c c' : Int → Int} {n : Int} (hJ : JX (am_st M 4 c) A n) {v : Int} (hv : thS M v) {a : Int} (ha : 0 ≤ a ∧ a < 512) {N : am_M} (hN : N 505 = wc A c') : am_m am_P (d + 4) j_Md_readAt [am_r 6 504, am_i v, am_i a] N = some (some (am_i (vatS M v a)), N) := by
  obtain ⟨w, hw⟩ : ∃ w : Nat, v = (w : Int) := ⟨v.toNat, by have := hv.1; omega⟩
  subst hw
  rw [R_readAt d hJ.1.pi hJ.1.rv hJ.1.rb ((th_st M c w).mpr hv) ha hN, vat_st]
theorem N_blk (d : Nat) {M : am_M} {A c c' : Int → Int} {n : Int} (hJ : JX (am_st M 4 c) A n) {v : Int} (hv : thS M v) {a : Int} (ha : 0 ≤ a ∧ a < 512) {N : am_M} (hN : N 505 = wc A c') : am_m am_P (d + 3) j_Md_blockAt [am_r 6 504, am_i v, am_i a] N = some (some (am_i (blkS M v a)), N) := by
  obtain ⟨w, hw⟩ : ∃ w : Nat, v = (w : Int) := ⟨v.toNat, by have := hv.1; omega⟩
  subst hw
  rw [R_blockAt d hJ.1.pi hJ.1.rv ((th_st M c w).mpr hv) ha hN, blk_st]
theorem DR.gr {M M1 N : am_M} {n n' x w : Int} (hG : GR M n) (hn : n ≤ n') (hM : ∀ k : Nat, k ≠ 501 → k ≠ 502 → M1 k = M k) (h : DR M M1 M1 N x w) : GR N n' ∧ ∀ k : Nat, 517 ≤ k → N k = M k := by
  obtain ⟨h1, h2, h3, -⟩ := h
  have e : ∀ k : Nat, k ≠ 501 → k ≠ 502 → k ≠ 504 → k ≠ 512 → N k = M k := fun k a1 a2 a3 a4 => by rw [h2 k a3 a4, hM k a1 a2]
  refine ⟨hG.same hn (fun k hk => e k (by omega) (by omega) (by omega) (by omega)) (e 505 (by decide) (by decide) (by decide) (by decide)) (e 506 (by decide) (by decide) (by decide) (by decide)) ?_ ?_ (fun k k1 k2 => e k (by omega) (by omega) (by omega) (by omega)), fun k hk => e k (by omega) (by omega) (by omega) (by omega)⟩
  · rw [h3 13 (by decide) (by decide), hM 504 (by decide) (by decide)]
  · rw [h3 16 (by decide) (by decide), hM 504 (by decide) (by decide)]
/-- both looked -/
theorem look_both (d : Nat) {M : am_M} {A c : Int → Int} {n : Int} (hR : M 505 = wc A (M 4)) (hJ : JX (am_st M 4 c) A n) {v w : Int} (hv : thS M v) (hw : thS M w) : ∃ M1 N1 : am_M, (∀ e : Nat, am_m am_P (e + 6) j_Df_look [am_r 0 501, am_r 4 1, am_i v, am_i w] M = some (none, M1)) ∧ (∀ k : Nat, k ≠ 501 → k ≠ 502 → M1 k = M k) ∧ am_m am_P (d + 6) j_Md_layDifference [am_r 6 504, am_i v, am_i w] M1 = some (none, N1) ∧ DR M M1 M1 N1 512 73 := by
  obtain ⟨_, _, hD0⟩ := dr_look d hJ hv hw hR
  have h5 : lkdS M v w 505 = wc A (M 4) := by rw [hD0.1 505 (by decide) (by decide)]; exact hR
  obtain ⟨N1, f1, f2⟩ := dr_look d hJ hv hw h5
  exact ⟨lkdS M v w, N1, fun e => S_Df_look e M hv hw, hD0.1, f1, f2⟩
theorem J_walked (d : Nat) {M : am_M} {n : Int} (hG : GR M n) (v w : Int) : AG M (n + 1) (am_m am_P (d + 20) j_Tv_walked [am_r 5 0, am_i v, am_i w] M) (am_m am_P (d + 20) j_Md_walked [am_r 6 504, am_i v, am_i w]) := by
  have hX : am_m am_P (d + 20) j_Tv_walked [am_r 5 0, am_i v, am_i w] M = am_at am_P (d + 19) j_Tv_walked 0 [am_r 5 0, am_i v, am_i w] [] M := rfl
  have hY : ∀ N, am_m am_P (d + 20) j_Md_walked [am_r 6 504, am_i v, am_i w] N = am_at am_P (d + 19) j_Md_walked 0 [am_r 6 504, am_i v, am_i w] [] N := fun _ => rfl
  obtain ⟨A, c, hR, hJ, hP⟩ := hG.sr
  obtain ⟨u1, u2, u3⟩ := hJ.un
  by_cases hvw : thS M v ∧ thS M w
  · obtain ⟨M1, N1, g1, g2, g3, g4⟩ := look_both (d + 13) hR hJ hvw.1 hvw.2
    obtain ⟨r1, r2⟩ := DR.gr (n' := n + 1) hG (by omega) g2 g4
    have h5 : M1 505 = wc A (M 4) := by rw [g2 505 (by decide) (by decide)]; exact hR
    refine ⟨am_i (M1 501 2), M1, N1, ?_, ?_, r1, r2⟩
    · rw [hX, E_Tv_walked_0]
      simp only [Nat.reduceAdd]
      rw [S_St_isThere, bI_some, b2_t hvw.1, if_neg (by decide), S_St_isThere, bI_some, b2_t hvw.2, if_neg (by decide), g1 (d + 13), bV_some]
    · rw [hY, E_Md_walked_0, R_areVols (d + 16) u3 h5, bI_some, b2_t hvw, if_neg (by decide), g3, bV_some, g4.2.2.2.2.2.1]
  · refine AG.same hG (a := am_i (-1)) ?_ ?_
    · rw [hX, E_Tv_walked_0]
      simp only [Nat.reduceAdd]
      rw [S_St_isThere, bI_some]
      by_cases h1 : thS M v
      · rw [b2_t h1, if_neg (by decide), S_St_isThere, bI_some, b2_f (fun q => hvw ⟨h1, q⟩), if_pos rfl]
      · rw [b2_f h1, if_pos rfl]
    · rw [hY, E_Md_walked_0, R_areVols (d + 16) u3 hR, bI_some, b2_f hvw, if_pos rfl]
theorem J_differs (d : Nat) {M : am_M} {n : Int} (hG : GR M n) (v w i : Int) : AG M (n + 1) (am_m am_P (d + 20) j_Tv_differs [am_r 5 0, am_i v, am_i w, am_i i] M) (am_m am_P (d + 20) j_Md_differs [am_r 6 504, am_i v, am_i w, am_i i]) := by
  have hX : am_m am_P (d + 20) j_Tv_differs [am_r 5 0, am_i v, am_i w, am_i i] M = am_at am_P (d + 19) j_Tv_differs 0 [am_r 5 0, am_i v, am_i w, am_i i] [] M := rfl
  have hY : ∀ N, am_m am_P (d + 20) j_Md_differs [am_r 6 504, am_i v, am_i w, am_i i] N = am_at am_P (d + 19) j_Md_differs 0 [am_r 6 504, am_i v, am_i w, am_i i] [] N := fun _ => rfl
  obtain ⟨A, c, hR, hJ, hP⟩ := hG.sr
  obtain ⟨u1, u2, u3⟩ := hJ.un
  by_cases hvw : thS M v ∧ thS M w
  · obtain ⟨M1, N1, g1, g2, g3, g4⟩ := look_both (d + 13) hR hJ hvw.1 hvw.2
    obtain ⟨r1, r2⟩ := DR.gr (n' := n + 1) hG (by omega) g2 g4
    have h5 : M1 505 = wc A (M 4) := by rw [g2 505 (by decide) (by decide)]; exact hR
    obtain ⟨-, -, -, q4, q5, -, -, q8⟩ := g4
    refine ⟨am_i (if i = -1 then M1 501 1 else aaS M1 i), M1, N1, ?_, ?_, r1, r2⟩
    · rw [hX, E_Tv_differs_0]
      simp only [Nat.reduceAdd]
      rw [S_St_isThere, bI_some, b2_t hvw.1, if_neg (by decide), S_St_isThere, bI_some, b2_t hvw.2, if_neg (by decide), g1 (d + 13), bV_some]
      by_cases hi : i = -1
      · rw [if_pos hi, if_pos hi]
      · rw [if_neg hi, if_neg hi, S_Df_addressAt (d + 18), bI_some]
    · rw [hY, E_Md_differs_0, R_areVols (d + 16) u3 h5, bI_some, b2_t hvw, if_neg (by decide), g3, bV_some, q4]
      by_cases hi : i = -1
      · rw [if_pos hi, if_pos hi]
      · rw [if_neg hi, if_neg hi, S_Md_isIn, bI_some, wr_id (by omega) (by omega)]
        simp only [Nat.reduceAdd]
        unfold aaS
        by_cases hc : 0 ≤ i ∧ i < M1 501 1
        · rw [b2_t ⟨hc.1, by omega⟩, if_neg (by decide), if_t (by omega), if_pos ⟨hc.1, hc.2, by omega⟩, (q8 i hc.1 hc.2).1]
        · rw [b2_f (fun q => hc ⟨q.1, by omega⟩), if_pos rfl, if_neg (fun q => hc ⟨q.1, q.2.1⟩)]
  · refine AG.same hG (a := am_i (-1)) ?_ ?_
    · rw [hX, E_Tv_differs_0]
      simp only [Nat.reduceAdd]
      rw [S_St_isThere, bI_some]
      by_cases h1 : thS M v
      · rw [b2_t h1, if_neg (by decide), S_St_isThere, bI_some, b2_f (fun q => hvw ⟨h1, q⟩), if_pos rfl]
      · rw [b2_f h1, if_pos rfl]
    · rw [hY, E_Md_differs_0, R_areVols (d + 16) u3 hR, bI_some, b2_f hvw, if_pos rfl]
theorem J_changed (d : Nat) {M : am_M} {n : Int} (hG : GR M n) (v w i : Int) : AG M (n + 1) (am_m am_P (d + 20) j_Tv_changed [am_r 5 0, am_i v, am_i w, am_i i] M) (am_m am_P (d + 20) j_Md_changed [am_r 6 504, am_i v, am_i w, am_i i]) := by
  have hX : am_m am_P (d + 20) j_Tv_changed [am_r 5 0, am_i v, am_i w, am_i i] M = am_at am_P (d + 19) j_Tv_changed 0 [am_r 5 0, am_i v, am_i w, am_i i, am_u, am_u, am_u] [] M := rfl
  have hY : ∀ N, am_m am_P (d + 20) j_Md_changed [am_r 6 504, am_i v, am_i w, am_i i] N = am_at am_P (d + 19) j_Md_changed 0 [am_r 6 504, am_i v, am_i w, am_i i, am_u, am_u] [] N := fun _ => rfl
  obtain ⟨A, c, hR, hJ, hP⟩ := hG.sr
  obtain ⟨u1, u2, u3⟩ := hJ.un
  by_cases hvw : thS M v ∧ thS M w
  · obtain ⟨M1, N1, g1, g2, g3, g4⟩ := look_both (d + 13) hR hJ hvw.1 hvw.2
    obtain ⟨r1, r2⟩ := DR.gr (n' := n + 1) hG (by omega) g2 g4
    have h5 : M1 505 = wc A (M 4) := by rw [g2 505 (by decide) (by decide)]; exact hR
    have h5' : N1 505 = wc A (M 4) := by rw [g4.2.1 505 (by decide) (by decide)]; exact h5
    have hM1 : ∀ k : Nat, k ≤ 14 → M1 k = M k := fun k hk => g2 k (by omega) (by omega)
    obtain ⟨-, -, -, q4, q5, -, -, q8⟩ := g4
    have key : ∀ (m : Nat) (f k : Int), 0 ≤ k → 0 ≤ f → f ≤ k → k + m = M1 501 1 → ∃ z : Int, am_at am_P (d + 19) j_Tv_changed 43 [am_r 5 0, am_i v, am_i w, am_i i, am_i f, am_i k, am_u] [] M1 = some (some (am_i z), M1) ∧ am_at am_P (d + 19) j_Md_changed 23 [am_r 6 504, am_i v, am_i w, am_i i, am_i f, am_i k] [] N1 = some (some (am_i z), N1) := by
      intro m
      induction m with
      | zero =>
        intro f k k0 f0 fk hk
        refine ⟨if i = -1 then f else -1, ?_, ?_⟩
        · rw [E_Tv_changed_43]
          simp only [Nat.reduceAdd]
          rw [if_neg (by omega)]
          split <;> rfl
        · rw [E_Md_changed_23, q4, if_neg (by omega)]
          split <;> rfl
      | succ m ih =>
        intro f k k0 f0 fk hk
        have hk1 : k < M1 501 1 := by omega
        obtain ⟨e1, e2, e3⟩ := q8 k k0 hk1
        have hc : am_at am_P (d + 19) j_Tv_changed 43 [am_r 5 0, am_i v, am_i w, am_i i, am_i f, am_i k, am_u] [] M1 = if vatS M v (M1 502 k) = vatS M w (M1 502 k) then am_at am_P (d + 19) j_Tv_changed 43 [am_r 5 0, am_i v, am_i w, am_i i, am_i f, am_i (k + 1), am_u] [] M1 else if f = i then some (some (am_i (M1 502 k)), M1) else am_at am_P (d + 19) j_Tv_changed 43 [am_r 5 0, am_i v, am_i w, am_i i, am_i (f + 1), am_i (k + 1), am_u] [] M1 := by
          rw [E_Tv_changed_43]
          simp only [Nat.reduceAdd]
          have ea : aaS M1 k = M1 502 k := if_pos ⟨k0, hk1, by omega⟩
          rw [if_pos hk1, S_Df_addressAt (d + 18), bI_some, v_eq, ea, S_St_valueAt (d + 15), bI_some, S_St_valueAt (d + 15), bI_some, v_eq, v_eq, v_eq, wr_id (z := k + 1) (by omega) (by omega), wr_id (z := f + 1) (by omega) (by omega), (vat_eq hM1 v _).1, (vat_eq hM1 w _).1]
        have hr : am_at am_P (d + 19) j_Md_changed 23 [am_r 6 504, am_i v, am_i w, am_i i, am_i f, am_i k] [] N1 = if vatS M v (M1 502 k) = vatS M w (M1 502 k) then am_at am_P (d + 19) j_Md_changed 23 [am_r 6 504, am_i v, am_i w, am_i i, am_i f, am_i (k + 1)] [] N1 else if f = i then some (some (am_i (M1 502 k)), N1) else am_at am_P (d + 19) j_Md_changed 23 [am_r 6 504, am_i v, am_i w, am_i i, am_i (f + 1), am_i (k + 1)] [] N1 := by
          rw [E_Md_changed_23]
          simp only [Nat.reduceAdd]
          rw [q4, if_pos hk1, if_t (by omega), e1, N_read (d + 15) hJ hvw.1 ⟨e2, e3⟩ h5', bI_some, if_t (by omega), e1, N_read (d + 15) hJ hvw.2 ⟨e2, e3⟩ h5', bI_some, v_eq, v_eq, v_eq, if_t (by omega), wr_id (z := k + 1) (by omega) (by omega), wr_id (z := f + 1) (by omega) (by omega), e1]
        rw [hc, hr]
        by_cases he : vatS M v (M1 502 k) = vatS M w (M1 502 k)
        · rw [if_pos he, if_pos he]
          exact ih f (k + 1) (by omega) f0 (by omega) (by omega)
        · rw [if_neg he, if_neg he]
          by_cases hf : f = i
          · rw [if_pos hf, if_pos hf]
            exact ⟨_, rfl, rfl⟩
          · rw [if_neg hf, if_neg hf]
            exact ih (f + 1) (k + 1) (by omega) (by omega) (by omega) (by omega)
    obtain ⟨z, z1, z2⟩ := key (M1 501 1).toNat 0 0 (by omega) (by omega) (by omega) (by omega)
    refine ⟨am_i z, M1, N1, ?_, ?_, r1, r2⟩
    · rw [hX, E_Tv_changed_0]
      simp only [Nat.reduceAdd]
      rw [S_St_isThere, bI_some, b2_t hvw.1, if_neg (by decide), S_St_isThere, bI_some, b2_t hvw.2, if_neg (by decide), g1 (d + 13), bV_some, v_eq, v_eq]
      exact z1
    · rw [hY, E_Md_changed_0, R_areVols (d + 16) u3 h5, bI_some, b2_t hvw, if_neg (by decide), g3, bV_some, v_eq, v_eq]
      exact z2
  · refine AG.same hG (a := am_i (-1)) ?_ ?_
    · rw [hX, E_Tv_changed_0]
      simp only [Nat.reduceAdd]
      rw [S_St_isThere, bI_some]
      by_cases h1 : thS M v
      · rw [b2_t h1, if_neg (by decide), S_St_isThere, bI_some, b2_f (fun q => hvw ⟨h1, q⟩), if_pos rfl]
      · rw [b2_f h1, if_pos rfl]
    · rw [hY, E_Md_changed_0, R_areVols (d + 16) u3 hR, bI_some, b2_f hvw, if_pos rfl]
theorem J_send (d : Nat) {M : am_M} {n : Int} (hG : GR M n) (v w : Int) : AG M (n + 1) (am_m am_P (d + 20) j_Tv_send [am_r 5 0, am_i v, am_i w] M) (am_m am_P (d + 20) j_Md_send [am_r 6 504, am_i v, am_i w]) := by
  have hX : am_m am_P (d + 20) j_Tv_send [am_r 5 0, am_i v, am_i w] M = am_at am_P (d + 19) j_Tv_send 0 [am_r 5 0, am_i v, am_i w, am_u, am_u, am_u] [] M := rfl
  have hY : ∀ N, am_m am_P (d + 20) j_Md_send [am_r 6 504, am_i v, am_i w] N = am_at am_P (d + 19) j_Md_send 0 [am_r 6 504, am_i v, am_i w, am_u, am_u] [] N := fun _ => rfl
  obtain ⟨A, c, hR, hJ, hP⟩ := hG.sr
  obtain ⟨u1, u2, u3⟩ := hJ.un
  by_cases hvw : thS M v ∧ thS M w
  · have look := fun (N : am_M) (hN : N 505 = wc A (M 4)) => dr_look (d + 13) hJ hvw.1 hvw.2 hN
    have g1 := fun e : Nat => S_Df_look e M hvw.1 hvw.2
    generalize lkdS M v w = M1 at look g1
    obtain ⟨_, _, g2, -, -, -, q5, -, -, q8'⟩ := look M hR
    have hM1 : ∀ k : Nat, k ≤ 14 → M1 k = M k := fun k hk => g2 k (by omega) (by omega)
    have q8 : ∀ k : Int, 0 ≤ k → k < M1 501 1 → 0 ≤ M1 502 k ∧ M1 502 k < 512 := fun k k1 k2 => (q8' k k1 k2).2
    have hblk : ∀ a : Int, blkS M w a = -1 ∨ (0 ≤ blkS M w a ∧ blkS M w a < 96 ∧ A (4 + 2 * blkS M w a) = M 3 (blkS M w a) ∧ 0 ≤ M 3 (blkS M w a) ∧ M 3 (blkS M w a) ≤ 999999) := by
      intro a
      obtain ⟨z, hz⟩ : ∃ z : Nat, w = (z : Int) := ⟨w.toNat, by have := hvw.2.1; omega⟩
      subst hz
      have h12 := hvw.2.2.1
      have hv' := (th_st M c z).mpr hvw.2
      have := bk_ok hJ.1.rv hJ.1.pi (w := z) (by omega) a
      rw [← blk_th hv', blk_st, st_eq] at this
      rcases this with e | ⟨e1, e2, e3⟩
      · exact Or.inl e
      · have hb := hJ.1.rb _ e1 e2 (by rw [st_eq]; exact e3)
        rw [st_ne _ _ (by decide)] at hb
        exact Or.inr ⟨e1, e2, hb⟩
    obtain ⟨val, hval⟩ : ∃ val : Int → Int, ∀ k : Int, val k = if blkS M w (M1 502 k) = -1 then -1 else valS (M 3) (blkS M w (M1 502 k)) := ⟨_, fun _ => rfl⟩
    have hvb : ∀ k : Int, -1 ≤ val k ∧ val k ≤ 999999 := by
      intro k
      rw [hval]
      rcases hblk (M1 502 k) with e | ⟨e1, e2, e3, e4, e5⟩
      · rw [if_pos e]; omega
      · rw [if_neg (by omega)]
        unfold valS
        rw [if_pos ⟨e1, e2⟩]
        omega
    -- the class's stream
    have hcls : ∃ M2 : am_M, am_at am_P (d + 19) j_Tv_send 47 [am_r 5 0, am_u, am_i w, am_i 0, am_u, am_u] [] (am_set M1 495 2 0) = some (some (am_i (M1 501 1)), M2) ∧ (∀ k : Nat, k ≠ 495 → k ≠ 496 → k ≠ 497 → M2 k = M1 k) ∧ M2 495 2 = M1 501 1 ∧ ∀ k : Int, 0 ≤ k → k < M1 501 1 → M2 496 k = M1 502 k ∧ M2 497 k = val k := by
      obtain ⟨m, hm⟩ : ∃ m : Nat, M1 501 1 = (m : Int) := ⟨(M1 501 1).toNat, by omega⟩
      obtain ⟨N', e1, e2, e3, e4⟩ := lp_ex (F := fun i N => am_at am_P (d + 19) j_Tv_send 47 [am_r 5 0, am_u, am_i w, am_i i, am_u, am_u] [] N) (r := fun N => some (some (am_i (M1 501 1)), N)) (fun i N => (∀ k : Nat, k ≠ 495 → k ≠ 496 → k ≠ 497 → N k = M1 k) ∧ N 495 2 = i ∧ ∀ k : Int, 0 ≤ k → k < i → N 496 k = M1 502 k ∧ N 497 k = val k) m 0 (am_set M1 495 2 0) ⟨fun k k1 _ _ => set_ne _ _ _ k1, by rw [set_eq, up_eq], fun k k1 k2 => by omega⟩ (fun N hN => by
        (try dsimp only)
        rw [E_Tv_send_47]
        simp only [Nat.reduceAdd]
        rw [hN.1 501 (by decide) (by decide) (by decide), if_neg (by omega), hN.2.1, hm]
        simp only [Int.zero_add]) (fun i N i1 i2 hN => by
        obtain ⟨p1, p2, p3⟩ := hN
        have hNM : ∀ k : Nat, k ≤ 14 → N k = M k := fun k hk => by rw [p1 k (by omega) (by omega) (by omega), hM1 k hk]
        have hi : i < M1 501 1 := by omega
        have ea : aaS N i = M1 502 i := by unfold aaS; rw [p1 501 (by decide) (by decide) (by decide), p1 502 (by decide) (by decide) (by decide)]; exact if_pos ⟨i1, hi, by omega⟩
        have ead : ∀ y : Int, adS 495 N (M1 502 i) y = am_set (am_set (am_set N 496 i (M1 502 i)) 497 i y) 495 2 (i + 1) := fun y => by unfold adS; rw [p2, wr_id (by omega) (by omega)]
        have hstep : am_at am_P (d + 19) j_Tv_send 47 [am_r 5 0, am_u, am_i w, am_i i, am_u, am_u] [] N = am_at am_P (d + 19) j_Tv_send 47 [am_r 5 0, am_u, am_i w, am_i (i + 1), am_u, am_u] [] (am_set (am_set (am_set N 496 i (M1 502 i)) 497 i (val i)) 495 2 (i + 1)) := by
          rw [E_Tv_send_47]
          simp only [Nat.reduceAdd]
          rw [p1 501 (by decide) (by decide) (by decide), if_pos hi, S_Df_addressAt (d + 18), bI_some, v_eq, ea, S_St_blockAt (d + 16), bI_some, v_eq, (vat_eq hNM w _).2]
          by_cases hb : blkS M w (M1 502 i) = -1
          · rw [if_pos hb, S_Ro_add3 (d + 18) 495 _ _ N (by omega), if_pos (by omega), bI_some, v_eq, wr_id (by omega) (by omega), ead, hval, if_pos hb]
          · rw [if_neg hb, S_Po_valueOf (d + 18), bI_some, S_Ro_add3 (d + 18) 495 _ _ N (by omega), if_pos (by omega), bI_some, v_eq, wr_id (by omega) (by omega), ead, hval, if_neg hb, hNM 3 (by omega)]
        refine ⟨_, hstep, fun k k1 k2 k3 => by rw [set_ne _ _ _ k1, set_ne _ _ _ k3, set_ne _ _ _ k2]; exact p1 k k1 k2 k3, by rw [set_eq, up_eq], fun k k1 k2 => ?_⟩
        rw [set_ne _ _ _ (by decide), set_ne _ _ _ (by decide), set_eq, set_ne _ _ _ (by decide), set_eq, set_ne _ _ _ (by decide)]
        by_cases hk : k = i
        · rw [hk, up_eq, up_eq]; exact ⟨rfl, rfl⟩
        · rw [up_ne _ _ hk, up_ne _ _ hk]; exact p3 k k1 (by omega))
      exact ⟨N', e1, e2, by rw [e3, hm]; omega, fun k k1 k2 => e4 k k1 (by omega)⟩
    obtain ⟨M2, c1, c2, c3, c4⟩ := hcls
    have h5 : M2 505 = wc A (M 4) := by rw [c2 505 (by decide) (by decide) (by decide), g2 505 (by decide) (by decide)]; exact hR
    obtain ⟨N1, f1, f2⟩ := look M2 h5
    obtain ⟨-, f3, f4, f5, -, -, -, f8⟩ := f2
    have h5' : N1 505 = wc A (M 4) := by rw [f3 505 (by decide) (by decide)]; exact h5
    have href : ∃ N2 : am_M, am_at am_P (d + 19) j_Md_send 27 [am_r 6 504, am_u, am_i w, am_i 0, am_u] [] (am_set N1 504 13 (M1 501 1)) = some (some (am_i (M1 501 1)), N2) ∧ (∀ k : Nat, k ≠ 513 → k ≠ 514 → N2 k = am_set N1 504 13 (M1 501 1) k) ∧ ∀ k : Int, 0 ≤ k → k < M1 501 1 → N2 513 k = M1 502 k ∧ N2 514 k = val k := by
      obtain ⟨m, hm⟩ : ∃ m : Nat, M1 501 1 = (m : Int) := ⟨(M1 501 1).toNat, by omega⟩
      have e13 : am_set N1 504 13 (M1 501 1) 504 13 = M1 501 1 := by rw [set_eq, up_eq]
      have e12 : am_set N1 504 13 (M1 501 1) 512 = N1 512 := set_ne _ _ _ (by decide)
      have e05 : am_set N1 504 13 (M1 501 1) 505 = wc A (M 4) := by rw [set_ne _ _ _ (by decide)]; exact h5'
      generalize am_set N1 504 13 (M1 501 1) = K at e13 e12 e05 ⊢
      obtain ⟨N', e1, e2, e4⟩ := lp_ex (F := fun i N => am_at am_P (d + 19) j_Md_send 27 [am_r 6 504, am_u, am_i w, am_i i, am_u] [] N) (r := fun N => some (some (am_i (M1 501 1)), N)) (fun i N => (∀ k : Nat, k ≠ 513 → k ≠ 514 → N k = K k) ∧ ∀ k : Int, 0 ≤ k → k < i → N 513 k = M1 502 k ∧ N 514 k = val k) m 0 K ⟨fun k _ _ => rfl, fun k k1 k2 => by omega⟩ (fun N hN => by
        (try dsimp only)
        rw [E_Md_send_27, hN.1 504 (by decide) (by decide), e13, if_neg (by omega)]) (fun i N i1 i2 hN => by
        obtain ⟨p1, p3⟩ := hN
        have hi : i < M1 501 1 := by omega
        have hN5 : N 505 = wc A (M 4) := by rw [p1 505 (by decide) (by decide)]; exact e05
        have h12 : N 512 i = M1 502 i := by rw [p1 512 (by decide) (by decide), e12]; exact (f8 i i1 hi).1
        obtain ⟨b1, b2'⟩ := q8 i i1 hi
        have hstep : am_at am_P (d + 19) j_Md_send 27 [am_r 6 504, am_u, am_i w, am_i i, am_u] [] N = am_at am_P (d + 19) j_Md_send 27 [am_r 6 504, am_u, am_i w, am_i (i + 1), am_u] [] (am_set (am_set N 513 i (M1 502 i)) 514 i (val i)) := by
          rw [E_Md_send_27]
          simp only [Nat.reduceAdd]
          rw [p1 504 (by decide) (by decide), e13, if_pos hi, if_t (by omega), h12, N_blk (d + 16) hJ hvw.2 ⟨b1, b2'⟩ hN5, bI_some, v_eq, if_t (by omega), if_t (by omega), w_eq, h12]
          rcases hblk (M1 502 i) with hb | ⟨x1, x2, x3, x4, x5⟩
          · rw [if_pos hb, if_t (by omega), w_eq, v_eq, wr_id (by omega) (by omega), hval, if_pos hb]
          · have hvi : val i = M 3 (blkS M w (M1 502 i)) := by
              rw [hval, if_neg (by omega)]
              exact if_pos ⟨x1, x2⟩
            rw [if_neg (by omega), S_Md_valueOf (d + 18) ⟨x1, x2⟩, bI_some, if_t (by omega), w_eq, v_eq, wr_id (by omega) (by omega), set_ne _ _ _ (show (505 : Nat) ≠ 513 by decide), hN5, wc_v _ _ ⟨x1, x2⟩, x3, hvi]
        refine ⟨_, hstep, fun k k1 k2 => by rw [set_ne _ _ _ k2, set_ne _ _ _ k1]; exact p1 k k1 k2, fun k k1 k2 => ?_⟩
        rw [set_ne _ _ _ (by decide), set_eq, set_eq, set_ne _ _ _ (by decide)]
        by_cases hk : k = i
        · rw [hk, up_eq, up_eq]; exact ⟨rfl, rfl⟩
        · rw [up_ne _ _ hk, up_ne _ _ hk]; exact p3 k k1 (by omega))
      exact ⟨N', e1, e2, fun k k1 k2 => e4 k k1 (by omega)⟩
    obtain ⟨N2, d1, d2, d3⟩ := href
    have hNM : ∀ k : Nat, (k < 495 ∨ 497 < k) → k ≠ 501 → k ≠ 502 → k ≠ 504 → k ≠ 512 → k ≠ 513 → k ≠ 514 → N2 k = M k := fun k k0 k1 k2 k3 k4 k5 k6 => by rw [d2 k k5 k6, set_ne _ _ _ k3, f3 k k3 k4, c2 k (by omega) (by omega) (by omega), g2 k k1 k2]
    have hNM2 : ∀ k : Nat, 495 ≤ k → k ≤ 497 → N2 k = M2 k := fun k k1 k2 => by rw [d2 k (by omega) (by omega), set_ne _ _ _ (by omega), f3 k (by omega) (by omega)]
    refine ⟨am_i (M1 501 1), M2, N2, ?_, ?_, ?_, fun k hk => hNM k (by omega) (by omega) (by omega) (by omega) (by omega) (by omega) (by omega)⟩
    · rw [hX, E_Tv_send_0]
      simp only [Nat.reduceAdd]
      rw [S_St_isThere, bI_some, b2_t hvw.1, if_neg (by decide), S_St_isThere, bI_some, b2_t hvw.2, if_neg (by decide), g1 (d + 13), bV_some, w_eq, v_eq]
      exact c1
    · rw [hY, E_Md_send_0, R_areVols (d + 16) u3 h5, bI_some, b2_t hvw, if_neg (by decide), f1, bV_some, w_eq, v_eq, f5]
      exact d1
    · obtain ⟨-, s1, s2, s3⟩ := hG.1.2.2.2.2.2.2
      refine (hG.gx.at (show n ≤ n + 1 by omega) (fun k hk => hNM k (by omega) (by omega) (by omega) (by omega) (by omega) (by omega) (by omega)) (hNM 505 (by decide) (by decide) (by decide) (by decide) (by decide) (by decide) (by decide)) (hNM 506 (by decide) (by decide) (by decide) (by decide) (by decide) (by decide) (by decide))).gr ⟨?_, ?_⟩
      · rw [hNM2 495 (by decide) (by decide), hNM2 496 (by decide) (by decide), hNM2 497 (by decide) (by decide), c3]
        refine ⟨q5, ?_, fun i i1 i2 => ?_⟩
        · rw [d2 504 (by decide) (by decide), set_eq, up_eq]
        · obtain ⟨x1, x2⟩ := c4 i i1 i2
          obtain ⟨y1, y2⟩ := d3 i i1 i2
          rw [x1, x2, y1, y2]
          exact ⟨rfl, rfl, q8 i i1 i2, hvb i⟩
      · rw [hNM 498 (by decide) (by decide) (by decide) (by decide) (by decide) (by decide) (by decide), hNM 499 (by decide) (by decide) (by decide) (by decide) (by decide) (by decide) (by decide), hNM 500 (by decide) (by decide) (by decide) (by decide) (by decide) (by decide) (by decide), hNM 515 (by decide) (by decide) (by decide) (by decide) (by decide) (by decide) (by decide), hNM 516 (by decide) (by decide) (by decide) (by decide) (by decide) (by decide) (by decide), d2 504 (by decide) (by decide), set_eq, up_ne _ _ (by decide), f4 16 (by decide) (by decide), c2 504 (by decide) (by decide) (by decide), g2 504 (by decide) (by decide)]
        exact ⟨s1, s2, s3⟩
  · refine AG.same hG (a := am_i (-1)) ?_ ?_
    · rw [hX, E_Tv_send_0]
      simp only [Nat.reduceAdd]
      rw [S_St_isThere, bI_some]
      by_cases h1 : thS M v
      · rw [b2_t h1, if_neg (by decide), S_St_isThere, bI_some, b2_f (fun q => hvw ⟨h1, q⟩), if_pos rfl]
      · rw [b2_f h1, if_pos rfl]
    · rw [hY, E_Md_send_0, R_areVols (d + 16) u3 hR, bI_some, b2_f hvw, if_pos rfl]
