/-! TOLD: next, digest, find, times -/
theorem mp_sz {M : am_M} {A c : Int → Int} {n : Int} (hJ : JX (am_st M 4 c) A n) {v : Int} (hv : thS M v) {a : Int} (h1 : M 7 v ≤ a) (h2 : a < 512) : blkS M v a = -1 := by
  obtain ⟨w, hw⟩ : ∃ w : Nat, v = (w : Int) := ⟨v.toNat, by have := hv.1; omega⟩
  subst hw
  have h3 := hv.2.1
  rw [blk_ct hv]
  have := hJ.1.ci w (by omega)
  simp only [st_ne M c (show (7 : Nat) ≠ 4 by decide), st_ne M c (show (6 : Nat) ≠ 4 by decide), st_ne M c (show (10 : Nat) ≠ 4 by decide)] at this
  exact this hv.2.2 a h1 h2
theorem fd_ext {p : Int → Prop} {dp : ∀ i, Decidable (p i)} : ∀ (k : Nat) (i : Int) (k' : Nat), k ≤ k' → (∀ j : Int, i + k ≤ j → j < i + k' → ¬ p j) → fd p dp i k' = fd p dp i k
  | 0, i, k', _, h => by
    rcases fd_spec (p := p) (dp := dp) k' i with ⟨e, _⟩ | ⟨e1, e2, e3, _⟩
    · rw [e]; rfl
    · exact absurd e3 (h _ (by omega) e2)
  | k + 1, i, 0, h0, _ => by omega
  | k + 1, i, k' + 1, h0, h => by
    unfold fd
    rw [fd_ext k (i + 1) k' (by omega) (fun j h1 h2 => h j (by omega) (by omega))]
theorem J_next (d : Nat) {M : am_M} {n : Int} (hG : GR M n) (v a : Int) : AG M (n + 1) (am_m am_P (d + 20) j_Tv_next [am_r 5 0, am_i v, am_i a] M) (am_m am_P (d + 20) j_Md_next [am_r 6 504, am_i v, am_i a]) := by
  have hX : am_m am_P (d + 20) j_Tv_next [am_r 5 0, am_i v, am_i a] M = am_at am_P (d + 19) j_Tv_next 0 [am_r 5 0, am_i v, am_i a] [] M := rfl
  have hY : am_m am_P (d + 20) j_Md_next [am_r 6 504, am_i v, am_i a] M = am_at am_P (d + 19) j_Md_next 0 [am_r 6 504, am_i v, am_i a, am_u] [] M := rfl
  obtain ⟨A, c, hR, hJ, hP⟩ := hG.sr
  obtain ⟨u1, u2, u3⟩ := hJ.un
  by_cases ha : thS M v ∧ 0 ≤ a ∧ a < M 7 v
  · have hs := (u3.2 v ha.1.1 ha.1.2.1).1
    refine AG.same hG (a := am_i (fmS M v a (M 7 v))) ?_ ?_
    · rw [hX, E_Tv_next_0, S_Tv_isInside, bI_some, b2_t ha, if_neg (by decide), if_t ⟨ha.1.1, ha.1.2.1⟩]
      simp only [Nat.reduceAdd]
      rw [S_St_firstMapped (d + 16) v M ha.2.1 hs.2.1 (by omega), bI_some]
    · rw [hY, E_Md_next_0, R_isAddress (d + 16) u3 hR, bI_some, b2_t ha, if_neg (by decide), v_eq]
      have hf : fmS M v a (M 7 v) = fd (fun a => ¬ blkS M v a = -1) (fun _ => inferInstance) a (512 - a).toNat := by
        unfold fmS
        exact (fd_ext _ a _ (by omega) (fun j h1 h2 => by (try dsimp only); rw [mp_sz hJ ha.1 (by omega) (by omega)]; exact fun q => q rfl)).symm
      rw [hf]
      refine lp_fd (F := fun i => am_at am_P (d + 19) j_Md_next 13 [am_r 6 504, am_i v, am_u, am_i i] [] M) (r := fun i => some (some (am_i i), M)) ?_ ?_
      · (try dsimp only)
        rw [E_Md_next_13, if_neg (by omega)]
      · intro i h1 h2
        (try dsimp only)
        rw [E_Md_next_13, if_pos (by omega), A_blk (d + 16) hR hJ ha.1 (by omega), bI_some, v_eq, wr_id (by omega) (by omega)]
        by_cases hb : blkS M v i = -1
        · rw [if_pos hb, if_neg (fun q => q hb)]
        · rw [if_neg hb, if_pos hb]
  · refine AG.same hG (a := am_i (-1)) ?_ ?_
    · rw [hX, E_Tv_next_0, S_Tv_isInside, bI_some, b2_f ha, if_pos rfl]
    · rw [hY, E_Md_next_0, R_isAddress (d + 16) u3 hR, bI_some, b2_f ha, if_pos rfl]
theorem J_digest (d : Nat) {M : am_M} {n : Int} (hG : GR M n) (v : Int) : AG M (n + 1) (am_m am_P (d + 20) j_Tv_digest [am_r 5 0, am_i v] M) (am_m am_P (d + 20) j_Md_digest [am_r 6 504, am_i v]) := by
  have hX : am_m am_P (d + 20) j_Tv_digest [am_r 5 0, am_i v] M = am_at am_P (d + 19) j_Tv_digest 0 [am_r 5 0, am_i v, am_u, am_u] [] M := rfl
  have hY : am_m am_P (d + 20) j_Md_digest [am_r 6 504, am_i v] M = am_at am_P (d + 19) j_Md_digest 0 [am_r 6 504, am_i v, am_u, am_u] [] M := rfl
  obtain ⟨A, c, hR, hJ, hP⟩ := hG.sr
  obtain ⟨u1, u2, u3⟩ := hJ.un
  by_cases hv : thS M v
  · have hs := (u3.2 v hv.1 hv.2.1).1
    have hz := (MV.vd u3 hv).1
    obtain ⟨m, hm⟩ : ∃ m : Nat, M 7 v = (m : Int) := ⟨(M 7 v).toNat, by omega⟩
    refine AG.same hG (a := am_i (itS (fun i h => am_wr (am_wr (31 * h) + vatS M v i)) m 0 0)) ?_ ?_
    · rw [hX, E_Tv_digest_0]
      simp only [Nat.reduceAdd]
      rw [S_St_isThere, bI_some, b2_t hv, if_neg (by decide), v_eq, v_eq]
      refine lp_it (F := fun i h => am_at am_P (d + 19) j_Tv_digest 17 [am_r 5 0, am_i v, am_i h, am_i i] [] M) (r := fun h => some (some (am_i h), M)) m 0 0 ?_ ?_
      · intro h
        (try dsimp only)
        rw [E_Tv_digest_17, if_t ⟨hv.1, hv.2.1⟩]
        simp only [Nat.reduceAdd]
        rw [if_neg (by omega)]
      · intro i h h1 h2
        (try dsimp only)
        rw [E_Tv_digest_17, if_t ⟨hv.1, hv.2.1⟩]
        simp only [Nat.reduceAdd]
        rw [if_pos (by omega), S_St_valueAt (d + 15), bI_some, v_eq, v_eq, wr_id (z := i + 1) (by omega) (by omega)]
    · rw [hY, E_Md_digest_0, R_isVol (d + 17) u3 hR, bI_some, b2_t hv, if_neg (by decide), v_eq, v_eq]
      refine lp_it (F := fun i h => am_at am_P (d + 19) j_Md_digest 14 [am_r 6 504, am_i v, am_i h, am_i i] [] M) (r := fun h => some (some (am_i h), M)) m 0 0 ?_ ?_
      · intro h
        (try dsimp only)
        rw [E_Md_digest_14, R_got (d + 18) ⟨hv.1, hv.2.1⟩ (by omega) hR, bI_some, show 1796 + 9 * v + 1 = 1797 + 9 * v by omega, hz, if_neg (by omega)]
      · intro i h h1 h2
        (try dsimp only)
        rw [E_Md_digest_14, R_got (d + 18) ⟨hv.1, hv.2.1⟩ (by omega) hR, bI_some, show 1796 + 9 * v + 1 = 1797 + 9 * v by omega, hz, if_pos (by omega), A_read (d + 15) hR hJ hv (by omega), bI_some, v_eq, v_eq, wr_id (z := i + 1) (by omega) (by omega)]
  · refine AG.same hG (a := am_i 0) ?_ ?_
    · rw [hX, E_Tv_digest_0]
      simp only [Nat.reduceAdd]
      rw [S_St_isThere, bI_some, b2_f hv, if_pos rfl]
    · rw [hY, E_Md_digest_0, R_isVol (d + 17) u3 hR, bI_some, b2_f hv, if_pos rfl]
/-- the reference: a mapped address that holds x -/
theorem A_there (d : Nat) {M : am_M} {A c : Int → Int} {n : Int} (hR : M 505 = wc A (M 4)) (hJ : JX (am_st M 4 c) A n) {v : Int} (hv : thS M v) {a : Int} (ha : 0 ≤ a ∧ a < 512) (x : Int) : am_m am_P (d + 5) j_Md_isThere [am_r 6 504, am_i v, am_i a, am_i x] M = some (some (am_i (b2 (¬ blkS M v a = -1 ∧ vatS M v a = x))), M) := by
  show am_at am_P (d + 4) j_Md_isThere 0 [am_r 6 504, am_i v, am_i a, am_i x] [] M = _
  rw [E_Md_isThere_0, A_blk (d + 1) hR hJ hv ha, bI_some]
  by_cases h1 : blkS M v a = -1
  · rw [if_pos h1, if_t (by decide), b2_f (fun q => q.1 h1)]
  · rw [if_neg h1, A_read d hR hJ hv ha, bI_some]
    by_cases h2 : vatS M v a = x
    · rw [if_pos h2, if_t (by decide), b2_t ⟨h1, h2⟩]
    · rw [if_neg h2, if_t (by decide), b2_f (fun q => h2 q.2)]
theorem J_find (d : Nat) {M : am_M} {n : Int} (hG : GR M n) (x : Int) : AG M (n + 1) (am_m am_P (d + 20) j_Tv_find [am_r 5 0, am_i x] M) (am_m am_P (d + 20) j_Md_find [am_r 6 504, am_i x]) := by
  have hX : am_m am_P (d + 20) j_Tv_find [am_r 5 0, am_i x] M = am_at am_P (d + 19) j_Tv_find 0 [am_r 5 0, am_i x, am_u, am_u] [] M := rfl
  have hY : am_m am_P (d + 20) j_Md_find [am_r 6 504, am_i x] M = am_at am_P (d + 19) j_Md_find 0 [am_r 6 504, am_i x, am_u, am_u] [] M := rfl
  obtain ⟨A, c, hR, hJ, hP⟩ := hG.sr
  obtain ⟨u1, u2, u3⟩ := hJ.un
  have hsz : ∀ v : Int, thS M v → M 7 v ≤ 512 := fun v hv => (u3.2 v hv.1 hv.2.1).1.2.1
  have hfd : ∀ v : Int, thS M v → fwS M v 0 x = fd (fun a => ¬ blkS M v a = -1 ∧ vatS M v a = x) (fun _ => inferInstance) 0 (512 : Nat) := by
    intro v hv
    have := hsz v hv
    unfold fwS
    rw [if_pos hv]
    exact (fd_ext _ 0 _ (by omega) (fun j h1 h2 => by
      (try dsimp only)
      rw [mp_sz hJ hv (by omega) (by omega)]
      exact fun q => q.1 rfl)).symm
  have hrow : ∀ v : Int, 0 ≤ v → v < 12 → am_at am_P (d + 19) j_Md_find 10 [am_r 6 504, am_i x, am_i v, am_i 0] [] M = if fwS M v 0 x = -1 then am_at am_P (d + 19) j_Md_find 2 [am_r 6 504, am_i x, am_i (v + 1), am_u] [] M else some (some (am_i (512 * v + fwS M v 0 x)), M) := by
    intro v h0 h12
    by_cases hv : thS M v
    · rw [hfd v hv]
      refine (lp_fd (F := fun i => am_at am_P (d + 19) j_Md_find 10 [am_r 6 504, am_i x, am_i v, am_i i] [] M) (p := fun a => ¬ blkS M v a = -1 ∧ vatS M v a = x) (dp := fun _ => inferInstance) (r := fun i => if i = -1 then am_at am_P (d + 19) j_Md_find 2 [am_r 6 504, am_i x, am_i (v + 1), am_u] [] M else some (some (am_i (512 * v + i)), M)) (a := 0) (k := 512) ?_ ?_)
      · (try dsimp only)
        rw [E_Md_find_10, if_neg (by omega), v_eq, wr_id (by omega) (by omega), if_pos rfl]
      · intro i h1 h2
        (try dsimp only)
        rw [E_Md_find_10, if_pos (by omega), R_isVol (d + 17) u3 hR, bI_some, b2_t hv, if_neg (by decide), A_there (d + 14) hR hJ hv (by omega), bI_some]
        by_cases hb : ¬ blkS M v i = -1 ∧ vatS M v i = x
        · rw [b2_t hb, if_neg (by decide), if_pos hb, if_neg (by omega), wr_id (z := 512 * v) (by omega) (by omega), wr_id (by omega) (by omega)]
        · rw [b2_f hb, if_pos rfl, if_neg hb, v_eq, wr_id (by omega) (by omega)]
    · rw [E_Md_find_10, if_pos (by omega), R_isVol (d + 17) u3 hR, bI_some, b2_f hv, if_pos rfl, v_eq, wr_id (by omega) (by omega), if_pos (by unfold fwS; rw [if_neg hv])]
  refine AG.same hG (a := am_i (let v := fd (fun v => ¬ fwS M v 0 x = -1) (fun _ => inferInstance) 0 12; if v = -1 then -1 else 512 * v + fwS M v 0 x)) ?_ ?_
  · rw [hX, E_Tv_find_0, v_eq]
    refine lp_fd (F := fun i => am_at am_P (d + 19) j_Tv_find 2 [am_r 5 0, am_i x, am_i i, am_u] [] M) (p := fun v => ¬ fwS M v 0 x = -1) (dp := fun _ => inferInstance) (r := fun v => some (some (am_i (if v = -1 then -1 else 512 * v + fwS M v 0 x)), M)) (a := 0) (k := 12) ?_ ?_
    · (try dsimp only)
      rw [E_Tv_find_2, if_neg (by omega), if_pos rfl]
    · intro i h1 h2
      (try dsimp only)
      rw [E_Tv_find_2, if_pos (by omega)]
      simp only [Nat.reduceAdd]
      rw [S_St_firstWith (d + 14) i x M (hsz i) (by omega) (by omega), bI_some, v_eq]
      by_cases hb : fwS M i 0 x = -1
      · rw [if_pos hb, if_neg (fun q => q hb), v_eq, wr_id (by omega) (by omega)]
      · have hr : fwS M i 0 x < 512 := by
          by_cases hv : thS M i
          · rw [hfd i hv] at hb ⊢
            rcases fd_spec (p := fun a => ¬ blkS M i a = -1 ∧ vatS M i a = x) (dp := fun _ => inferInstance) 512 0 with ⟨e, _⟩ | ⟨_, e, _⟩
            · exact absurd e hb
            · omega
          · unfold fwS; rw [if_neg hv]; omega
        have hr0 : -1 ≤ fwS M i 0 x := by
          by_cases hv : thS M i
          · rw [hfd i hv] at hb ⊢
            rcases fd_spec (p := fun a => ¬ blkS M i a = -1 ∧ vatS M i a = x) (dp := fun _ => inferInstance) 512 0 with ⟨e, _⟩ | ⟨e, _, _⟩
            · exact absurd e hb
            · omega
          · unfold fwS; rw [if_neg hv]; omega
        rw [if_neg hb, if_pos hb, if_neg (by omega), wr_id (z := 512 * i) (by omega) (by omega), wr_id (by omega) (by omega)]
  · rw [hY, E_Md_find_0, v_eq]
    refine lp_fd (F := fun i => am_at am_P (d + 19) j_Md_find 2 [am_r 6 504, am_i x, am_i i, am_u] [] M) (p := fun v => ¬ fwS M v 0 x = -1) (dp := fun _ => inferInstance) (r := fun v => some (some (am_i (if v = -1 then -1 else 512 * v + fwS M v 0 x)), M)) (a := 0) (k := 12) ?_ ?_
    · (try dsimp only)
      rw [E_Md_find_2, if_neg (by omega), if_pos rfl]
    · intro i h1 h2
      (try dsimp only)
      rw [E_Md_find_2, if_pos (by omega), v_eq, hrow i (by omega) (by omega)]
      by_cases hb : fwS M i 0 x = -1
      · rw [if_pos hb, if_neg (fun q => q hb)]
      · rw [if_neg hb, if_pos hb, if_neg (by omega)]
theorem J_times (d : Nat) {M : am_M} {n : Int} (hG : GR M n) (v x : Int) : AG M (n + 1) (am_m am_P (d + 20) j_Tv_times [am_r 5 0, am_i v, am_i x] M) (am_m am_P (d + 20) j_Md_times [am_r 6 504, am_i v, am_i x]) := by
  have hX : am_m am_P (d + 20) j_Tv_times [am_r 5 0, am_i v, am_i x] M = am_at am_P (d + 19) j_Tv_times 0 [am_r 5 0, am_i v, am_i x, am_u, am_u, am_u] [] M := rfl
  have hY : am_m am_P (d + 20) j_Md_times [am_r 6 504, am_i v, am_i x] M = am_at am_P (d + 19) j_Md_times 0 [am_r 6 504, am_i v, am_i x, am_u, am_u] [] M := rfl
  obtain ⟨A, c, hR, hJ, hP⟩ := hG.sr
  obtain ⟨u1, u2, u3⟩ := hJ.un
  have hsz : ∀ v : Int, thS M v → M 7 v ≤ 512 := fun v hv => (u3.2 v hv.1 hv.2.1).1.2.1
  by_cases hv : thS M v
  · have hs := hsz v hv
    have hs0 := hv.2.2
    obtain ⟨m, hm⟩ : ∃ m : Nat, M 7 v = (m : Int) := ⟨(M 7 v).toNat, by omega⟩
    have hbd := fun k : Nat => sm_bd (f := fun a => if ¬ blkS M v a = -1 ∧ vatS M v a = x then 1 else 0) (c := 1) k (fun i _ => by (try dsimp only); split <;> omega)
    have hext : sm (fun a => if ¬ blkS M v a = -1 ∧ vatS M v a = x then 1 else 0) 512 = sm (fun a => if ¬ blkS M v a = -1 ∧ vatS M v a = x then 1 else 0) m := by
      obtain ⟨k, hk⟩ : ∃ k, 512 = m + k := ⟨512 - m, by omega⟩
      rw [hk, sm_add, sm_zero k (fun i hi => ?_)]
      · omega
      · (try dsimp only)
        rw [if_neg]
        rw [mp_sz hJ hv (by omega) (by omega)]
        exact fun q => q.1 rfl
    have hfw : ∀ p k : Nat, p + k = m → fwS M v p x = fd (fun a => ¬ blkS M v a = -1 ∧ vatS M v a = x) (fun _ => inferInstance) p k := by
      intro p k h
      unfold fwS
      rw [if_pos hv, show (M 7 v - (p : Int)).toNat = k by omega]
    have hcls : ∀ k p : Nat, p + k = m → am_at am_P (d + 19) j_Tv_times 30 [am_r 5 0, am_i v, am_i x, am_i (sm (fun a => if ¬ blkS M v a = -1 ∧ vatS M v a = x then 1 else 0) p), am_i (fwS M v p x), am_i (sm (fun a => if ¬ blkS M v a = -1 ∧ vatS M v a = x then 1 else 0) p)] [] M = some (some (am_i (sm (fun a => if ¬ blkS M v a = -1 ∧ vatS M v a = x then 1 else 0) m)), M) := by
      intro k
      induction k with
      | zero =>
        intro p h
        have hpm : p = m := by omega
        subst hpm
        rw [hfw p 0 rfl, E_Tv_times_30, show fd (fun a => ¬ blkS M v a = -1 ∧ vatS M v a = x) (fun _ => inferInstance) (p : Int) 0 = -1 from rfl, if_pos rfl, ite_self]
      | succ k ih =>
        intro p h
        have ihp := ih (p + 1) (by omega)
        have e1 := hfw p (k + 1) h
        have e2 := hfw (p + 1) k (by omega)
        have hb := hbd p
        by_cases hq : ¬ blkS M v p = -1 ∧ vatS M v p = x
        · have e3 : fwS M v p x = p := by rw [e1]; exact if_pos hq
          have e4 : sm (fun a => if ¬ blkS M v a = -1 ∧ vatS M v a = x then 1 else 0) (p + 1) = sm (fun a => if ¬ blkS M v a = -1 ∧ vatS M v a = x then 1 else 0) p + 1 := by
            show _ + _ = _
            (try dsimp only)
            rw [if_pos hq]
          rw [e3, E_Tv_times_30, if_pos (by omega), if_neg (by omega), v_eq]
          simp only [Nat.reduceAdd]
          rw [wr_id (z := (p : Int) + 1) (by omega) (by omega), S_St_firstWith (d + 14) v x M (hsz v) (by omega) (by omega), bI_some, v_eq, v_eq, wr_id (by omega) (by omega)]
          rw [e4, Int.natCast_succ] at ihp
          exact ihp
        · have e3 : fwS M v p x = fwS M v ((p + 1 : Nat) : Int) x := by rw [e1, e2]; exact if_neg hq
          have e4 : sm (fun a => if ¬ blkS M v a = -1 ∧ vatS M v a = x then 1 else 0) (p + 1) = sm (fun a => if ¬ blkS M v a = -1 ∧ vatS M v a = x then 1 else 0) p := by
            show _ + _ = _
            (try dsimp only)
            rw [if_neg hq, Int.add_zero]
          rw [e3, ← e4]
          exact ihp
    refine AG.same hG (a := am_i (sm (fun a => if ¬ blkS M v a = -1 ∧ vatS M v a = x then 1 else 0) m)) ?_ ?_
    · rw [hX, E_Tv_times_0]
      simp only [Nat.reduceAdd]
      rw [S_St_isThere, bI_some, b2_t hv, if_neg (by decide), v_eq, S_St_firstWith (d + 14) v x M (hsz v) (by omega) (by omega), bI_some, v_eq, v_eq]
      exact hcls m 0 (by omega)
    · rw [hY, E_Md_times_0, R_isVol (d + 17) u3 hR, bI_some, b2_t hv, if_neg (by decide), v_eq, v_eq, ← hext]
      refine lp_sum (F := fun s i => am_at am_P (d + 19) j_Md_times 15 [am_r 6 504, am_i v, am_i x, am_i s, am_i i] [] M) (f := fun a => if ¬ blkS M v a = -1 ∧ vatS M v a = x then 1 else 0) (n := 512) ?_ ?_
      · (try dsimp only)
        rw [E_Md_times_15, if_neg (by omega)]
      · intro i hi
        (try dsimp only)
        have hb := hbd i
        rw [E_Md_times_15, if_pos (by omega), A_there (d + 14) hR hJ hv (by omega), bI_some]
        generalize sm (fun a => if ¬ blkS M v a = -1 ∧ vatS M v a = x then 1 else 0) i = s at hb ⊢
        by_cases h : ¬ blkS M v i = -1 ∧ vatS M v i = x
        · rw [b2_t h, if_neg (by decide), if_pos h, v_eq, v_eq, wr_id (by omega) (by omega), wr_id (by omega) (by omega)]
        · rw [b2_f h, if_pos rfl, if_neg h, v_eq, v_eq, wr_id (by omega) (by omega), wr_id (by omega) (by omega)]
  · refine AG.same hG (a := am_i (-1)) ?_ ?_
    · rw [hX, E_Tv_times_0]
      simp only [Nat.reduceAdd]
      rw [S_St_isThere, bI_some, b2_f hv, if_pos rfl]
    · rw [hY, E_Md_times_0, R_isVol (d + 17) u3 hR, bI_some, b2_f hv, if_pos rfl]
