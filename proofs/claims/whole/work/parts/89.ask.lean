/-! TOLD: read, block, path, ofPart, place, counted, staged, stream, stage, children, wrong -/
theorem AG.same {M : am_M} {n : Int} {X : Option am_O} {Y : am_M → Option am_O} {a : am_V} (hG : GR M n) (h1 : X = some (some a, M)) (h2 : Y M = some (some a, M)) : AG M (n + 1) X Y := by
  obtain ⟨r1, r2⟩ := RF.gr (n' := n + 1) hG (by omega) (fun k hk => rfl) (RF_rfl M)
  exact ⟨a, M, M, h1, h2, r1, r2⟩
theorem th_st (M : am_M) (c : Int → Int) (v : Int) : thS (am_st M 4 c) v ↔ thS M v := by unfold thS; rw [st_ne _ _ (by decide)]
theorem thg_st (M : am_M) (c : Int → Int) (v a l : Int) : thgS (am_st M 4 c) v a l = thgS M v a l := by
  unfold thgS bkS lfS twS thS
  simp only [st_ne M c (show (7 : Nat) ≠ 4 by decide), st_ne M c (show (6 : Nat) ≠ 4 by decide), st_ne M c (show (10 : Nat) ≠ 4 by decide)]
theorem blk_st (M : am_M) (c : Int → Int) (v a : Int) : blkS (am_st M 4 c) v a = blkS M v a := thg_st M c v a 0
theorem vat_st (M : am_M) (c : Int → Int) (v a : Int) : vatS (am_st M 4 c) v a = vatS M v a := by unfold vatS; rw [blk_st, st_ne _ _ (by decide)]
theorem us_st (M : am_M) (c : Int → Int) (v : Int) : usS (am_st M 4 c) v = usS M v := by
  unfold usS thS
  simp only [st_ne M c (show (7 : Nat) ≠ 4 by decide), st_ne M c (show (6 : Nat) ≠ 4 by decide), st_ne M c (show (10 : Nat) ≠ 4 by decide)]
theorem R_readAt (d : Nat) {M : am_M} {A ex c' : Int → Int} (h : PI A (M 4) (M 5) (M 6) (M 10) ex) (hV : RV M A) (hB : RB M A) {v : Nat} (hv : thS M v) {a : Int} (ha : 0 ≤ a ∧ a < 512) {N : am_M} (hN : N 505 = wc A c') : am_m am_P (d + 4) j_Md_readAt [am_r 6 504, am_i v, am_i a] N = some (some (am_i (vatS M v a)), N) := by
  have := S_Md_readAt d (c' := c') h hV hB hv ha N
  rw [← hN, st_self] at this
  exact this
/-- the reference's looks at an address, the counts as they may be -/
theorem A_blk (d : Nat) {M : am_M} {A c : Int → Int} {n : Int} (hR : M 505 = wc A (M 4)) (hJ : JX (am_st M 4 c) A n) {v : Int} (hv : thS M v) {a : Int} (ha : 0 ≤ a ∧ a < 512) : am_m am_P (d + 3) j_Md_blockAt [am_r 6 504, am_i v, am_i a] M = some (some (am_i (blkS M v a)), M) := by
  obtain ⟨w, hw⟩ : ∃ w : Nat, v = (w : Int) := ⟨v.toNat, by have := hv.1; omega⟩
  subst hw
  rw [R_blockAt d hJ.1.pi hJ.1.rv ((th_st M c w).mpr hv) ha hR, blk_st]
theorem A_read (d : Nat) {M : am_M} {A c : Int → Int} {n : Int} (hR : M 505 = wc A (M 4)) (hJ : JX (am_st M 4 c) A n) {v : Int} (hv : thS M v) {a : Int} (ha : 0 ≤ a ∧ a < 512) : am_m am_P (d + 4) j_Md_readAt [am_r 6 504, am_i v, am_i a] M = some (some (am_i (vatS M v a)), M) := by
  obtain ⟨w, hw⟩ : ∃ w : Nat, v = (w : Int) := ⟨v.toNat, by have := hv.1; omega⟩
  subst hw
  rw [R_readAt d hJ.1.pi hJ.1.rv hJ.1.rb ((th_st M c w).mpr hv) ha hR, vat_st]
theorem A_part (d : Nat) {M : am_M} {A c : Int → Int} {n : Int} (hR : M 505 = wc A (M 4)) (hJ : JX (am_st M 4 c) A n) {v : Int} (hv : thS M v) {a kd : Int} (ha : 0 ≤ a ∧ a < 512) (hk : 0 ≤ kd ∧ kd ≤ 2) : am_m am_P (d + 2) j_Md_partAt [am_r 6 504, am_i v, am_i a, am_i kd] M = some (some (am_i (decT (thgS M v a (kd + 1)))), M) := by
  obtain ⟨w, hw⟩ : ∃ w : Nat, v = (w : Int) := ⟨v.toNat, by have := hv.1; omega⟩
  subst hw
  rw [R_partAt d hJ.1.pi hJ.1.rv ((th_st M c w).mpr hv) ha hk hR, thg_st]
theorem A_used (d : Nat) {M : am_M} {A c : Int → Int} {n : Int} (hR : M 505 = wc A (M 4)) (hJ : JX (am_st M 4 c) A n) {v : Int} (hv : thS M v) : am_m am_P (d + 4) j_Md_usedOf [am_r 6 504, am_i v] M = some (some (am_i (usS M v)), M) := by
  obtain ⟨w, hw⟩ : ∃ w : Nat, v = (w : Int) := ⟨v.toNat, by have := hv.1; omega⟩
  subst hw
  rw [R_usedOf d hJ.1.pi hJ.1.rv ((th_st M c w).mpr hv) hR, us_st]
theorem J_read (d : Nat) {M : am_M} {n : Int} (hG : GR M n) (v a : Int) : AG M (n + 1) (am_m am_P (d + 20) j_Tv_read [am_r 5 0, am_i v, am_i a] M) (am_m am_P (d + 20) j_Md_read [am_r 6 504, am_i v, am_i a]) := by
  have hX : am_m am_P (d + 20) j_Tv_read [am_r 5 0, am_i v, am_i a] M = am_at am_P (d + 19) j_Tv_read 0 [am_r 5 0, am_i v, am_i a] [] M := rfl
  have hY : am_m am_P (d + 20) j_Md_read [am_r 6 504, am_i v, am_i a] M = am_at am_P (d + 19) j_Md_read 0 [am_r 6 504, am_i v, am_i a] [] M := rfl
  obtain ⟨A, c, hR, hJ, hP⟩ := hG.sr
  obtain ⟨u1, u2, u3⟩ := hJ.un
  by_cases ha : thS M v ∧ 0 ≤ a ∧ a < M 7 v
  · have hs := (u3.2 v ha.1.1 ha.1.2.1).1
    refine AG.same hG (a := am_i (vatS M v a)) ?_ ?_
    · rw [hX, E_Tv_read_0, S_Tv_isInside, bI_some, b2_t ha, if_neg (by decide), S_St_valueAt, bI_some]
    · rw [hY, E_Md_read_0, R_isAddress (d + 16) u3 hR, bI_some, b2_t ha, if_neg (by decide), A_read (d + 15) hR hJ ha.1 (by omega), bI_some]
  · refine AG.same hG (a := am_i (-1)) ?_ ?_
    · rw [hX, E_Tv_read_0, S_Tv_isInside, bI_some, b2_f ha, if_pos rfl]
    · rw [hY, E_Md_read_0, R_isAddress (d + 16) u3 hR, bI_some, b2_f ha, if_pos rfl]
theorem J_block (d : Nat) {M : am_M} {n : Int} (hG : GR M n) (v a : Int) : AG M (n + 1) (am_m am_P (d + 20) j_Tv_block [am_r 5 0, am_i v, am_i a] M) (am_m am_P (d + 20) j_Md_block [am_r 6 504, am_i v, am_i a]) := by
  have hX : am_m am_P (d + 20) j_Tv_block [am_r 5 0, am_i v, am_i a] M = am_at am_P (d + 19) j_Tv_block 0 [am_r 5 0, am_i v, am_i a] [] M := rfl
  have hY : am_m am_P (d + 20) j_Md_block [am_r 6 504, am_i v, am_i a] M = am_at am_P (d + 19) j_Md_block 0 [am_r 6 504, am_i v, am_i a] [] M := rfl
  obtain ⟨A, c, hR, hJ, hP⟩ := hG.sr
  obtain ⟨u1, u2, u3⟩ := hJ.un
  by_cases ha : thS M v ∧ 0 ≤ a ∧ a < M 7 v
  · have hs := (u3.2 v ha.1.1 ha.1.2.1).1
    refine AG.same hG (a := am_i (blkS M v a)) ?_ ?_
    · rw [hX, E_Tv_block_0, S_Tv_isInside, bI_some, b2_t ha, if_neg (by decide), S_St_blockAt, bI_some]
    · rw [hY, E_Md_block_0, R_isAddress (d + 16) u3 hR, bI_some, b2_t ha, if_neg (by decide), A_blk (d + 16) hR hJ ha.1 (by omega), bI_some]
  · refine AG.same hG (a := am_i (-1)) ?_ ?_
    · rw [hX, E_Tv_block_0, S_Tv_isInside, bI_some, b2_f ha, if_pos rfl]
    · rw [hY, E_Md_block_0, R_isAddress (d + 16) u3 hR, bI_some, b2_f ha, if_pos rfl]
theorem J_path (d : Nat) {M : am_M} {n : Int} (hG : GR M n) (v a i : Int) : AG M (n + 1) (am_m am_P (d + 20) j_Tv_path [am_r 5 0, am_i v, am_i a, am_i i] M) (am_m am_P (d + 20) j_Md_path [am_r 6 504, am_i v, am_i a, am_i i]) := by
  have hX : am_m am_P (d + 20) j_Tv_path [am_r 5 0, am_i v, am_i a, am_i i] M = am_at am_P (d + 19) j_Tv_path 0 [am_r 5 0, am_i v, am_i a, am_i i] [] M := rfl
  have hY : am_m am_P (d + 20) j_Md_path [am_r 6 504, am_i v, am_i a, am_i i] M = am_at am_P (d + 19) j_Md_path 0 [am_r 6 504, am_i v, am_i a, am_i i] [] M := rfl
  obtain ⟨A, c, hR, hJ, hP⟩ := hG.sr
  obtain ⟨u1, u2, u3⟩ := hJ.un
  by_cases ha : thS M v ∧ 0 ≤ a ∧ a < M 7 v
  · have hs := (u3.2 v ha.1.1 ha.1.2.1).1
    by_cases hi : 0 ≤ i ∧ i ≤ 2
    · refine AG.same hG (a := am_i (decT (thgS M v a (3 - i)))) ?_ ?_
      · rw [hX, E_Tv_path_0, S_Tv_isInside, bI_some, b2_t ha, if_neg (by decide), if_neg (by omega), if_neg (by omega), wr_id (by omega) (by omega)]
        simp only [Nat.reduceAdd]
        rw [S_St_thingAt, bI_some, S_Tv_partNumber, bI_some]
        obtain ⟨w, hw⟩ : ∃ w : Nat, v = (w : Int) := ⟨v.toNat, by have := ha.1.1; omega⟩
        subst hw
        have := thg_ok hJ.1.rv hJ.1.pi ((th_st M c w).mpr ha.1) a (l := 3 - i) (by omega)
        rw [thg_st] at this
        rcases this with e | ⟨e1, e2, _⟩
        · rw [e, if_neg (by omega)]; rfl
        · rw [if_pos ⟨e1, e2⟩, decT_part ⟨e1, e2⟩]
      · rw [hY, E_Md_path_0, R_isAddress (d + 16) u3 hR, bI_some, b2_t ha, if_neg (by decide), S_Md_isIn, bI_some, b2_t hi, if_neg (by decide), wr_id (by omega) (by omega), A_part (d + 17) hR hJ ha.1 (by omega) (by omega), bI_some, show 2 - i + 1 = 3 - i by omega]
    · refine AG.same hG (a := am_i (-1)) ?_ ?_
      · rw [hX, E_Tv_path_0, S_Tv_isInside, bI_some, b2_t ha, if_neg (by decide)]
        by_cases h1 : i < 0
        · rw [if_pos h1]
        · rw [if_neg h1, if_pos (by omega)]
      · rw [hY, E_Md_path_0, R_isAddress (d + 16) u3 hR, bI_some, b2_t ha, if_neg (by decide), S_Md_isIn, bI_some, b2_f hi, if_pos rfl]
  · refine AG.same hG (a := am_i (-1)) ?_ ?_
    · rw [hX, E_Tv_path_0, S_Tv_isInside, bI_some, b2_f ha, if_pos rfl]
    · rw [hY, E_Md_path_0, R_isAddress (d + 16) u3 hR, bI_some, b2_f ha, if_pos rfl]
/-- a part in use, both sides -/
theorem isPart_iff {M : am_M} {A c : Int → Int} {n : Int} (hR : M 505 = wc A (M 4)) (hJ : JX (am_st M 4 c) A n) (hP : SP M c) (p : Int) : (0 ≤ p ∧ p < 160 ∧ ¬ M 505 (197 + 10 * p) = 0) ↔ (0 ≤ p ∧ p < 160 ∧ 0 < M 4 (p + 96)) := by
  obtain ⟨u1, -, -⟩ := hJ.un
  constructor
  · rintro ⟨h1, h2, h3⟩
    rw [hR, wc_p _ _ ⟨h1, h2⟩] at h3
    have := (u1.bd (p + 96)).1
    rw [← hP.1 _ (by omega)] at this
    exact ⟨h1, h2, by omega⟩
  · rintro ⟨h1, h2, h3⟩
    rw [hR, wc_p _ _ ⟨h1, h2⟩]
    exact ⟨h1, h2, by omega⟩
theorem J_place (d : Nat) {M : am_M} {n : Int} (hG : GR M n) (p k : Int) : AG M (n + 1) (am_m am_P (d + 20) j_Tv_place [am_r 5 0, am_i p, am_i k] M) (am_m am_P (d + 20) j_Md_place [am_r 6 504, am_i p, am_i k]) := by
  have hX : am_m am_P (d + 20) j_Tv_place [am_r 5 0, am_i p, am_i k] M = am_at am_P (d + 19) j_Tv_place 0 [am_r 5 0, am_i p, am_i k, am_u] [] M := rfl
  have hY : am_m am_P (d + 20) j_Md_place [am_r 6 504, am_i p, am_i k] M = am_at am_P (d + 19) j_Md_place 0 [am_r 6 504, am_i p, am_i k] [] M := rfl
  obtain ⟨A, c, hR, hJ, hP⟩ := hG.sr
  obtain ⟨u1, u2, u3⟩ := hJ.un
  have hiff := isPart_iff hR hJ hP p
  by_cases hp : 0 ≤ p ∧ p < 160 ∧ 0 < M 4 (p + 96)
  · by_cases hk : 0 ≤ k ∧ k ≤ 7
    · obtain ⟨r, hr⟩ : ∃ r : Nat, p = (r : Int) := ⟨p.toNat, by omega⟩
      obtain ⟨j, hj⟩ : ∃ j : Nat, k = (j : Int) := ⟨k.toNat, by omega⟩
      subst hr hj
      have hu : c ((r : Int) + 96) ≠ 0 := by rw [← hP.1 _ (by omega)]; omega
      have hat : atS (M 6) ((r : Int) + 96) j = M 6 ((r : Int) * 8 + j) := by rw [at_in ⟨by omega, by omega⟩ ⟨by omega, by omega⟩, show (r : Int) + 96 - 96 = r by omega]
      refine AG.same hG (a := am_i (dec (M 5 r) (M 6 ((r : Int) * 8 + j)))) ?_ ?_
      · rw [hX, E_Tv_place_0, S_Tv_isUsedPart, bI_some, b2_t hp, if_neg (by decide), wr_id (by omega) (by omega)]
        simp only [Nat.reduceAdd]
        rw [S_Po_at, bI_some, v_eq, hat]
        rcases (u1.kw r (by omega) hu).2 j (by omega) with e | ⟨e1, e2, e3⟩ | ⟨e1, e2, e3, e4⟩
        · rw [e, if_pos (by omega)]; rfl
        · rw [if_pos e3, e1, dec_0]
        · rw [if_neg (by omega), S_Tv_partNumber, bI_some, if_pos ⟨e2, e3⟩, dec_T (by omega), decT_part ⟨e2, e3⟩]
      · rw [hY, E_Md_place_0, S_Md_isPart, bI_some, b2_t (hiff.mpr hp), if_neg (by decide), S_Md_isIn, bI_some, b2_t hk, if_neg (by decide), S_Md_placeOf (d + 18) (by omega) (by omega), bI_some, hR, wc_l _ _ (by omega) (by omega), (u1.co r (by omega) hu).2 j (by omega)]
    · refine AG.same hG (a := am_i (-1)) ?_ ?_
      · rw [hX, E_Tv_place_0, S_Tv_isUsedPart, bI_some, b2_t hp, if_neg (by decide), wr_id (by omega) (by omega)]
        simp only [Nat.reduceAdd]
        rw [S_Po_at, bI_some, v_eq, at_out (by omega), if_pos (by decide)]
      · rw [hY, E_Md_place_0, S_Md_isPart, bI_some, b2_t (hiff.mpr hp), if_neg (by decide), S_Md_isIn, bI_some, b2_f hk, if_pos rfl]
  · refine AG.same hG (a := am_i (-1)) ?_ ?_
    · rw [hX, E_Tv_place_0, S_Tv_isUsedPart, bI_some, b2_f hp, if_pos rfl]
    · rw [hY, E_Md_place_0, S_Md_isPart, bI_some, b2_f (fun q => hp (hiff.mp q)), if_pos rfl]
theorem J_staged (d : Nat) {M : am_M} {n : Int} (hG : GR M n) (i w : Int) : AG M (n + 1) (am_m am_P (d + 20) j_Tv_staged [am_r 5 0, am_i i, am_i w] M) (am_m am_P (d + 20) j_Md_staged [am_r 6 504, am_i i, am_i w]) := by
  have hX : am_m am_P (d + 20) j_Tv_staged [am_r 5 0, am_i i, am_i w] M = am_at am_P (d + 19) j_Tv_staged 0 [am_r 5 0, am_i i, am_i w] [] M := rfl
  have hY : am_m am_P (d + 20) j_Md_staged [am_r 6 504, am_i i, am_i w] M = am_at am_P (d + 19) j_Md_staged 0 [am_r 6 504, am_i i, am_i w] [] M := rfl
  obtain ⟨-, h1, h2, h3⟩ := hG.1.2.2.2.2.2.2
  refine AG.same hG (a := am_i (tlS 498 16 M i w)) ?_ ?_
  · rw [hX, E_Tv_staged_0]
    simp only [Nat.reduceAdd]
    rw [S_Ro_told7, bI_some]
  · rw [hY, E_Md_staged_0, S_Md_isIn, bI_some, h2, wr_id (by omega) (by omega)]
    simp only [Nat.reduceAdd]
    unfold tlS
    by_cases hi : 0 ≤ i ∧ i ≤ M 498 2 - 1
    · obtain ⟨g1, g2, _⟩ := h3 i hi.1 (by omega)
      rw [b2_t hi, if_neg (by decide), S_Md_isIn, bI_some, if_pos (show 0 ≤ i ∧ i < M 498 2 ∧ i < ((16 : Nat) : Int) from ⟨hi.1, by omega, by omega⟩)]
      by_cases h0 : w = 0
      · rw [b2_t (by omega), if_neg (by decide), if_pos h0, if_pos h0, if_t (by omega), g1]
      · by_cases h11 : w = 1
        · rw [b2_t (by omega), if_neg (by decide), if_neg h0, if_neg h0, if_t (by omega), if_pos h11, g2]
        · rw [b2_f (by omega), if_pos rfl, if_neg h0, if_neg h11]
    · rw [b2_f hi, if_pos rfl, if_neg (fun q => hi ⟨q.1, by omega⟩)]
theorem J_stream (d : Nat) {M : am_M} {n : Int} (hG : GR M n) (i w : Int) : AG M (n + 1) (am_m am_P (d + 20) j_Tv_stream [am_r 5 0, am_i i, am_i w] M) (am_m am_P (d + 20) j_Md_stream [am_r 6 504, am_i i, am_i w]) := by
  have hX : am_m am_P (d + 20) j_Tv_stream [am_r 5 0, am_i i, am_i w] M = am_at am_P (d + 19) j_Tv_stream 0 [am_r 5 0, am_i i, am_i w] [] M := rfl
  have hY : am_m am_P (d + 20) j_Md_stream [am_r 6 504, am_i i, am_i w] M = am_at am_P (d + 19) j_Md_stream 0 [am_r 6 504, am_i i, am_i w] [] M := rfl
  obtain ⟨⟨h1, h2, h3⟩, -⟩ := hG.1.2.2.2.2.2.2
  refine AG.same hG (a := am_i (tlS 495 512 M i w)) ?_ ?_
  · rw [hX, E_Tv_stream_0]
    simp only [Nat.reduceAdd]
    rw [S_Ro_told3, bI_some]
  · rw [hY, E_Md_stream_0, S_Md_isIn, bI_some, h2, wr_id (by omega) (by omega)]
    simp only [Nat.reduceAdd]
    unfold tlS
    by_cases hi : 0 ≤ i ∧ i ≤ M 495 2 - 1
    · obtain ⟨g1, g2, _⟩ := h3 i hi.1 (by omega)
      rw [b2_t hi, if_neg (by decide), S_Md_isIn, bI_some, if_pos (show 0 ≤ i ∧ i < M 495 2 ∧ i < ((512 : Nat) : Int) from ⟨hi.1, by omega, by omega⟩)]
      by_cases h0 : w = 0
      · rw [b2_t (by omega), if_neg (by decide), if_pos h0, if_pos h0, if_t (by omega), g1]
      · by_cases h11 : w = 1
        · rw [b2_t (by omega), if_neg (by decide), if_neg h0, if_neg h0, if_t (by omega), if_pos h11, g2]
        · rw [b2_f (by omega), if_pos rfl, if_neg h0, if_neg h11]
    · rw [b2_f hi, if_pos rfl, if_neg (fun q => hi ⟨q.1, by omega⟩)]
theorem J_wrong (d : Nat) {M : am_M} {n : Int} (hG : GR M n) : AG M (n + 1) (am_m am_P (d + 20) j_Tv_wrong [am_r 5 0] M) (am_m am_P (d + 20) j_Md_wrong [am_r 6 504]) := by
  have hX : am_m am_P (d + 20) j_Tv_wrong [am_r 5 0] M = am_at am_P (d + 19) j_Tv_wrong 0 [am_r 5 0] [] M := rfl
  obtain ⟨A, c, hR, hJ, hP⟩ := hG.sr
  obtain ⟨c1, c2⟩ := cp_sp 503 (by decide) M
  have hw : fwrS 503 (cpS 503 M) = wrS M c := by
    unfold fwrS wrS
    have hcond : ∀ t : Int, TA t → (¬ cpS 503 M 4 t = cpS 503 M 503 t ↔ ¬ M 4 t = c t) := fun t ht => by rw [c1 4 (by decide), c2 t ht, hP.cnt hJ ht]
    rcases fd_spec (p := fun b => ¬ M 4 b = c b) (dp := fun _ => inferInstance) 96 0 with ⟨e1, e2⟩ | ⟨e1, e2, e3, e4⟩
    · rcases fd_spec (p := fun t => ¬ cpS 503 M 4 t = cpS 503 M 503 t) (dp := fun _ => inferInstance) 256 0 with ⟨f1, _⟩ | ⟨f1, f2, f3, _⟩
      · rw [e1]; exact f1
      · exfalso
        generalize fd (fun t => ¬ cpS 503 M 4 t = cpS 503 M 503 t) (fun _ => inferInstance) 0 256 = z at f1 f2 f3
        have := (hcond z ⟨f1, by omega⟩).mp f3
        by_cases hz : z < 96
        · exact e2 z f1 (by omega) this
        · exact this (hP.1 z (by omega))
    · rcases fd_spec (p := fun t => ¬ cpS 503 M 4 t = cpS 503 M 503 t) (dp := fun _ => inferInstance) 256 0 with ⟨_, f2⟩ | ⟨f1, f2, f3, f4⟩
      · exfalso
        generalize fd (fun b => ¬ M 4 b = c b) (fun _ => inferInstance) 0 96 = z at e1 e2 e3
        exact f2 z e1 (by omega) ((hcond z ⟨e1, by omega⟩).mpr e3)
      · generalize fd (fun b => ¬ M 4 b = c b) (fun _ => inferInstance) 0 96 = z at e1 e2 e3 e4 ⊢
        generalize fd (fun t => ¬ cpS 503 M 4 t = cpS 503 M 503 t) (fun _ => inferInstance) 0 256 = y at f1 f2 f3 f4 ⊢
        have hy := (hcond y ⟨f1, by omega⟩).mp f3
        have hz := (hcond z ⟨e1, by omega⟩).mpr e3
        rcases (show y < z ∨ y = z ∨ z < y by omega) with h | h | h
        · exact absurd hy (e4 y f1 h)
        · exact h
        · exact absurd hz (f4 z e1 h)
  unfold AG
  refine ⟨am_i (wrS M c), cpS 503 M, mem2 (cpS 503 M) (lyS c (M 6) (M 10) (cpS 503 M 508, cpS 503 M 509)), ?_, ?_, ?_⟩
  · rw [hX, E_Tv_wrong_0]
    simp only [Nat.reduceAdd]
    rw [S_St_firstWrong, bI_some, hw]
  · exact S_Md_wrong (d + 16) hJ hP (by rw [c1 505 (by decide)]; exact hR)
  · exact RF.gr hG (by omega) (fun k hk => c1 k (by omega)) (RF.mem2 _ _)
