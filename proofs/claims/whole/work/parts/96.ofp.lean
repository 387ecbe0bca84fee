/-! TOLD: ofPart, ofBlock, leaves -/
theorem A_filled (d : Nat) {A c c' kd pl tr ex : Int → Int} (u : PI A c kd pl tr ex) {N : am_M} (hN : N 505 = wc A c') {p : Nat} (hp : p < 160) (hu : c ((p : Int) + 96) ≠ 0) : am_m am_P (d + 2) j_Md_filled [am_r 6 504, am_i p] N = some (some (am_i (sm (fun k => if atS pl ((p : Int) + 96) k = -1 then 0 else 1) 8)), N) := by
  show am_at am_P (d + 1) j_Md_filled 0 [am_r 6 504, am_i p, am_u, am_u] [] N = _
  rw [E_Md_filled_0, v_eq, v_eq]
  refine lp_sum (F := fun s i => am_at am_P (d + 1) j_Md_filled 4 [am_r 6 504, am_i p, am_i s, am_i i] [] N) (f := fun k => if atS pl ((p : Int) + 96) k = -1 then 0 else 1) (n := 8) ?_ ?_
  · try dsimp only
    rw [E_Md_filled_4, if_neg (by omega)]
  · intro i hi
    try dsimp only
    have hb := sm_bd (f := fun k => if atS pl ((p : Int) + 96) k = -1 then 0 else 1) (c := 1) i (fun k _ => by (try dsimp only); split <;> omega)
    have hat : atS pl ((p : Int) + 96) i = pl ((p : Int) * 8 + i) := by rw [at_in ⟨by omega, by omega⟩ ⟨by omega, by omega⟩, show (p : Int) + 96 - 96 = p by omega]
    rw [E_Md_filled_4, if_pos (by omega), S_Md_placeOf d (by omega) (by omega), bI_some, hN, wc_l _ _ (by omega) (by omega), (u.co p hp hu).2 i hi, hat]
    generalize sm (fun k => if atS pl ((p : Int) + 96) k = -1 then 0 else 1) i = s at hb ⊢
    rcases u.kw.ft hp hi hu with e | e
    · rw [e, show dec (kd p) (-1) = -1 from if_pos rfl, if_pos rfl, if_pos rfl, v_eq, v_eq, wr_id (by omega) (by omega), wr_id (by omega) (by omega)]
    · rw [if_neg (FT_dec e), if_neg (FT_ne e), v_eq, v_eq, wr_id (by omega) (by omega), wr_id (by omega) (by omega)]
theorem J_ofPart (d : Nat) {M : am_M} {n : Int} (hG : GR M n) (p w : Int) : AG M (n + 1) (am_m am_P (d + 20) j_Tv_ofPart [am_r 5 0, am_i p, am_i w] M) (am_m am_P (d + 20) j_Md_ofPart [am_r 6 504, am_i p, am_i w]) := by
  have hX : am_m am_P (d + 20) j_Tv_ofPart [am_r 5 0, am_i p, am_i w] M = am_at am_P (d + 19) j_Tv_ofPart 0 [am_r 5 0, am_i p, am_i w] [] M := rfl
  have hY : am_m am_P (d + 20) j_Md_ofPart [am_r 6 504, am_i p, am_i w] M = am_at am_P (d + 19) j_Md_ofPart 0 [am_r 6 504, am_i p, am_i w] [] M := rfl
  obtain ⟨A, c, hR, hJ, hP⟩ := hG.sr
  obtain ⟨u1, u2, u3⟩ := hJ.un
  have hiff := isPart_iff hR hJ hP p
  by_cases hp : 0 ≤ p ∧ p < 160 ∧ 0 < M 4 (p + 96)
  · obtain ⟨r, hr⟩ : ∃ r : Nat, p = (r : Int) := ⟨p.toNat, by omega⟩
    subst hr
    have hu : c ((r : Int) + 96) ≠ 0 := by rw [← hP.1 _ (by omega)]; omega
    have hc0 : am_at am_P (d + 19) j_Tv_ofPart 0 [am_r 5 0, am_i (r : Int), am_i w] [] M = (if w = 0 then some (some (am_i (M 5 r)), M) else if w = 1 then some (some (am_i (M 4 ((r : Int) + 96))), M) else if w = 2 then some (some (am_i (sm (fun k => if atS (M 6) ((r : Int) + 96) k = -1 then 0 else 1) 8)), M) else some (some (am_i (-1)), M)) := by
      rw [E_Tv_ofPart_0, S_Tv_isUsedPart, bI_some, b2_t hp, if_neg (by decide), wr_id (by omega) (by omega)]
      simp only [Nat.reduceAdd]
      rw [S_Po_kindOf (d + 17), bI_some, S_Po_countOf (d + 17), bI_some, S_Po_filledPlaces (d + 17), bI_some]
      have e1 : kndS (M 4) (M 5) ((r : Int) + 96) = M 5 r := by unfold kndS; rw [if_pos ⟨by omega, by omega, hp.2.2⟩, show (r : Int) + 96 - 96 = r by omega]
      have e2 : cntS (M 4) ((r : Int) + 96) = M 4 ((r : Int) + 96) := if_pos ⟨by omega, by omega⟩
      rw [e1, e2]
    have hr0 : am_at am_P (d + 19) j_Md_ofPart 0 [am_r 6 504, am_i (r : Int), am_i w] [] M = (if w = 0 then some (some (am_i (M 5 r)), M) else if w = 1 then some (some (am_i (M 4 ((r : Int) + 96))), M) else if w = 2 then some (some (am_i (sm (fun k => if atS (M 6) ((r : Int) + 96) k = -1 then 0 else 1) 8)), M) else some (some (am_i (-1)), M)) := by
      rw [E_Md_ofPart_0, S_Md_isPart, bI_some, b2_t (hiff.mpr hp), if_neg (by decide), S_Md_kindOf (d + 18) (by omega), bI_some, S_Md_partCount (d + 18) (by omega), bI_some, A_filled (d + 17) u1 hR (by omega) hu, bI_some, hR, wc_k _ _ (by omega), wc_p _ _ (by omega), (u1.co r (by omega) hu).1]
    rcases (show w = 0 ∨ w = 1 ∨ w = 2 ∨ (w ≠ 0 ∧ w ≠ 1 ∧ w ≠ 2) by omega) with rfl | rfl | rfl | ⟨q0, q1, q2⟩
    · exact AG.same hG (a := am_i (M 5 r)) (by rw [hX, hc0, if_pos rfl]) (by rw [hY, hr0, if_pos rfl])
    · exact AG.same hG (a := am_i (M 4 ((r : Int) + 96))) (by rw [hX, hc0, if_neg (by decide), if_pos rfl]) (by rw [hY, hr0, if_neg (by decide), if_pos rfl])
    · exact AG.same hG (a := am_i (sm (fun k => if atS (M 6) ((r : Int) + 96) k = -1 then 0 else 1) 8)) (by rw [hX, hc0, if_neg (by decide), if_neg (by decide), if_pos rfl]) (by rw [hY, hr0, if_neg (by decide), if_neg (by decide), if_pos rfl])
    · exact AG.same hG (a := am_i (-1)) (by rw [hX, hc0, if_neg q0, if_neg q1, if_neg q2]) (by rw [hY, hr0, if_neg q0, if_neg q1, if_neg q2])
  · refine AG.same hG (a := am_i (-1)) ?_ ?_
    · rw [hX, E_Tv_ofPart_0, S_Tv_isUsedPart, bI_some, b2_f hp, if_pos rfl]
    · rw [hY, E_Md_ofPart_0, S_Md_isPart, bI_some, b2_f (fun q => hp (hiff.mp q)), if_pos rfl]
/-- in how many places a block is, as the class counts it -/
theorem places_c {M : am_M} {A c : Int → Int} {n : Int} (hJ : JX (am_st M 4 c) A n) (hP : SP M c) {b : Int} (hb : 0 ≤ b ∧ b < 96) : sm (fun i => if kndS (M 4) (M 5) (i + 96) = 0 then tmS M (i + 96) b else 0) 160 = c b := by
  obtain ⟨u1, u2, u3⟩ := hJ.un
  have hx := u1.xc b ⟨hb.1, by omega⟩
  (try dsimp only at hx)
  have hT : rfT (M 10) b = 0 := sm_zero 12 (fun v hv => by
    (try dsimp only)
    refine if_neg (fun e => ?_)
    rcases (u2 v hv).1 with q | q
    · omega
    · omega)
  have hS : sm (fun i => if kndS (M 4) (M 5) (i + 96) = 0 then tmS M (i + 96) b else 0) 160 = rfP c (M 6) b := by
    unfold rfP
    refine sm_congr 160 (fun p hp => ?_)
    (try dsimp only)
    have hc : M 4 ((p : Int) + 96) = c ((p : Int) + 96) := hP.1 _ (by omega)
    have hc0 := (u1.bd ((p : Int) + 96)).1
    have hat : ∀ k : Nat, k < 8 → atS (M 6) ((p : Int) + 96) k = M 6 ((p : Int) * 8 + k) := fun k hk => by rw [at_in ⟨by omega, by omega⟩ ⟨by omega, by omega⟩, show (p : Int) + 96 - 96 = p by omega]
    unfold kndS
    by_cases h0 : c ((p : Int) + 96) = 0
    · rw [if_pos h0, if_neg (show ¬ (96 ≤ (p : Int) + 96 ∧ (p : Int) + 96 < 256 ∧ 0 < M 4 ((p : Int) + 96)) from fun q => by have := q.2.2; omega), if_neg (by decide)]
    · rw [if_neg h0, if_pos (show 96 ≤ (p : Int) + 96 ∧ (p : Int) + 96 < 256 ∧ 0 < M 4 ((p : Int) + 96) from ⟨by omega, by omega, by omega⟩), show (p : Int) + 96 - 96 = p by omega]
      by_cases hk : M 5 p = 0
      · rw [if_pos hk]
        unfold tmS
        exact sm_congr 8 (fun k hk8 => by (try dsimp only); rw [hat k hk8])
      · rw [if_neg hk]
        exact (sm_zero 8 (fun k hk8 => by
          (try dsimp only)
          refine if_neg (fun e => ?_)
          rcases (u1.kw p hp h0).2 k hk8 with q | ⟨q, _⟩ | ⟨_, q, _⟩
          · omega
          · exact hk q
          · omega)).symm
  rw [hS]
  omega
theorem blk_iff {M : am_M} {A c : Int → Int} (hR : M 505 = wc A (M 4)) (hP : SP M c) (b : Int) : (0 ≤ b ∧ b < 96 ∧ ¬ M 505 (5 + 2 * b) = 0) ↔ (0 ≤ b ∧ b < 96 ∧ 0 < M 4 b) := by
  constructor
  · rintro ⟨h1, h2, h3⟩
    rw [A_cnt hR hP ⟨h1, h2⟩] at h3
    have := (hP.2.1 b h1 h2).1
    exact ⟨h1, h2, by omega⟩
  · rintro ⟨h1, h2, h3⟩
    rw [A_cnt hR hP ⟨h1, h2⟩]
    exact ⟨h1, h2, by omega⟩
theorem J_ofBlock (d : Nat) {M : am_M} {n : Int} (hG : GR M n) (b w : Int) : AG M (n + 1) (am_m am_P (d + 20) j_Tv_ofBlock [am_r 5 0, am_i b, am_i w] M) (am_m am_P (d + 20) j_Md_ofBlock [am_r 6 504, am_i b, am_i w]) := by
  have hX : am_m am_P (d + 20) j_Tv_ofBlock [am_r 5 0, am_i b, am_i w] M = am_at am_P (d + 19) j_Tv_ofBlock 0 [am_r 5 0, am_i b, am_i w] [] M := rfl
  have hY : am_m am_P (d + 20) j_Md_ofBlock [am_r 6 504, am_i b, am_i w] M = am_at am_P (d + 19) j_Md_ofBlock 0 [am_r 6 504, am_i b, am_i w] [] M := rfl
  obtain ⟨A, c, hR, hJ, hP⟩ := hG.sr
  obtain ⟨u1, u2, u3⟩ := hJ.un
  have hiff := blk_iff hR hP b
  by_cases hb : 0 ≤ b ∧ b < 96 ∧ 0 < M 4 b
  · have hbr : 0 ≤ b ∧ b < 96 := ⟨hb.1, hb.2.1⟩
    have hl := fun t ht => SP.lay hJ (s := (M 508, M 509)) (t := t) ht
    have hlay := S_Md_layPlaces (d + 16) u1 u2 u3 (fun t ht => hP.1 t (by omega)) hR
    generalize lyS c (M 6) (M 10) (M 508, M 509) = s at hlay hl
    have hval : A (4 + 2 * b) = M 3 b := by
      have := (hJ.1.rb b hb.1 hb.2.1 (by rw [st_eq]; exact fun q => by have := (hP.2.1 b hb.1 hb.2.1).2.2.mpr q; omega)).1
      rw [st_ne _ _ (by decide)] at this
      exact this
    have hc0 : am_at am_P (d + 19) j_Tv_ofBlock 0 [am_r 5 0, am_i b, am_i w] [] M = (if w = 0 then some (some (am_i (M 3 b)), M) else if w = 1 then some (some (am_i (M 4 b)), M) else if w = 2 then some (some (am_i (c b)), M) else some (some (am_i (-1)), M)) := by
      rw [E_Tv_ofBlock_0]
      simp only [Nat.reduceAdd]
      rw [S_Po_isUsedBlock, bI_some, b2_t hb, if_neg (by decide), S_Po_valueOf (d + 18), bI_some, S_Po_countOf (d + 17), bI_some, S_Po_placesOf (d + 16), bI_some, places_c hJ hP hbr]
      have e1 : valS (M 3) b = M 3 b := if_pos hbr
      have e2 : cntS (M 4) b = M 4 b := if_pos ⟨hb.1, by omega⟩
      rw [e1, e2]
    have hr0 : am_at am_P (d + 19) j_Md_ofBlock 0 [am_r 6 504, am_i b, am_i w] [] M = (if w = 0 then some (some (am_i (M 3 b)), mem2 M s) else if w = 1 then some (some (am_i (M 4 b)), mem2 M s) else if w = 2 then some (some (am_i (c b)), mem2 M s) else some (some (am_i (-1)), mem2 M s)) := by
      have e8 : mem2 M s 508 b = c b := by
        rw [mem2_8]
        have := hl b ⟨hb.1, by omega⟩
        unfold lyV at this
        rw [if_pos hb.2.1] at this
        exact this
      rw [E_Md_ofBlock_0, S_Md_isBlock, bI_some, b2_t (hiff.mpr hb), if_neg (by decide), hlay, bV_some, S_Md_valueOf (d + 18) hbr, bI_some, S_Md_blockCount (d + 18) hbr, bI_some, if_t hbr]
      simp only [Nat.reduceAdd]
      rw [e8, mem2_o _ _ (by decide) (by decide), A_cnt hR hP hbr, hR, wc_v _ _ hbr, hval]
    have hgr := RF.gr (n' := n + 1) hG (by omega) (fun k hk => rfl) (RF.mem2 M s)
    rcases (show w = 0 ∨ w = 1 ∨ w = 2 ∨ (w ≠ 0 ∧ w ≠ 1 ∧ w ≠ 2) by omega) with rfl | rfl | rfl | ⟨q0, q1, q2⟩
    · exact ⟨am_i (M 3 b), M, mem2 M s, by rw [hX, hc0, if_pos rfl], by rw [hY, hr0, if_pos rfl], hgr⟩
    · exact ⟨am_i (M 4 b), M, mem2 M s, by rw [hX, hc0, if_neg (by decide), if_pos rfl], by rw [hY, hr0, if_neg (by decide), if_pos rfl], hgr⟩
    · exact ⟨am_i (c b), M, mem2 M s, by rw [hX, hc0, if_neg (by decide), if_neg (by decide), if_pos rfl], by rw [hY, hr0, if_neg (by decide), if_neg (by decide), if_pos rfl], hgr⟩
    · exact ⟨am_i (-1), M, mem2 M s, by rw [hX, hc0, if_neg q0, if_neg q1, if_neg q2], by rw [hY, hr0, if_neg q0, if_neg q1, if_neg q2], hgr⟩
  · refine AG.same hG (a := am_i (-1)) ?_ ?_
    · rw [hX, E_Tv_ofBlock_0]
      simp only [Nat.reduceAdd]
      rw [S_Po_isUsedBlock, bI_some, b2_f hb, if_pos rfl]
    · rw [hY, E_Md_ofBlock_0, S_Md_isBlock, bI_some, b2_f (fun q => hb (hiff.mp q)), if_pos rfl]
theorem A_holds (d : Nat) {A c c' kd pl tr ex : Int → Int} (u : PI A c kd pl tr ex) {N : am_M} (hN : N 505 = wc A c') {p : Nat} (hp : p < 160) (hu : c ((p : Int) + 96) ≠ 0) (hk : kd p = 0) (b : Int) : am_m am_P (d + 2) j_Md_holdsBlock [am_r 6 504, am_i p, am_i b] N = some (some (am_i (if 0 < sm (fun k => if atS pl ((p : Int) + 96) k = b then 1 else 0) 8 then 1 else 0)), N) := by
  show am_at am_P (d + 1) j_Md_holdsBlock 0 [am_r 6 504, am_i p, am_i b, am_u] [] N = _
  rw [E_Md_holdsBlock_0, v_eq]
  have hat : ∀ i : Int, 0 ≤ i → i < 8 → atS pl ((p : Int) + 96) i = pl ((p : Int) * 8 + i) := fun i h1 h2 => by rw [at_in ⟨by omega, by omega⟩ ⟨h1, h2⟩, show (p : Int) + 96 - 96 = p by omega]
  have key := lp_fd (F := fun i => am_at am_P (d + 1) j_Md_holdsBlock 2 [am_r 6 504, am_i p, am_i b, am_i i] [] N) (p := fun i => pl ((p : Int) * 8 + i) = b) (dp := fun _ => inferInstance) (a := 0) (k := 8) (r := fun i => some (some (am_i (if i = -1 then 0 else 1)), N)) (by
    try dsimp only
    rw [E_Md_holdsBlock_2, if_neg (by omega), if_t (by omega), if_pos rfl]) (by
    intro i h1 h2
    try dsimp only
    have e : A (198 + 10 * (p : Int) + i) = pl ((p : Int) * 8 + i) := by
      obtain ⟨j, hj⟩ : ∃ j : Nat, i = (j : Int) := ⟨i.toNat, by omega⟩
      rw [hj, (u.co p hp hu).2 j (by omega), hk, dec_0]
    rw [E_Md_holdsBlock_2, if_pos (by omega), S_Md_placeOf d (by omega) (by omega), bI_some, hN, wc_l _ _ (by omega) (by omega), e]
    by_cases h0 : pl ((p : Int) * 8 + i) = b
    · rw [if_pos h0, if_pos h0, if_t (by omega), if_neg (show ¬ i = -1 by omega)]
    · rw [if_neg h0, if_neg h0, v_eq, wr_id (by omega) (by omega)])
  refine Eq.trans key ?_
  rcases fd_spec (p := fun i => pl ((p : Int) * 8 + i) = b) (dp := fun _ => inferInstance) 8 0 with ⟨e1, e2⟩ | ⟨e1, e2, e3, _⟩
  · rw [e1, if_pos rfl, if_neg]
    have : sm (fun k => if atS pl ((p : Int) + 96) k = b then 1 else 0) 8 = 0 := sm_zero 8 (fun k hk8 => by
      (try dsimp only)
      rw [hat k (by omega) (by omega)]
      exact if_neg (e2 k (by omega) (by omega)))
    omega
  · rw [if_neg (by omega), if_pos]
    generalize fd (fun i => pl ((p : Int) * 8 + i) = b) (fun _ => inferInstance) 0 8 = z at e1 e2 e3
    obtain ⟨j, hj⟩ : ∃ j : Nat, z = (j : Int) := ⟨z.toNat, by omega⟩
    subst hj
    have := sm_ge (f := fun k => if atS pl ((p : Int) + 96) k = b then 1 else 0) 8 j (by omega) (fun i _ => by (try dsimp only); split <;> omega)
    (try dsimp only at this)
    rw [hat j (by omega) (by omega), if_pos e3] at this
    exact this
theorem J_leaves (d : Nat) {M : am_M} {n : Int} (hG : GR M n) (b : Int) : AG M (n + 1) (am_m am_P (d + 20) j_Tv_leaves [am_r 5 0, am_i b] M) (am_m am_P (d + 20) j_Md_leaves [am_r 6 504, am_i b]) := by
  have hX : am_m am_P (d + 20) j_Tv_leaves [am_r 5 0, am_i b] M = am_at am_P (d + 19) j_Tv_leaves 0 [am_r 5 0, am_i b] [] M := rfl
  have hY : am_m am_P (d + 20) j_Md_leaves [am_r 6 504, am_i b] M = am_at am_P (d + 19) j_Md_leaves 0 [am_r 6 504, am_i b, am_u, am_u] [] M := rfl
  obtain ⟨A, c, hR, hJ, hP⟩ := hG.sr
  obtain ⟨u1, u2, u3⟩ := hJ.un
  have hiff := blk_iff hR hP b
  by_cases hb : 0 ≤ b ∧ b < 96 ∧ 0 < M 4 b
  · refine AG.same hG (a := am_i (sm (fun i => if kndS (M 4) (M 5) (i + 96) = 0 ∧ 0 < tmS M (i + 96) b then 1 else 0) 160)) ?_ ?_
    · rw [hX, E_Tv_leaves_0]
      simp only [Nat.reduceAdd]
      rw [S_Po_isUsedBlock, bI_some, b2_t hb, if_neg (by decide), S_Po_leavesWith (d + 16), bI_some]
    · rw [hY, E_Md_leaves_0, S_Md_isBlock, bI_some, b2_t (hiff.mpr hb), if_neg (by decide), v_eq, v_eq]
      refine lp_sum (F := fun s i => am_at am_P (d + 19) j_Md_leaves 14 [am_r 6 504, am_i b, am_i s, am_i i] [] M) (f := fun i => if kndS (M 4) (M 5) (i + 96) = 0 ∧ 0 < tmS M (i + 96) b then 1 else 0) (n := 160) ?_ ?_
      · try dsimp only
        rw [E_Md_leaves_14, if_neg (by omega)]
      · intro i hi
        try dsimp only
        have hbd := sm_bd (f := fun i => if kndS (M 4) (M 5) (i + 96) = 0 ∧ 0 < tmS M (i + 96) b then 1 else 0) (c := 1) i (fun k _ => by (try dsimp only); split <;> omega)
        have hpi := isPart_iff hR hJ hP i
        rw [E_Md_leaves_14, if_pos (by omega), S_Md_isPart, bI_some]
        generalize sm (fun i => if kndS (M 4) (M 5) (i + 96) = 0 ∧ 0 < tmS M (i + 96) b then 1 else 0) i = s at hbd ⊢
        by_cases hp : 0 ≤ (i : Int) ∧ (i : Int) < 160 ∧ 0 < M 4 ((i : Int) + 96)
        · have hu : c ((i : Int) + 96) ≠ 0 := by rw [← hP.1 _ (by omega)]; omega
          have e1 : kndS (M 4) (M 5) ((i : Int) + 96) = M 5 i := by unfold kndS; rw [if_pos ⟨by omega, by omega, hp.2.2⟩, show (i : Int) + 96 - 96 = i by omega]
          rw [b2_t (hpi.mpr hp), if_neg (by decide), S_Md_kindOf (d + 18) (by omega), bI_some, hR, wc_k _ _ (by omega), (u1.co i hi hu).1, e1]
          by_cases hk : M 5 i = 0
          · rw [if_pos hk, A_holds (d + 17) u1 hR hi hu hk b, bI_some]
            by_cases ht : 0 < tmS M ((i : Int) + 96) b
            · have ht' : 0 < sm (fun k => if atS (M 6) ((i : Int) + 96) k = b then 1 else 0) 8 := ht
              rw [if_pos ht', if_neg (by decide), if_pos ⟨hk, ht⟩, v_eq, v_eq, wr_id (by omega) (by omega), wr_id (by omega) (by omega)]
            · have ht' : ¬ 0 < sm (fun k => if atS (M 6) ((i : Int) + 96) k = b then 1 else 0) 8 := ht
              rw [if_neg ht', if_pos rfl, if_neg (fun q => ht q.2), v_eq, v_eq, wr_id (by omega) (by omega), wr_id (by omega) (by omega)]
          · rw [if_neg hk, if_neg (fun q => hk q.1), v_eq, v_eq, wr_id (by omega) (by omega), wr_id (by omega) (by omega)]
        · have e1 : kndS (M 4) (M 5) ((i : Int) + 96) = -1 := by unfold kndS; rw [if_neg (fun q => hp ⟨by omega, by omega, q.2.2⟩)]
          rw [b2_f (fun q => hp (hpi.mp q)), if_pos rfl, e1, if_neg (fun q => by have := q.1; omega), v_eq, v_eq, wr_id (by omega) (by omega), wr_id (by omega) (by omega)]
  · refine AG.same hG (a := am_i (-1)) ?_ ?_
    · rw [hX, E_Tv_leaves_0]
      simp only [Nat.reduceAdd]
      rw [S_Po_isUsedBlock, bI_some, b2_f hb, if_pos rfl]
    · rw [hY, E_Md_leaves_0, S_Md_isBlock, bI_some, b2_f (fun q => hb (hiff.mp q)), if_pos rfl]
