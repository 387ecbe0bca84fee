/-! WRITTEN behind the opening, and the whole of it -/
theorem WR.hang {M : am_M} {A ex : Int → Int} (h : PI A (M 4) (M 5) (M 6) (M 10) ex) (hV : RV M A) {v : Int} {o k : Nat} (ho : o < 160) (hk : k < 8) (hu : M 4 ((o : Int) + 96) ≠ 0) (hkd : M 5 o = 0) {b : Int} (hb : 0 ≤ b ∧ b < 96) (hB : ∀ y : Int, 0 ≤ y → y < 96 → (M 4 y ≠ 0 ∨ y = b) → A (4 + 2 * y) = M 3 y ∧ 0 ≤ M 3 y ∧ M 3 y ≤ 999999) (d : Nat) (N : am_M) :
    WR A ex M v N (1, hangS M ((o : Int) + 96) k b) (am_bV (am_m am_P (d + 8) j_Md_hang [am_r 6 504, am_i o, am_i k, am_i b] (am_st N 505 (wc A (M 4)))) fun M29 => some (none, M29)) := by
  obtain ⟨g1, g2, g3, g4⟩ := blk_hang h ho hk hu hkd hb d N
  have hz := @hang_z M _ ex o k ho hk b (fun y => by have := h.bd y; omega) g2
  rw [g1, bV_some]
  refine ⟨fun r _ h4 _ h6 _ => g4 r h4 h6, Or.inr ⟨am_up A (198 + 10 * (o : Int) + k) b, rfl, rfl, ?_, ?_, ?_, ?_, ?_⟩⟩
  · (try dsimp only); rw [g4 5 (by decide) (by decide), g4 10 (by decide) (by decide)]; exact g2
  · exact hang_RV (by omega) hV (g4 5 (by decide) (by decide)) (g4 7 (by decide) (by decide)) (g4 10 (by decide) (by decide))
  · intro y h0 h1 hy
    (try dsimp only at hy ⊢)
    rw [up_ne _ _ (by omega), g4 3 (by decide) (by decide)]
    refine hB y h0 h1 ?_
    by_cases e : y = b
    · exact Or.inr e
    · exact Or.inl (fun e0 => hy (hz e e0))
  · intro w _; (try dsimp only); rw [g4 10 (by decide) (by decide)]
  · intro y hy _; rw [up_ne _ _ (by omega)]
theorem put_leaf (d : Nat) {ex : Int → Int} {v : Nat} {x : Int} (hx : 0 ≤ x ∧ x ≤ 999999) (N : am_M) {M : am_M} {A : Int → Int} (h : PI A (M 4) (M 5) (M 6) (M 10) ex) (hV : RV M A) (hB : RB M A) (hlk : A 2 = M 1 9) {o k : Nat} (ho : o < 160) (hk : k < 8) (hu : M 4 ((o : Int) + 96) ≠ 0) (hkd : M 5 o = 0) {X : Option am_O}
    (hX : X = am_bI (am_m am_P (d + 9) j_Md_placeOf [am_r 6 504, am_i o, am_i k] (am_st N 505 (wc A (M 4)))) fun x8 M7 => am_v x8 fun x9 => am_if ((0 : Int) ≤ 2 ∧ (2 : Int) < 32336) (if (M7 (504 + 1) 2) = 1 then (am_bI (am_m am_P (d + 9) j_Md_blockWith [am_r 6 504, am_i x] M7) fun x24 M23 => am_v x24 fun x25 => if x25 = (-1) then (if x9 = (-1) then (am_bI (am_m am_P (d + 9) j_Md_newBlock [am_r 6 504, am_i x] M23) fun x27 M26 => am_v x27 fun x28 => if x28 = (-1) then (some (none, M26)) else (am_bV (am_m am_P (d + 9) j_Md_hang [am_r 6 504, am_i o, am_i k, am_i x28] M26) fun M29 => some (none, M29))) else (am_bI (am_m am_P (d + 9) j_Md_blockCount [am_r 6 504, am_i x9] M23) fun x31 M30 => if x31 = 1 then (am_bV (am_m am_P (d + 9) j_Md_letBlock [am_r 6 504, am_i x9, am_i x, am_i 1] M30) fun M36 => some (none, M36)) else (am_bI (am_m am_P (d + 9) j_Md_newBlock [am_r 6 504, am_i x] M30) fun x33 M32 => am_v x33 fun x34 => if x34 = (-1) then (some (none, M32)) else (am_bV (am_m am_P (d + 9) j_Md_hang [am_r 6 504, am_i o, am_i k, am_i x34] M32) fun M35 => some (none, M35))))) else (if x25 = x9 then (some (none, M23)) else (am_bV (am_m am_P (d + 9) j_Md_hang [am_r 6 504, am_i o, am_i k, am_i x25] M23) fun M37 => some (none, M37)))) else (am_v (-1) fun x10 => if x10 = (-1) then (if x9 = (-1) then (am_bI (am_m am_P (d + 9) j_Md_newBlock [am_r 6 504, am_i x] M7) fun x12 M11 => am_v x12 fun x13 => if x13 = (-1) then (some (none, M11)) else (am_bV (am_m am_P (d + 9) j_Md_hang [am_r 6 504, am_i o, am_i k, am_i x13] M11) fun M14 => some (none, M14))) else (am_bI (am_m am_P (d + 9) j_Md_blockCount [am_r 6 504, am_i x9] M7) fun x16 M15 => if x16 = 1 then (am_bV (am_m am_P (d + 9) j_Md_letBlock [am_r 6 504, am_i x9, am_i x, am_i 1] M15) fun M21 => some (none, M21)) else (am_bI (am_m am_P (d + 9) j_Md_newBlock [am_r 6 504, am_i x] M15) fun x18 M17 => am_v x18 fun x19 => if x19 = (-1) then (some (none, M17)) else (am_bV (am_m am_P (d + 9) j_Md_hang [am_r 6 504, am_i o, am_i k, am_i x19] M17) fun M20 => some (none, M20))))) else (if x10 = x9 then (some (none, M7)) else (am_bV (am_m am_P (d + 9) j_Md_hang [am_r 6 504, am_i o, am_i k, am_i x10] M7) fun M22 => some (none, M22)))))) :
    WR A ex M v N (pu2 M ((o : Int) + 96) k x) X := by
  subst hX
  have hc := fun y => (h.bd y).1
  have eA : A (198 + 10 * (o : Int) + k) = M 6 ((o : Int) * 8 + k) := by
    rw [(h.co o ho hu).2 k hk, hkd]; unfold dec
    split
    · next e => exact e.symm
    · rw [if_pos rfl]
  have hat : atS (M 6) ((o : Int) + 96) k = M 6 ((o : Int) * 8 + k) := by
    rw [at_in (by omega) (by omega), show (o : Int) + 96 - 96 = o by omega]
  have ht : M 6 ((o : Int) * 8 + k) = -1 ∨ (0 ≤ M 6 ((o : Int) * 8 + k) ∧ M 6 ((o : Int) * 8 + k) < 96 ∧ M 4 (M 6 ((o : Int) * 8 + k)) ≠ 0) := by
    rcases (h.kw o ho hu).2 k hk with e | ⟨_, e1, e2⟩ | ⟨e, _⟩
    · exact Or.inl e
    · refine Or.inr ⟨e1, e2, ?_⟩
      have := h.child ho hk hu ⟨e1, by omega⟩
      omega
    · omega
  rw [S_Md_placeOf (d + 8) (by omega) (by omega), bI_some, st_eq, wc_l _ _ (by omega) (by omega), eA, v_eq, if_t (by omega)]
  (try simp only [Nat.reduceAdd, st_eq])
  rw [wc_o A _ (show (2 : Int) < 4 ∨ 1796 ≤ (2 : Int) by omega), hlk]
  unfold pu2
  rw [hat]
  generalize hT : M 6 ((o : Int) * 8 + k) = t at ht
  -- a new block, hung
  have hNew : (t = -1 ∨ M 4 t ≠ 1) → WR A ex M v N (if newBlkS M = -1 then (0, setValS M (newBlkS M) x) else if newBlkS M = t then (1, setValS M (newBlkS M) x) else (1, hangS (setValS M (newBlkS M) x) ((o : Int) + 96) k (newBlkS M))) (am_bI (am_m am_P (d + 9) j_Md_newBlock [am_r 6 504, am_i x] (am_st N 505 (wc A (M 4)))) fun x12 M11 => am_v x12 fun x13 => if x13 = (-1) then (some (none, M11)) else (am_bV (am_m am_P (d + 9) j_Md_hang [am_r 6 504, am_i o, am_i k, am_i x13] M11) fun M14 => some (none, M14))) := by
    intro _
    rw [S_Md_newBlock (d + 7) hc]
    rcases fd_spec (p := fun i => M 4 i = 0) (dp := fun _ => inferInstance) 96 0 with ⟨e, _⟩ | ⟨e1, e2, e3, _⟩
    · have e' : newBlkS M = -1 := e
      rw [if_pos e', if_pos e', bI_some, v_eq, if_pos rfl, e']
      refine ⟨fun r _ _ _ _ _ => ?_, Or.inl ⟨_, rfl, rfl, fun y hy => wc_o _ _ (by omega)⟩⟩
      show setValS M (-1) x r = M r
      unfold setValS; rw [if_neg (by omega)]
    · have hn : (0 : Int) ≤ newBlkS M ∧ newBlkS M < 96 ∧ M 4 (newBlkS M) = 0 := by
        have e3' : M 4 (newBlkS M) = 0 := e3
        exact ⟨e1, by unfold newBlkS; omega, e3'⟩
      generalize newBlkS M = nb at hn
      have hne : nb ≠ t := by
        rcases ht with e | ⟨_, _, e⟩
        · omega
        · intro q; rw [← q] at e; exact e hn.2.2
      have h1 : ¬ nb = -1 := by omega
      rw [if_neg h1, if_neg hne, if_neg h1, bI_some, v_eq, if_neg h1]
      have es : setValS M nb x = am_set M 3 nb x := by unfold setValS; rw [if_pos ⟨hn.1, hn.2.1⟩]
      rw [es]
      have hs : ∀ r : Nat, r ≠ 3 → am_set M 3 nb x r = M r := fun r hr => set_ne _ _ _ hr
      have key := @WR.hang (am_set M 3 nb x) (am_up A (4 + 2 * nb) x) ex (by
        rw [hs 4 (by decide), hs 5 (by decide), hs 6 (by decide), hs 10 (by decide)]
        exact ⟨h.1, h.2.1, h.2.2.1, CO_up h.co (by omega) x, h.2.2.2.2⟩) (by
        intro w hw
        obtain ⟨a1, a2⟩ := hV w hw
        rw [hs 5 (by decide), hs 7 (by decide), hs 10 (by decide)]
        exact ⟨a1, fun q => by rw [up_ne _ _ (by omega)]; exact a2 q⟩) v o k ho hk (by rw [hs 4 (by decide)]; exact hu) (by rw [hs 5 (by decide)]; exact hkd) nb ⟨hn.1, hn.2.1⟩ (by
        intro y h0 h1 hy
        by_cases e : y = nb
        · rw [e, up_eq, set_eq, up_eq]; exact ⟨rfl, hx⟩
        · rw [up_ne _ _ (by omega), set_eq, up_ne _ _ e]
          rcases hy with q | q
          · rw [hs 4 (by decide)] at q
            exact hB y h0 h1 q
          · exact absurd q e) (d + 1) N
      rw [hs 4 (by decide)] at key
      obtain ⟨k1, k2⟩ := key
      refine ⟨fun r h3 h4 h5 h6 h10 => by rw [k1 r h3 h4 h5 h6 h10, hs r h3], ?_⟩
      rcases k2 with ⟨R, q1, q2, q3⟩ | ⟨A', q1, q2, q3, q4, q5, q6, q7⟩
      · exact absurd (show (1 : Int) = 0 from q1) (by decide)
      · exact Or.inr ⟨A', q1, q2, q3, q4, q5, fun w hw => by rw [q6 w hw, hs 10 (by decide)], fun y hy hyv => by rw [q7 y hy hyv, up_ne _ _ (by omega)]⟩
  -- no like block
  have hRest : WR A ex M v N (if t ≠ -1 ∧ cntS (M 4) t = 1 then (1, setValS M t x) else if newBlkS M = -1 then (0, setValS M (newBlkS M) x) else if newBlkS M = t then (1, setValS M (newBlkS M) x) else (1, hangS (setValS M (newBlkS M) x) ((o : Int) + 96) k (newBlkS M))) (if t = (-1) then (am_bI (am_m am_P (d + 9) j_Md_newBlock [am_r 6 504, am_i x] (am_st N 505 (wc A (M 4)))) fun x27 M26 => am_v x27 fun x28 => if x28 = (-1) then (some (none, M26)) else (am_bV (am_m am_P (d + 9) j_Md_hang [am_r 6 504, am_i o, am_i k, am_i x28] M26) fun M29 => some (none, M29))) else (am_bI (am_m am_P (d + 9) j_Md_blockCount [am_r 6 504, am_i t] (am_st N 505 (wc A (M 4)))) fun x31 M30 => if x31 = 1 then (am_bV (am_m am_P (d + 9) j_Md_letBlock [am_r 6 504, am_i t, am_i x, am_i 1] M30) fun M36 => some (none, M36)) else (am_bI (am_m am_P (d + 9) j_Md_newBlock [am_r 6 504, am_i x] M30) fun x33 M32 => am_v x33 fun x34 => if x34 = (-1) then (some (none, M32)) else (am_bV (am_m am_P (d + 9) j_Md_hang [am_r 6 504, am_i o, am_i k, am_i x34] M32) fun M35 => some (none, M35))))) := by
    rcases ht with e | ⟨e1, e2, e3⟩
    · rw [if_neg (fun q => q.1 e), if_pos e]
      exact hNew (Or.inl e)
    · have hct : cntS (M 4) t = M 4 t := if_pos ⟨e1, by omega⟩
      have := hc t
      rw [if_neg (show ¬ t = -1 by omega), S_Md_blockCount (d + 8) ⟨e1, e2⟩, bI_some, st_eq, wc_b _ _ ⟨e1, e2⟩, if_neg (show ¬ M 4 t < 0 by omega), hct]
      by_cases h1 : M 4 t = 1
      · rw [if_pos ⟨by omega, h1⟩, if_pos h1, S_Md_letBlock (d + 8) ⟨e1, e2⟩, bV_some, st_eq, st_st, wc_upN _ _ (by omega) (by omega), wc_upB _ _ ⟨e1, e2⟩ (x := M 4 t) (y := 1) (by rw [h1]; rfl), up_self]
        have es : setValS M t x = am_set M 3 t x := by unfold setValS; rw [if_pos ⟨e1, e2⟩]
        have hs : ∀ r : Nat, r ≠ 3 → am_set M 3 t x r = M r := fun r hr => set_ne _ _ _ hr
        rw [es]
        refine ⟨fun r h3 _ _ _ _ => hs r h3, Or.inr ⟨am_up A (4 + 2 * t) x, rfl, ?_, ?_, ?_, ?_, ?_, ?_⟩⟩
        · (try dsimp only); rw [hs 4 (by decide)]
        · (try dsimp only); rw [hs 4 (by decide), hs 5 (by decide), hs 6 (by decide), hs 10 (by decide)]
          exact ⟨h.1, h.2.1, h.2.2.1, CO_up h.co (by omega) x, h.2.2.2.2⟩
        · intro w hw
          obtain ⟨a1, a2⟩ := hV w hw
          (try dsimp only)
          rw [hs 5 (by decide), hs 7 (by decide), hs 10 (by decide)]
          exact ⟨a1, fun q => by rw [up_ne _ _ (by omega)]; exact a2 q⟩
        · intro y h0 h2 hy
          (try dsimp only at hy ⊢)
          rw [hs 4 (by decide)] at hy
          by_cases e : y = t
          · rw [e, up_eq, set_eq, up_eq]; exact ⟨rfl, hx⟩
          · rw [up_ne _ _ (by omega), set_eq, up_ne _ _ e]
            exact hB y h0 h2 hy
        · intro w _; (try dsimp only); rw [hs 10 (by decide)]
        · intro y hy _; rw [up_ne _ _ (by omega)]
      · rw [if_neg (fun q => h1 q.2), if_neg h1]
        exact hNew (Or.inr h1)
  by_cases hl : M 1 9 = 1
  · have el : fd (fun i => 0 < M 4 i ∧ M 3 i = x) (fun _ => inferInstance) 0 96 = lkS M x := rfl
    rw [if_pos hl, S_Md_blockWith (d + 7) hc hB, el, bI_some, v_eq]
    by_cases hk1 : lkS M x = -1
    · rw [if_pos hk1, if_neg (fun q => q.2 hk1)]
      exact hRest
    · rw [if_neg hk1, if_pos ⟨hl, hk1⟩]
      by_cases hkt : lkS M x = t
      · rw [if_pos hkt, if_pos hkt]
        exact ⟨fun _ _ _ _ _ _ => rfl, Or.inr ⟨A, rfl, rfl, h, hV, hB, fun _ _ => rfl, fun _ _ _ => rfl⟩⟩
      · rw [if_neg hkt, if_neg hkt]
        rcases fd_spec (p := fun i => 0 < M 4 i ∧ M 3 i = x) (dp := fun _ => inferInstance) 96 0 with ⟨e, _⟩ | ⟨e1, e2, e3, _⟩
        · exact absurd e hk1
        · have e3' : 0 < M 4 (lkS M x) := e3.1
          have e1' : (0 : Int) ≤ lkS M x ∧ lkS M x < 96 := ⟨e1, by unfold lkS; omega⟩
          refine WR.hang h hV ho hk hu hkd e1' (fun y h0 h1 hy => ?_) (d + 1) N
          rcases hy with q | q
          · exact hB y h0 h1 q
          · exact hB y h0 h1 (by rw [q]; omega)
  · rw [if_neg hl, v_eq, if_pos rfl, if_neg (fun q => hl q.1)]
    exact hRest
theorem put_both (d : Nat) {ex : Int → Int} {v : Nat} {a x : Int} (hx : 0 ≤ x ∧ x ≤ 999999) (ha : 0 ≤ a ∧ a < 512) (N : am_M) {M : am_M} {A : Int → Int} (hPI : PI A (M 4) (M 5) (M 6) (M 10) ex) (hV : RV M A) (hB : RB M A) (hv : thS M v) (hlk : A 2 = M 1 9) :
    WR A ex M v N (puS M v a x) (am_m am_P (d + 10) j_Md_writeNow [am_r 6 504, am_i v, am_i a, am_i x] (am_st N 505 (wc A (M 4)))) := by
  have hX : am_m am_P (d + 10) j_Md_writeNow [am_r 6 504, am_i v, am_i a, am_i x] (am_st N 505 (wc A (M 4))) = am_at am_P (d + 9) j_Md_writeNow 0 [am_r 6 504, am_i v, am_i a, am_i x, am_u, am_u, am_u, am_u, am_u] [] (am_st N 505 (wc A (M 4))) := rfl
  have h8 := plc_8 a 0
  have ho := open_both d ha (low := 0) (by omega) N hPI hV hv
  rw [hX, E_Md_writeNow_0]
  unfold puS
  generalize opS v a 0 3 M (-1) = r at ho ⊢
  generalize am_m am_P (d + 9) j_Md_openTo [am_r 6 504, am_i v, am_i a, am_i 0] (am_st N 505 (wc A (M 4))) = Y at ho ⊢
  rcases ho with ⟨R, r1, r2, r3, r4⟩ | ⟨o, A1, o1, o2, o3, o4, o5, o6, o7, o8, o9, o10, o11⟩
  · rw [if_pos r1, r2, bI_some, v_eq, if_pos rfl]
    exact ⟨fun k _ h4 h5 h6 h10 => r4 k h4 h5 h6 h10, Or.inl ⟨R, rfl, rfl, fun y hy => r3 y (by omega) (by have := hv.2.1; omega)⟩⟩
  · obtain ⟨k, hk⟩ : ∃ k : Nat, plc a 0 = (k : Int) := ⟨(plc a 0).toNat, by omega⟩
    have hv1 : thS r.2 v := ⟨hv.1, hv.2.1, by rw [o8 7 (by decide) (by decide) (by decide) (by decide)]; exact hv.2.2⟩
    have hu : r.2 4 ((o : Int) + 96) ≠ 0 := leaf_used o4 hv1 a o1 o5 o7
    have hv12 := hv.2.1
    rw [if_neg (by omega), o2, o3, bI_some, v_eq, if_neg (show ¬ (o : Int) = -1 by omega), S_Md_stepIn (d + 8) ha (by omega), bI_some, v_eq, hk]
    have hB1 : RB r.2 A1 := OP_RB (ex := ex) (by omega) hB (o8 3 (by decide) (by decide) (by decide) (by decide)) o10 o11
    obtain ⟨k1, k2⟩ := put_leaf d (v := v) (o := o) (k := k) hx N o4 o5 hB1 (by rw [o10 2 (by omega) (by omega), o8 1 (by decide) (by decide) (by decide) (by decide)]; exact hlk) o1 (by omega) hu o6 rfl
    refine ⟨fun r h3 h4 h5 h6 h10 => by rw [k1 r h3 h4 h5 h6 h10, o8 r h4 h5 h6 h10], ?_⟩
    rcases k2 with ⟨R, q1, q2, q3⟩ | ⟨A', q1, q2, q3, q4, q5, q6, q7⟩
    · exact Or.inl ⟨R, q1, q2, fun y hy => by rw [q3 y hy, o10 y (by omega) (by omega)]⟩
    · exact Or.inr ⟨A', q1, q2, q3, q4, q5, fun w hw => by rw [q6 w hw, o9 w hw], fun y hy hyv => by rw [q7 y hy hyv, o10 y (by omega) hyv]⟩
