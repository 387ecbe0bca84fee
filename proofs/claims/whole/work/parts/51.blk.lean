/-! BLOCKS: the least with a value, a new one; a block hung in a leaf -/
/-- the values of the blocks in use -/
def RB (M : am_M) (A : Int → Int) : Prop := ∀ b : Int, 0 ≤ b → b < 96 → M 4 b ≠ 0 → A (4 + 2 * b) = M 3 b ∧ 0 ≤ M 3 b ∧ M 3 b ≤ 999999
theorem S_Md_blockWith (d : Nat) {A : Int → Int} {M : am_M} (hc : ∀ x, 0 ≤ M 4 x) (hB : RB M A) (x : Int) (N : am_M) : am_m am_P (d + 2) j_Md_blockWith [am_r 6 504, am_i x] (am_st N 505 (wc A (M 4))) = some (some (am_i (fd (fun i => 0 < M 4 i ∧ M 3 i = x) (fun _ => inferInstance) 0 96)), am_st N 505 (wc A (M 4))) := by
  show am_at am_P (d + 1) j_Md_blockWith 0 [am_r 6 504, am_i x, am_u] [] (am_st N 505 (wc A (M 4))) = _
  rw [E_Md_blockWith_0, v_eq]
  refine lp_fd (F := fun i => am_at am_P (d + 1) j_Md_blockWith 2 [am_r 6 504, am_i x, am_i i] [] (am_st N 505 (wc A (M 4)))) (r := fun i => some (some (am_i i), am_st N 505 (wc A (M 4)))) ?_ ?_
  · try dsimp only
    rw [E_Md_blockWith_2, if_neg (by omega)]
  · intro i h1 h2
    try dsimp only
    have hi : 0 ≤ i ∧ i < 96 := by omega
    have hci := hc i
    rw [E_Md_blockWith_2, if_pos (by omega), S_Md_blockCount d hi, bI_some, st_eq, wc_b _ _ hi, if_neg (show ¬ M 4 i < 0 by omega), v_eq, wr_id (by omega) (by omega)]
    by_cases h0 : M 4 i = 0
    · rw [if_pos h0, if_neg (fun q => by have := q.1; omega)]
    · rw [if_neg h0, S_Md_valueOf d hi, bI_some, st_eq, wc_v _ _ hi, (hB i hi.1 hi.2 h0).1, v_eq]
      by_cases hx : M 3 i = x
      · rw [if_pos hx, if_pos ⟨by omega, hx⟩]
      · rw [if_neg hx, if_neg (fun q => hx q.2)]
theorem S_Md_newBlock (d : Nat) {A : Int → Int} {M : am_M} (hc : ∀ x, 0 ≤ M 4 x) (x : Int) (N : am_M) : am_m am_P (d + 2) j_Md_newBlock [am_r 6 504, am_i x] (am_st N 505 (wc A (M 4))) = if newBlkS M = -1 then some (some (am_i (-1)), am_set (am_st N 505 (wc A (M 4))) 504 2 1) else some (some (am_i (newBlkS M)), am_st N 505 (wc (am_up A (4 + 2 * newBlkS M) x) (M 4))) := by
  show am_at am_P (d + 1) j_Md_newBlock 0 [am_r 6 504, am_i x, am_u] [] (am_st N 505 (wc A (M 4))) = _
  rw [E_Md_newBlock_0, v_eq]
  refine lp_fd (F := fun i => am_at am_P (d + 1) j_Md_newBlock 2 [am_r 6 504, am_i x, am_i i] [] (am_st N 505 (wc A (M 4)))) (p := fun i => M 4 i = 0) (dp := fun _ => inferInstance) (a := 0) (k := 96) (r := fun i => if i = -1 then some (some (am_i (-1)), am_set (am_st N 505 (wc A (M 4))) 504 2 1) else some (some (am_i i), am_st N 505 (wc (am_up A (4 + 2 * i) x) (M 4)))) ?_ ?_
  · try dsimp only
    rw [E_Md_newBlock_2, if_neg (by omega), if_pos (by omega), if_b1, w_eq, if_pos rfl]
  · intro i h1 h2
    try dsimp only
    have hi : 0 ≤ i ∧ i < 96 := by omega
    have hci := hc i
    rw [E_Md_newBlock_2, if_pos (by omega), S_Md_blockCount d hi, bI_some, st_eq, wc_b _ _ hi, if_neg (show ¬ M 4 i < 0 by omega)]
    by_cases h0 : M 4 i = 0
    · rw [if_pos h0, if_pos h0, if_neg (show ¬ i = 96 by omega), if_neg (show ¬ i = -1 by omega), S_Md_letBlock d hi, bV_some, st_eq, st_st, wc_upN _ _ (by omega) (by omega), wc_upB _ _ hi (x := M 4 i) (y := 0) (by rw [h0]; rfl), up_self]
    · rw [if_neg h0, if_neg h0, v_eq, wr_id (by omega) (by omega)]
/-- a block (in use, or free and so counted in) hung in a place of a leaf in use: both sides -/
theorem blk_hang {M : am_M} {A ex : Int → Int} (h : PI A (M 4) (M 5) (M 6) (M 10) ex) {p k : Nat} (hp : p < 160) (hk : k < 8) (hc0 : M 4 ((p : Int) + 96) ≠ 0) (hkd : M 5 p = 0) {b : Int} (hb : 0 ≤ b ∧ b < 96) (d : Nat) (N : am_M) :
    am_m am_P (d + 8) j_Md_hang [am_r 6 504, am_i p, am_i k, am_i b] (am_st N 505 (wc A (M 4))) = some (none, am_st N 505 (wc (am_up A (198 + 10 * (p : Int) + k) b) (hangS M ((p : Int) + 96) k b 4))) ∧
    PI (am_up A (198 + 10 * (p : Int) + k) b) (hangS M ((p : Int) + 96) k b 4) (M 5) (hangS M ((p : Int) + 96) k b 6) (M 10) ex ∧ hangS M ((p : Int) + 96) k b 6 = am_up (M 6) ((p : Int) * 8 + k) b ∧ ∀ r : Nat, r ≠ 4 → r ≠ 6 → hangS M ((p : Int) + 96) k b r = M r := by
  have er : rs (M 4) b = am_up (M 4) b (M 4 b + 1) := if_pos ⟨hb.1, by omega⟩
  have hF : FT (M 5) (M 5 p) b := Or.inl ⟨hkd, hb.1, hb.2⟩
  have hdec : dec (M 5 p) b = b := by unfold dec; rw [hkd, if_neg (by omega), if_pos rfl]
  have hu : ∀ q : Nat, q < 160 → am_up (M 4) b (M 4 b + 1) ((q : Int) + 96) ≠ 0 → M 4 ((q : Int) + 96) ≠ 0 := fun q hq h0 => by rwa [up_ne _ _ (by omega)] at h0
  have hX := hang_X hp hk hc0 h.xc (x := b) (fun q hq e => by omega)
  have hK := hang_KW (p := p) hk (h.kw.mono hu) hF
  have hC := hang_CO (p := p) hk (h.co.mono hu)
  rw [hdec] at hC
  have hwf := h.kw.ft hp hk hc0
  have hpure := hangS_pure M hp hk b (fun y => by have := h.bd y; omega)
  rw [er] at hpure
  have e4 : hangS M ((p : Int) + 96) k b 4 = (LGc (am_up (M 6) ((p : Int) * 8 + k) b) 4 (am_up (M 4) b (M 4 b + 1)) (M 6 ((p : Int) * 8 + k))).2 := by rw [hpure, st_eq]
  have e6 : hangS M ((p : Int) + 96) k b 6 = am_up (M 6) ((p : Int) * 8 + k) b := by rw [hpure, st_ne _ _ (by decide), st_eq]
  rw [e4, e6]
  refine ⟨?_, PI.letGo h.e0 hK hX hC (fun x hx => ?_) (FT.wc (by omega) hwf), rfl, fun r h4 h6 => by rw [hpure, st_ne _ _ h4, st_ne _ _ h6]⟩
  · have := S_Md_hang d (A := A) (kd := M 5) (pl := M 6) (tr := M 10) (c := M 4) (ex := ex) hp hk hF hc0 h.co (by have := h.bd b; omega) (by
      rw [hdec]
      rcases hwf with e | e
      · exact Or.inl e
      · exact Or.inr ⟨e, LR_of h.e0 hK hX hC (fun x => by have := up_bd h.bd (x := b) x; omega)⟩) N
    rw [hdec] at this
    exact this
  · rw [up_ne _ _ (fun e => hx (by rw [e]; exact ⟨hb.1, by omega⟩))]
    exact h.zo x hx
