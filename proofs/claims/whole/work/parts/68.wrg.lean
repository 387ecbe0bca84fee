/-! THE REFERENCE: places counted, what is wrong -/
def mem2 (N : am_M) (s : (Int → Int) × (Int → Int)) : am_M := am_st (am_st N 508 s.1) 509 s.2
theorem mem2_o (N : am_M) (s : (Int → Int) × (Int → Int)) {k : Nat} (h8 : k ≠ 508) (h9 : k ≠ 509) : mem2 N s k = N k := by unfold mem2; rw [st_ne _ _ h9, st_ne _ _ h8]
theorem mem2_8 (N : am_M) (s : (Int → Int) × (Int → Int)) : mem2 N s 508 = s.1 := by unfold mem2; rw [st_ne _ _ (by decide), st_eq]
theorem mem2_9 (N : am_M) (s : (Int → Int) × (Int → Int)) : mem2 N s 509 = s.2 := by unfold mem2; rw [st_eq]
theorem mem2_s8 (N : am_M) (s : (Int → Int) × (Int → Int)) (x y : Int) : am_set (mem2 N s) 508 x y = mem2 N (am_up s.1 x y, s.2) := by
  unfold am_set
  rw [mem2_8]
  unfold mem2
  rw [st_comm _ _ _ (show (509 : Nat) ≠ 508 by decide), st_st]
theorem mem2_s9 (N : am_M) (s : (Int → Int) × (Int → Int)) (x y : Int) : am_set (mem2 N s) 509 x y = mem2 N (s.1, am_up s.2 x y) := by
  unfold am_set
  rw [mem2_9]
  unfold mem2
  rw [st_st]
/-- one thing counted in -/
def ly0 (x : Int) (s : (Int → Int) × (Int → Int)) : (Int → Int) × (Int → Int) := if x < 0 then s else if x < 96 then (am_up s.1 x (am_wr (s.1 x + 1)), s.2) else (s.1, am_up s.2 (x - 96) (am_wr (s.2 (x - 96) + 1)))
def ly1 (pl : Int → Int) (p : Int) (s : (Int → Int) × (Int → Int)) : (Int → Int) × (Int → Int) := itS (fun k s => ly0 (pl (p * 8 + k)) s) 8 0 s
def lyS (c pl tr : Int → Int) (s : (Int → Int) × (Int → Int)) : (Int → Int) × (Int → Int) :=
  itS (fun v s => ly0 (tr v) s) 12 0 (itS (fun p s => if c (p + 96) = 0 then s else ly1 pl p s) 160 0 (itS (fun b s => (s.1, am_up s.2 b 0)) 160 0 (itS (fun b s => (am_up s.1 b 0, s.2)) 96 0 s)))
theorem S_Md_layPlaces (d : Nat) {M : am_M} {A c ex : Int → Int} (h : PI A c (M 5) (M 6) (M 10) ex) (hV : RV M A) (hM : MV M A) (hc : ∀ t : Int, 96 ≤ t → M 4 t = c t) {N : am_M} (hN : N 505 = wc A (M 4)) : am_m am_P (d + 3) j_Md_layPlaces [am_r 6 504] N = some (none, mem2 N (lyS c (M 6) (M 10) (N 508, N 509))) := by
  show am_at am_P (d + 2) j_Md_layPlaces 0 [am_r 6 504, am_u, am_u, am_u] [] N = _
  have eN : N = mem2 N (N 508, N 509) := by
    unfold mem2
    (try dsimp only)
    rw [st_self, st_self]
  rw [E_Md_layPlaces_0, v_eq]
  conv => lhs; rw [eN]
  have hrow : ∀ s, mem2 N s = am_st (mem2 N s) 505 (wc A (M 4)) := fun s => by
    conv => lhs; rw [← st_self (mem2 N s) 505]
    rw [mem2_o _ _ (by decide) (by decide), hN]
  unfold lyS
  refine lp_it (σ := (Int → Int) × (Int → Int)) (F := fun i s => am_at am_P (d + 2) j_Md_layPlaces 2 [am_r 6 504, am_i i, am_u, am_u] [] (mem2 N s)) (b := fun b s => (am_up s.1 b 0, s.2)) (r := fun s => some (none, mem2 N (itS (fun v s => ly0 (M 10 v) s) 12 0 (itS (fun p s => if c (p + 96) = 0 then s else ly1 (M 6) p s) 160 0 (itS (fun b s => (s.1, am_up s.2 b 0)) 160 0 s))))) 96 0 _ (fun s => ?_) (fun i s h1 h2 => ?_)
  · try dsimp only
    rw [E_Md_layPlaces_2, if_neg (by omega), v_eq]
    refine lp_it (σ := (Int → Int) × (Int → Int)) (F := fun i s => am_at am_P (d + 2) j_Md_layPlaces 23 [am_r 6 504, am_i i, am_u, am_u] [] (mem2 N s)) (b := fun b s => (s.1, am_up s.2 b 0)) (r := fun s => some (none, mem2 N (itS (fun v s => ly0 (M 10 v) s) 12 0 (itS (fun p s => if c (p + 96) = 0 then s else ly1 (M 6) p s) 160 0 s)))) 160 0 _ (fun s => ?_) (fun i s h1 h2 => ?_)
    · try dsimp only
      rw [E_Md_layPlaces_23, if_neg (by omega), v_eq]
      refine lp_it (σ := (Int → Int) × (Int → Int)) (F := fun i s => am_at am_P (d + 2) j_Md_layPlaces 45 [am_r 6 504, am_i i, am_u, am_u] [] (mem2 N s)) (b := fun p s => if c (p + 96) = 0 then s else ly1 (M 6) p s) (r := fun s => some (none, mem2 N (itS (fun v s => ly0 (M 10 v) s) 12 0 s))) 160 0 _ (fun s => ?_) (fun i s h1 h2 => ?_)
      · try dsimp only
        rw [E_Md_layPlaces_45, if_neg (by omega), v_eq]
        refine lp_it (σ := (Int → Int) × (Int → Int)) (F := fun i s => am_at am_P (d + 2) j_Md_layPlaces 128 [am_r 6 504, am_i i, am_u, am_u] [] (mem2 N s)) (b := fun v s => ly0 (M 10 v) s) (r := fun s => some (none, mem2 N s)) 12 0 _ (fun s => ?_) (fun v s h1 h2 => ?_)
        · try dsimp only
          rw [E_Md_layPlaces_128, if_neg (by omega)]
        · try dsimp only
          rw [E_Md_layPlaces_128, if_pos (by omega)]
          obtain ⟨w, hw⟩ : ∃ w : Nat, v = (w : Int) := ⟨v.toNat, by omega⟩
          subst hw
          have hq : ∀ Y, mem2 N s = Y → am_m am_P (d + 2) j_Md_isVolume [am_r 6 504, am_i (w : Int)] Y = some (some (am_i (b2 (thS M w))), Y) := fun Y hY => by
            rw [← hY, hrow]; exact R_isVolume d hM w (M 4) _
          have hg : ∀ Y, mem2 N s = Y → am_m am_P (d + 2) j_Md_get [am_r 6 504, am_i (w : Int), am_i 4] Y = some (some (am_i (A (1796 + 9 * (w : Int) + 4))), Y) := fun Y hY => by
            rw [← hY, hrow]; exact R_get (d + 1) (by omega) (by omega) A (M 4) _
          rw [hq _ rfl, bI_some]
          by_cases hv : thS M w
          · have hA := (hV w (by omega)).2 hv.2.2
            rw [if_neg (by rw [b2_t hv]; omega), hg _ rfl, bI_some, hA]
            unfold ly0
            rcases (hV w (by omega)).1 with e | ⟨e1, e2, _⟩
            · rw [e, show decT (-1) = -1 from if_pos rfl, if_pos rfl, v_eq, wr_id (by omega) (by omega), if_pos (by omega)]
            · rw [decT_part ⟨e1, e2⟩, if_neg (by omega), hg _ rfl, bI_some, hA, decT_part ⟨e1, e2⟩, if_t (by omega), if_t (by omega)]
              simp only [Nat.reduceAdd]
              rw [mem2_9, mem2_s9, w_eq, v_eq, wr_id (z := (w : Int) + 1) (by omega) (by omega), if_neg (by omega), if_neg (by omega)]
          · have h10 : M 10 w = -1 := by
              have := (hM.2 w (by omega) (by omega)).1
              exact this.2.2.2 (Classical.byContradiction (fun q => hv ⟨by omega, by omega, by omega⟩))
            unfold ly0
            rw [if_pos (b2_f hv), v_eq, wr_id (by omega) (by omega), h10, if_pos (by omega)]
      · try dsimp only
        rw [E_Md_layPlaces_45, if_pos (by omega), v_eq]
        obtain ⟨p, hp⟩ : ∃ p : Nat, i = (p : Int) := ⟨i.toNat, by omega⟩
        subst hp
        have hcount : ∀ s, am_m am_P (d + 2) j_Md_partCount [am_r 6 504, am_i (p : Int)] (mem2 N s) = some (some (am_i (c ((p : Int) + 96))), mem2 N s) := fun s => by
          rw [S_Md_partCount (d + 1) (by omega), mem2_o _ _ (by decide) (by decide), hN, wc_p _ _ (by omega), hc _ (by omega)]
        by_cases h0 : c ((p : Int) + 96) = 0
        · rw [if_pos h0, E_Md_layPlaces_54, if_pos (by omega), hcount, bI_some, if_pos h0, v_eq, wr_id (by omega) (by omega)]
        · rw [if_neg h0]
          unfold ly1
          refine lp_it (σ := (Int → Int) × (Int → Int)) (F := fun k s => am_at am_P (d + 2) j_Md_layPlaces 54 [am_r 6 504, am_i (p : Int), am_i k, am_u] [] (mem2 N s)) (b := fun k s => ly0 (M 6 ((p : Int) * 8 + k)) s) (r := fun s => am_at am_P (d + 2) j_Md_layPlaces 45 [am_r 6 504, am_i ((p : Int) + 1), am_u, am_u] [] (mem2 N s)) 8 0 _ (fun s => ?_) (fun k s h3 h4 => ?_)
          · try dsimp only
            rw [E_Md_layPlaces_54, if_neg (by omega), v_eq, wr_id (by omega) (by omega)]
          · try dsimp only
            obtain ⟨j, hj⟩ : ∃ j : Nat, k = (j : Int) := ⟨k.toNat, by omega⟩
            subst hj
            have hpl : am_m am_P (d + 2) j_Md_placeOf [am_r 6 504, am_i (p : Int), am_i (j : Int)] (mem2 N s) = some (some (am_i (dec (M 5 p) (M 6 ((p : Int) * 8 + j)))), mem2 N s) := by
              rw [S_Md_placeOf (d + 1) (by omega) (by omega), mem2_o _ _ (by decide) (by decide), hN, wc_l _ _ (by omega) (by omega), (h.co p (by omega) h0).2 j (by omega)]
            have hkd : am_m am_P (d + 2) j_Md_kindOf [am_r 6 504, am_i (p : Int)] (mem2 N s) = some (some (am_i (M 5 p)), mem2 N s) := by
              rw [S_Md_kindOf (d + 1) (by omega), mem2_o _ _ (by decide) (by decide), hN, wc_k _ _ (by omega), (h.co p (by omega) h0).1]
            rw [E_Md_layPlaces_54, if_pos (by omega), hcount, bI_some, if_neg h0, hpl, bI_some, v_eq]
            unfold ly0
            rcases (h.kw p (by omega) h0).2 j (by omega) with e | ⟨e1, e2, e3⟩ | ⟨e1, e2, e3, e4⟩
            · rw [e, show dec (M 5 p) (-1) = -1 from if_pos rfl, if_pos rfl, v_eq, wr_id (by omega) (by omega), if_pos (show (-1 : Int) < 0 by omega)]
            · rw [e1, dec_0, if_neg (by omega), hkd, bI_some, e1, if_pos rfl, if_t (by omega), if_t (by omega)]
              simp only [Nat.reduceAdd]
              rw [mem2_8, mem2_s8, w_eq, v_eq, wr_id (z := (j : Int) + 1) (by omega) (by omega), if_neg (by omega), if_pos e3]
            · rw [dec_T (by omega), decT_part ⟨e2, e3⟩, if_neg (by omega), hkd, bI_some, if_neg (by omega), if_t (by omega), if_t (by omega)]
              simp only [Nat.reduceAdd]
              rw [mem2_9, mem2_s9, w_eq, v_eq, wr_id (z := (j : Int) + 1) (by omega) (by omega), if_neg (by omega), if_neg (by omega)]
    · try dsimp only
      rw [E_Md_layPlaces_23, if_pos (by omega), if_t (by omega)]
      simp only [Nat.reduceAdd]
      rw [mem2_s9, w_eq, v_eq, wr_id (by omega) (by omega)]
  · try dsimp only
    rw [E_Md_layPlaces_2, if_pos (by omega), if_t (by omega)]
    simp only [Nat.reduceAdd]
    rw [mem2_s8, w_eq, v_eq, wr_id (by omega) (by omega)]
