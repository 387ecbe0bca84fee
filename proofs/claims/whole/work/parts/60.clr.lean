/-! WIPED, SHARED: class and reference, and what is mapped behind it -/
theorem RB_mono {M M' : am_M} {A A' : Int → Int} (h : RB M A) (h3 : M' 3 = M 3) (hA : ∀ y : Int, 0 ≤ y → y < 196 → A' y = A y) (hz : ∀ x : Int, 0 ≤ x → x < 96 → M 4 x = 0 → M' 4 x = 0) : RB M' A' := fun b h0 h1 hb => by
  rw [hA _ (by omega) (by omega), h3]
  exact h b h0 h1 (fun e => hb (hz b h0 h1 e))
/-- what opening gives, if it can be done -/
theorem open_ok {ex : Int → Int} {v : Nat} {a low : Int} (ha : 0 ≤ a ∧ a < 512) (hl : 0 ≤ low ∧ low ≤ 2) {M : am_M} {A : Int → Int} (hPI : PI A (M 4) (M 5) (M 6) (M 10) ex) (hV : RV M A) (hv : thS M v) (hne : (opS v a low 3 M (-1)).1 ≠ -1) :
    ∃ (o : Nat) (A' : Int → Int), o < 160 ∧ (opS v a low 3 M (-1)).1 = (o : Int) + 96 ∧ PI A' ((opS v a low 3 M (-1)).2 4) ((opS v a low 3 M (-1)).2 5) ((opS v a low 3 M (-1)).2 6) ((opS v a low 3 M (-1)).2 10) ex ∧ RV (opS v a low 3 M (-1)).2 A' ∧ (opS v a low 3 M (-1)).2 5 o = low ∧ thgS (opS v a low 3 M (-1)).2 v a (low + 1) = (o : Int) + 96 ∧ thS (opS v a low 3 M (-1)).2 v ∧ ownP (opS v a low 3 M (-1)).2 v a (low + 1) ∧ ∀ w : Nat, w < 12 → ∀ b : Int, ct ((opS v a low 3 M (-1)).2 6) ((opS v a low 3 M (-1)).2 10) w b = ct (M 6) (M 10) w b := by
  obtain ⟨p1, p2⟩ := open_own hl hPI hV hv hne
  rcases open_both 0 ha hl M hPI hV hv with ⟨R, r1, _⟩ | ⟨o, A1, o1, o2, o3, o4, o5, o6, o7, o8, o9, o10, o11⟩
  · exact absurd r1 hne
  · exact ⟨o, A1, o1, o2, o4, o5, o6, o7, ⟨hv.1, hv.2.1, by rw [o8 7 (by decide) (by decide) (by decide) (by decide)]; exact hv.2.2⟩, p1, p2⟩
theorem put_ct {ex : Int → Int} {v : Nat} {a x : Int} (ha : 0 ≤ a ∧ a < 512) {M : am_M} {A : Int → Int} (hPI : PI A (M 4) (M 5) (M 6) (M 10) ex) (hV : RV M A) (hv : thS M v) (h1 : (puS M v a x).1 = 1) {w : Nat} (hw : w < 12) {b : Int} (hb : 0 ≤ b ∧ b < 512) (hwb : ¬ (w = v ∧ b = a)) : ct ((puS M v a x).2 6) ((puS M v a x).2 10) w b = ct (M 6) (M 10) w b := by
  have h8 := plc_8 a 0
  unfold puS at h1 ⊢
  by_cases hne : (opS v a 0 3 M (-1)).1 = -1
  · rw [if_pos hne] at h1
    exact absurd (show (0 : Int) = 1 from h1) (by decide)
  · obtain ⟨o, A1, o1, o2, o3, o4, o5, o6, o7, o8, o9⟩ := open_ok ha (low := 0) (by omega) hPI hV hv hne
    rw [if_neg hne] at h1 ⊢
    rw [o2] at h1 ⊢
    rw [← o9 w hw b]
    generalize (opS v a 0 3 M (-1)).2 = M1 at o3 o4 o5 o6 o7 o8 h1 ⊢
    obtain ⟨k, hk⟩ : ∃ k : Nat, plc a 0 = (k : Int) := ⟨(plc a 0).toNat, by omega⟩
    rw [hk] at h1 ⊢
    have hh : ∀ (M2 : am_M) (y : Int), M2 4 = M1 4 → M2 6 = M1 6 → M2 10 = M1 10 → ct (hangS M2 ((o : Int) + 96) k y 6) (hangS M2 ((o : Int) + 96) k y 10) w b = ct (M1 6) (M1 10) w b := fun M2 y e4 e6 e10 => by
      have hp := hangS_pure M2 o1 (k := k) (by omega) y (fun z => by rw [e4]; have := o3.bd z; omega)
      rw [hp, st_ne _ _ (by decide), st_eq, st_ne _ _ (by decide), st_ne _ _ (by decide), e6, e10]
      rw [leaf_ct o4 o3 o7 ha o8 o1 hk o6 o5 y hw hb, if_neg hwb]
    have hs : ∀ y : Int, setValS M1 y x 4 = M1 4 ∧ setValS M1 y x 6 = M1 6 ∧ setValS M1 y x 10 = M1 10 := fun y => by
      unfold setValS
      split
      · exact ⟨set_ne _ _ _ (by decide), set_ne _ _ _ (by decide), set_ne _ _ _ (by decide)⟩
      · exact ⟨rfl, rfl, rfl⟩
    have hsc : ∀ y : Int, ct (setValS M1 y x 6) (setValS M1 y x 10) w b = ct (M1 6) (M1 10) w b := fun y => by rw [(hs y).2.1, (hs y).2.2]
    unfold pu2
    split
    · split
      · rfl
      · exact hh M1 _ rfl rfl rfl
    · split
      · exact hsc _
      · split
        · exact hsc _
        · split
          · exact hsc _
          · exact hh _ _ (hs _).1 (hs _).2.1 (hs _).2.2
theorem blk_ct {M : am_M} {v : Int} (hv : thS M v) (a : Int) : blkS M v a = ct (M 6) (M 10) v a := thg_0 hv a
theorem wipe_both (d : Nat) {ex : Int → Int} {v : Nat} {a : Int} (ha : 0 ≤ a ∧ a < 512) (N : am_M) {M : am_M} {A : Int → Int} (hPI : PI A (M 4) (M 5) (M 6) (M 10) ex) (hV : RV M A) (hB : RB M A) (hv : thS M v) (hb : blkS M v a ≠ -1) :
    WR A ex M v N (clS M v a) (am_m am_P (d + 10) j_Md_wipeNow [am_r 6 504, am_i v, am_i a] (am_st N 505 (wc A (M 4)))) ∧ ((clS M v a).1 = 1 → ∀ w : Nat, w < 12 → ∀ b : Int, 0 ≤ b ∧ b < 512 → ct ((clS M v a).2 6) ((clS M v a).2 10) w b = if w = v ∧ b = a then -1 else ct (M 6) (M 10) w b) := by
  have hX : am_m am_P (d + 10) j_Md_wipeNow [am_r 6 504, am_i v, am_i a] (am_st N 505 (wc A (M 4))) = am_at am_P (d + 9) j_Md_wipeNow 0 [am_r 6 504, am_i v, am_i a, am_u, am_u] [] (am_st N 505 (wc A (M 4))) := rfl
  have h8 := plc_8 a 0
  have hv12 : v < 12 := by have := hv.2.1; omega
  have ho := open_both d ha (low := 0) (by omega) N hPI hV hv
  have hown := open_own (a := a) (low := 0) (by omega) hPI hV hv
  rw [hX, E_Md_wipeNow_0]
  unfold clS
  rw [if_neg hb]
  generalize opS v a 0 3 M (-1) = r at ho hown ⊢
  generalize am_m am_P (d + 9) j_Md_openTo [am_r 6 504, am_i v, am_i a, am_i 0] (am_st N 505 (wc A (M 4))) = Y at ho ⊢
  rcases ho with ⟨R, r1, r2, r3, r4⟩ | ⟨o, A1, o1, o2, o3, o4, o5, o6, o7, o8, o9, o10, o11⟩
  · rw [if_pos r1, r2, bI_some, v_eq, if_pos rfl]
    exact ⟨⟨fun k _ h4 h5 h6 h10 => r4 k h4 h5 h6 h10, Or.inl ⟨R, rfl, rfl, fun y hy => r3 y (by omega) (by omega)⟩⟩, fun q => absurd (show (0 : Int) = 1 from q) (by decide)⟩
  · have hne : r.1 ≠ -1 := by omega
    obtain ⟨w1, w2⟩ := hown hne
    obtain ⟨k, hk⟩ : ∃ k : Nat, plc a 0 = (k : Int) := ⟨(plc a 0).toNat, by omega⟩
    have hv1 : thS r.2 v := ⟨hv.1, hv.2.1, by rw [o8 7 (by decide) (by decide) (by decide) (by decide)]; exact hv.2.2⟩
    have hu : r.2 4 ((o : Int) + 96) ≠ 0 := leaf_used o4 hv1 a o1 o5 o7
    have hB1 : RB r.2 A1 := OP_RB (ex := ex) (by omega) hB (o8 3 (by decide) (by decide) (by decide) (by decide)) o10 o11
    have hk8 : k < 8 := by omega
    -- what is there
    have hblk : r.2 6 ((o : Int) * 8 + k) = blkS M v a := by
      have e0 : bkS r.2 v a = blkS M v a := by rw [bk_ct, w2 v hv12 a, blk_ct hv]
      rw [← e0, ← thg_0 hv1 a, thg_at hv1 a (l := 0) (by omega), o7, hk, at_in ⟨by omega, by omega⟩ ⟨by omega, by omega⟩, show (o : Int) + 96 - 96 = o by omega]
    have hbk : 0 ≤ blkS M v a ∧ blkS M v a < 96 := by
      rcases bk_ok hV hPI hv12 a with e | ⟨e1, e2, _⟩
      · exact absurd ((thg_0 hv a).trans e) hb
      · have : blkS M v a = bkS M v a := thg_0 hv a
        omega
    rw [if_neg hne, o2, o3, bI_some, v_eq, if_neg (show ¬ (o : Int) = -1 by omega), S_Md_stepIn (d + 8) ha (by omega), bI_some, hk, S_Md_placeOf (d + 8) (by omega) (by omega), bI_some, st_eq, wc_l _ _ (by omega) (by omega), (o4.co o o1 hu).2 k hk8, o6, dec_0, hblk, v_eq, S_Md_stepIn (d + 8) ha (by omega), bI_some, hk, S_Md_letPlace (d + 8) (by omega) (by omega), bV_some]
    obtain ⟨g1, g2, g3⟩ := empty_hang o4 o1 hk8 hu
    rw [hblk] at g1 g2 g3
    unfold am_set
    rw [st_eq, st_st, wc_upN _ _ (by omega) (by omega), S_Md_letGoBlock (d + 7) _ _ hbk (by have := o4.bd (blkS M v a); omega), bV_some, ← LGc_blk (am_up (r.2 6) ((o : Int) * 8 + k) (-1)) 3 (r.2 4) hbk]
    have e4 : hangS r.2 ((o : Int) + 96) k (-1) 4 = (LGc (am_up (r.2 6) ((o : Int) * 8 + k) (-1)) 4 (r.2 4) (blkS M v a)).2 := by rw [g1, st_eq]
    have e6 : hangS r.2 ((o : Int) + 96) k (-1) 6 = am_up (r.2 6) ((o : Int) * 8 + k) (-1) := by rw [g1, st_ne _ _ (by decide), st_eq]
    have eo : ∀ i : Nat, i ≠ 4 → i ≠ 6 → hangS r.2 ((o : Int) + 96) k (-1) i = r.2 i := fun i h4 h6 => by rw [g1, st_ne _ _ h4, st_ne _ _ h6]
    rw [← e4]
    generalize hangS r.2 ((o : Int) + 96) k (-1) = M' at e4 e6 eo ⊢
    have hz : ∀ x : Int, r.2 4 x = 0 → M' 4 x = 0 := fun x hx => by rw [e4]; exact LGc_z hx (g3.bd x).1
    have hPI' : PI (am_up A1 (198 + 10 * (o : Int) + k) (-1)) (M' 4) (M' 5) (M' 6) (M' 10) ex := by
      rw [e4, e6, eo 5 (by decide) (by decide), eo 10 (by decide) (by decide)]; exact g3
    have hV' : RV M' (am_up A1 (198 + 10 * (o : Int) + k) (-1)) := hang_RV (by omega) o5 (eo 5 (by decide) (by decide)) (eo 7 (by decide) (by decide)) (eo 10 (by decide) (by decide))
    have hv' : thS M' v := ⟨hv.1, hv.2.1, by rw [eo 7 (by decide) (by decide)]; exact hv1.2.2⟩
    have hB' : RB M' (am_up A1 (198 + 10 * (o : Int) + k) (-1)) := RB_mono hB1 (eo 3 (by decide) (by decide)) (fun y _ hy => up_ne _ _ (by omega)) (fun x _ _ hx => hz x hx)
    obtain ⟨A', s1, s2, s3, s4, s5, s6, s7, s8⟩ := shut_both (d + 2) ha N hPI' hV' hv'
    rw [s1, bV_some]
    refine ⟨⟨fun i h3 h4 h5 h6 h10 => ?_, Or.inr ⟨A', rfl, rfl, s2, s3, ?_, ?_, ?_⟩⟩, fun _ w hw b hb => ?_⟩
    · (try dsimp only); rw [s4 i h4 h6 h10, eo i h4 h6, o8 i h4 h5 h6 h10]
    · exact RB_mono hB' (s4 3 (by decide) (by decide) (by decide)) (fun y _ hy => s6 y (by omega) (by omega)) (fun x _ _ hx => s7 x hx)
    · intro w hw; (try dsimp only); rw [s5 w hw, eo 10 (by decide) (by decide), o9 w hw]
    · intro y hy hyv; rw [s6 y (by omega) hyv, up_ne _ _ (by omega), o10 y (by omega) hyv]
    · (try dsimp only)
      rw [s8 w hw b, e6, eo 10 (by decide) (by decide), leaf_ct o5 o4 hv1 ha w1 o1 hk o7 o6 (-1) hw hb, w2 w hw b]
theorem hang_self {M : am_M} {o k : Nat} (ho : o < 160) (hk : k < 8) {x : Int} (hb : ∀ y, 0 ≤ M 4 y ∧ M 4 y ≤ 1000000) (hx : M 6 ((o : Int) * 8 + k) = x) (hT : TA x) (h0 : M 4 x ≠ 0) : hangS M ((o : Int) + 96) k x = M := by
  have e : am_up (M 6) ((o : Int) * 8 + k) x = M 6 := by rw [← hx]; exact up_self _ _
  have h1 := (hb x).1
  have er : rs (M 4) x = am_up (M 4) x (M 4 x + 1) := if_pos hT
  rw [hangS_pure M ho hk x hb, e, hx, LGc_dec hT (by rw [er, up_eq]; omega), er, up_eq, st_self]
  have : am_up (am_up (M 4) x (M 4 x + 1)) x (M 4 x + 1 - 1) = M 4 := by
    funext y
    by_cases ey : y = x
    · rw [ey, up_eq]; omega
    · rw [up_ne _ _ ey, up_ne _ _ ey]
  rw [this, st_self]
theorem share_both (d : Nat) {ex : Int → Int} {v w : Nat} {a b : Int} (ha : 0 ≤ a ∧ a < 512) (hb : 0 ≤ b ∧ b < 512) (N : am_M) {M : am_M} {A : Int → Int} (hPI : PI A (M 4) (M 5) (M 6) (M 10) ex) (hV : RV M A) (hB : RB M A) (hv : thS M v) (hw : thS M w) :
    WR A ex M w N (cpyS M v a w b) (am_m am_P (d + 11) j_Md_shareOne [am_r 6 504, am_i v, am_i a, am_i w, am_i b] (am_st N 505 (wc A (M 4)))) ∧ ((cpyS M v a w b).1 = 1 → ∀ u : Nat, u < 12 → ∀ e : Int, 0 ≤ e ∧ e < 512 → ct ((cpyS M v a w b).2 6) ((cpyS M v a w b).2 10) u e = if u = w ∧ e = b then blkS M v a else ct (M 6) (M 10) u e) := by
  have hX : am_m am_P (d + 11) j_Md_shareOne [am_r 6 504, am_i v, am_i a, am_i w, am_i b] (am_st N 505 (wc A (M 4))) = am_at am_P (d + 10) j_Md_shareOne 0 [am_r 6 504, am_i v, am_i a, am_i w, am_i b, am_u, am_u] [] (am_st N 505 (wc A (M 4))) := rfl
  have h8 := plc_8 b 0
  have hv12 : v < 12 := by have := hv.2.1; omega
  have hw12 : w < 12 := by have := hw.2.1; omega
  rw [hX, E_Md_shareOne_0, S_Md_blockAt (d + 7) hPI hV hv ha, bI_some, v_eq]
  unfold cpyS
  by_cases h0 : blkS M v a = -1
  · rw [if_pos h0, if_pos h0, S_Md_blockAt (d + 7) hPI hV hw hb, bI_some, h0]
    by_cases h1 : blkS M w b = -1
    · rw [if_pos h1]
      have e : clS M w b = (1, M) := by unfold clS; rw [if_pos h1]
      rw [e]
      refine ⟨⟨fun _ _ _ _ _ _ => rfl, Or.inr ⟨A, rfl, rfl, hPI, hV, hB, fun _ _ => rfl, fun _ _ _ => rfl⟩⟩, fun _ u hu e he => ?_⟩
      split
      · next q => obtain ⟨rfl, rfl⟩ := q; exact (blk_ct hw _).symm.trans h1
      · rfl
    · rw [if_neg h1]
      obtain ⟨g1, g2⟩ := wipe_both d hb N hPI hV hB hw h1
      refine ⟨?_, g2⟩
      obtain ⟨k1, k2⟩ := g1
      refine ⟨k1, ?_⟩
      rcases k2 with ⟨R, q1, q2, q3⟩ | ⟨A', q1, q2, q3⟩
      · exact Or.inl ⟨R, q1, by rw [q2, bV_some], q3⟩
      · exact Or.inr ⟨A', q1, by rw [q2, bV_some], q3⟩
  · rw [if_neg h0, if_neg h0]
    have ho := open_both (d + 1) hb (low := 0) (by omega) N hPI hV hw
    have hown := open_own (a := b) (low := 0) (by omega) hPI hV hw
    generalize opS w b 0 3 M (-1) = r at ho hown ⊢
    generalize am_m am_P (d + 10) j_Md_openTo [am_r 6 504, am_i w, am_i b, am_i 0] (am_st N 505 (wc A (M 4))) = Y at ho ⊢
    rcases ho with ⟨R, r1, r2, r3, r4⟩ | ⟨o, A1, o1, o2, o3, o4, o5, o6, o7, o8, o9, o10, o11⟩
    · rw [if_pos r1, r2, bI_some, v_eq, if_pos rfl]
      exact ⟨⟨fun k _ h4 h5 h6 h10 => r4 k h4 h5 h6 h10, Or.inl ⟨R, rfl, rfl, fun y hy => r3 y (by omega) (by omega)⟩⟩, fun q => absurd (show (0 : Int) = 1 from q) (by decide)⟩
    · have hne : r.1 ≠ -1 := by omega
      obtain ⟨w1, w2⟩ := hown hne
      obtain ⟨k, hk⟩ : ∃ k : Nat, plc b 0 = (k : Int) := ⟨(plc b 0).toNat, by omega⟩
      have hw1 : thS r.2 w := ⟨hw.1, hw.2.1, by rw [o8 7 (by decide) (by decide) (by decide) (by decide)]; exact hw.2.2⟩
      have hv1 : thS r.2 v := ⟨hv.1, hv.2.1, by rw [o8 7 (by decide) (by decide) (by decide) (by decide)]; exact hv.2.2⟩
      have hu : r.2 4 ((o : Int) + 96) ≠ 0 := leaf_used o4 hw1 b o1 o5 o7
      have hB1 : RB r.2 A1 := OP_RB (ex := ex) (by omega) hB (o8 3 (by decide) (by decide) (by decide) (by decide)) o10 o11
      have hk8 : k < 8 := by omega
      have e0 : bkS r.2 v a = blkS M v a := by rw [bk_ct, w2 v hv12 a, blk_ct hv]
      have hbk : 0 ≤ blkS M v a ∧ blkS M v a < 96 ∧ r.2 4 (blkS M v a) ≠ 0 := by
        rw [← e0] at h0 ⊢
        rcases bk_ok o5 o4 hv12 a with e | e
        · exact absurd e h0
        · exact e
      generalize blkS M v a = x at h0 e0 hbk ⊢
      rw [if_neg hne, o2, o3, bI_some, v_eq, if_neg (show ¬ (o : Int) = -1 by omega), S_Md_stepIn (d + 9) hb (by omega), bI_some, hk, S_Md_placeOf (d + 9) (by omega) (by omega), bI_some, st_eq, wc_l _ _ (by omega) (by omega), (o4.co o o1 hu).2 k hk8, o6, dec_0]
      have hct : ∀ u : Nat, u < 12 → ∀ e : Int, 0 ≤ e ∧ e < 512 → ct (hangS r.2 ((o : Int) + 96) k x 6) (hangS r.2 ((o : Int) + 96) k x 10) u e = if u = w ∧ e = b then x else ct (M 6) (M 10) u e := fun u hu e he => by
        have hp := hangS_pure r.2 o1 hk8 x (fun z => by have := o4.bd z; omega)
        rw [hp, st_ne _ _ (by decide), st_eq, st_ne _ _ (by decide), st_ne _ _ (by decide), leaf_ct o5 o4 hw1 hb w1 o1 hk o7 o6 x hu he, w2 u hu e]
      by_cases hs : r.2 6 ((o : Int) * 8 + k) = x
      · have hself := hang_self o1 hk8 (fun z => by have := o4.bd z; omega) hs ⟨hbk.1, by omega⟩ hbk.2.2
        rw [if_pos hs]
        rw [hself] at hct ⊢
        exact ⟨⟨fun k _ h4 h5 h6 h10 => o8 k h4 h5 h6 h10, Or.inr ⟨A1, rfl, rfl, o4, o5, hB1, o9, fun y hy hyv => o10 y (by omega) hyv⟩⟩, fun _ => hct⟩
      · rw [if_neg hs, S_Md_stepIn (d + 9) hb (by omega), bI_some, hk]
        refine ⟨?_, fun _ => hct⟩
        obtain ⟨k1, k2⟩ := @WR.hang r.2 A1 ex o4 o5 w o k o1 hk8 hu o6 x ⟨hbk.1, hbk.2.1⟩ (fun y h0 h1 hy => by
          rcases hy with q | q
          · exact hB1 y h0 h1 q
          · exact hB1 y h0 h1 (by rw [q]; exact hbk.2.2)) (d + 2) N
        refine ⟨fun i h3 h4 h5 h6 h10 => by rw [k1 i h3 h4 h5 h6 h10, o8 i h4 h5 h6 h10], ?_⟩
        rcases k2 with ⟨R, q1, q2, q3⟩ | ⟨A', q1, q2, q3, q4, q5, q6, q7⟩
        · exact absurd (show (1 : Int) = 0 from q1) (by decide)
        · exact Or.inr ⟨A', q1, q2, q3, q4, q5, fun w hw => by rw [q6 w hw, o9 w hw], fun y hy hyv => by rw [q7 y hy hyv, o10 y (by omega) hyv]⟩
