/-! THE REFERENCE: the part, block, value at an address; how many are mapped -/
def dnS (pl : Int → Int) (a : Int) : Nat → Int → Int → Int
  | 0, t, _ => t
  | n + 1, t, m => dnS pl a n (atS pl t (plc a m)) (m - 1)
theorem dn_m1 (pl : Int → Int) (a : Int) : ∀ (n : Nat) (m : Int), dnS pl a n (-1) m = -1
  | 0, _ => rfl
  | n + 1, m => by unfold dnS; rw [at_m1]; exact dn_m1 pl a n _
theorem dec_T {k x : Int} (hk : k ≠ 0) : dec k x = decT x := by unfold dec decT; rw [if_neg hk]
theorem dec_0 (x : Int) : dec 0 x = x := by
  unfold dec
  split
  · next e => exact e.symm
  · rw [if_pos rfl]
theorem pa_loop (d : Nat) {A c c' kd pl tr ex : Int → Int} (h : PI A c kd pl tr ex) {a low : Int} (ha : 0 ≤ a ∧ a < 512) (hl : 0 ≤ low) (N : am_M) : ∀ (n : Nat) (t m : Int), m = low + n → m ≤ 2 → (t = -1 ∨ (96 ≤ t ∧ t < 256 ∧ c t ≠ 0 ∧ kd (t - 96) = m)) →
    am_at am_P (d + 1) j_Md_partAt 11 [am_r 6 504, am_u, am_i a, am_i low, am_i (decT t), am_i m] [] (am_st N 505 (wc A c')) = some (some (am_i (decT (dnS pl a n t m))), am_st N 505 (wc A c'))
  | 0, t, m, hm, hm2, ht => by
    rw [E_Md_partAt_11, if_neg (by omega)]
    rfl
  | n + 1, t, m, hm, hm2, ht => by
    have ih := pa_loop d (c' := c') h ha hl N n
    rw [E_Md_partAt_11, if_pos (by omega)]
    rcases ht with rfl | ⟨t1, t2, t3, t4⟩
    · rw [show decT (-1) = -1 from if_pos rfl, if_pos rfl, dn_m1]
      rfl
    · have h8 := plc_8 a m
      obtain ⟨p, hp⟩ : ∃ p : Nat, t = (p : Int) + 96 := ⟨(t - 96).toNat, by omega⟩
      obtain ⟨k, hk⟩ : ∃ k : Nat, plc a m = (k : Int) := ⟨(plc a m).toNat, by omega⟩
      have e1 : atS pl t (plc a m) = pl ((p : Int) * 8 + k) := by rw [hk, at_in ⟨t1, t2⟩ (by omega), show t - 96 = (p : Int) by omega]
      have ec : A (198 + 10 * (p : Int) + k) = decT (atS pl t (plc a m)) := by
        have hkp : kd p = m := by rw [show t - 96 = (p : Int) by omega] at t4; exact t4
        rw [(h.co p (by omega) (by rw [← hp]; exact t3)).2 k (by omega), e1, hkp, dec_T (by omega)]
      rw [decT_part ⟨t1, t2⟩, if_neg (by omega), S_Md_stepIn d ha (by omega), bI_some, show t - 96 = (p : Int) by omega, hk, S_Md_placeOf d (by omega) (by omega), bI_some, st_eq, wc_l _ _ (by omega) (by omega), ec, v_eq, v_eq, wr_id (by omega) (by omega), show m + -1 = m - 1 by omega]
      unfold dnS
      refine ih _ _ (by omega) (by omega) ?_
      rcases h.kid (n := m) ⟨t1, t2, t3, t4⟩ (plc a m) with e | ⟨e, -⟩ | ⟨_, e1', e2', e3', e4'⟩
      · exact Or.inl e
      · omega
      · exact Or.inr ⟨e1', e2', e3', e4'⟩
theorem S_Md_partAt (d : Nat) {M : am_M} {A ex c' : Int → Int} (h : PI A (M 4) (M 5) (M 6) (M 10) ex) (hV : RV M A) {v : Nat} (hv : thS M v) {a kd : Int} (ha : 0 ≤ a ∧ a < 512) (hk : 0 ≤ kd ∧ kd ≤ 2) (N : am_M) : am_m am_P (d + 2) j_Md_partAt [am_r 6 504, am_i v, am_i a, am_i kd] (am_st N 505 (wc A c')) = some (some (am_i (decT (thgS M v a (kd + 1)))), am_st N 505 (wc A c')) := by
  have hv12 : v < 12 := by have := hv.2.1; omega
  show am_at am_P (d + 1) j_Md_partAt 0 [am_r 6 504, am_i v, am_i a, am_i kd, am_u, am_u] [] (am_st N 505 (wc A c')) = _
  rw [E_Md_partAt_0, S_Md_get d (by omega) (by omega), bI_some, st_eq, wc_o _ _ (by omega), (hV v hv12).2 hv.2.2, v_eq, v_eq]
  have := pa_loop d (c' := c') h ha hk.1 N (2 - kd).toNat (M 10 v) 2 (by omega) (by omega) (hV.tr h hv12)
  rw [this]
  rcases (show kd = 0 ∨ kd = 1 ∨ kd = 2 by omega) with rfl | rfl | rfl
  · rw [show (0 : Int) + 1 = 1 from rfl, thg_1 hv]; rfl
  · rw [show (1 : Int) + 1 = 2 from rfl, thg_2 hv]; rfl
  · rw [show (2 : Int) + 1 = 3 from rfl, thg_3 hv]; rfl
theorem S_Md_blockAt (d : Nat) {M : am_M} {A ex c' : Int → Int} (h : PI A (M 4) (M 5) (M 6) (M 10) ex) (hV : RV M A) {v : Nat} (hv : thS M v) {a : Int} (ha : 0 ≤ a ∧ a < 512) (N : am_M) : am_m am_P (d + 3) j_Md_blockAt [am_r 6 504, am_i v, am_i a] (am_st N 505 (wc A c')) = some (some (am_i (blkS M v a)), am_st N 505 (wc A c')) := by
  have hv12 : v < 12 := by have := hv.2.1; omega
  show am_at am_P (d + 2) j_Md_blockAt 0 [am_r 6 504, am_i v, am_i a, am_u] [] (am_st N 505 (wc A c')) = _
  rw [E_Md_blockAt_0, S_Md_partAt d h hV hv ha (by omega), bI_some, v_eq, show (0 : Int) + 1 = 1 from rfl, thg_1 hv]
  unfold blkS
  rw [thg_0 hv]
  rcases lf_ok hV h hv12 a with e | ⟨t1, t2, t3, t4⟩
  · rw [e, show decT (-1) = -1 from if_pos rfl, if_pos rfl]
    unfold bkS
    rw [e, at_m1]
  · have h8 := plc_8 a 0
    obtain ⟨p, hp⟩ : ∃ p : Nat, lfS M v a = (p : Int) + 96 := ⟨(lfS M v a - 96).toNat, by omega⟩
    obtain ⟨k, hk⟩ : ∃ k : Nat, plc a 0 = (k : Int) := ⟨(plc a 0).toNat, by omega⟩
    have hkp : M 5 p = 0 := by rw [show lfS M v a - 96 = (p : Int) by omega] at t4; exact t4
    have e1 : bkS M v a = M 6 ((p : Int) * 8 + k) := by unfold bkS; rw [hk, at_in ⟨t1, t2⟩ (by omega), show lfS M v a - 96 = (p : Int) by omega]
    rw [decT_part ⟨t1, t2⟩, if_neg (by omega), S_Md_stepIn (d + 1) ha (by omega), bI_some, show lfS M v a - 96 = (p : Int) by omega, hk, S_Md_placeOf (d + 1) (by omega) (by omega), bI_some, st_eq, wc_l _ _ (by omega) (by omega), (h.co p (by omega) (by rw [← hp]; exact t3)).2 k (by omega), hkp, dec_0, e1]
theorem S_Md_readAt (d : Nat) {M : am_M} {A ex c' : Int → Int} (h : PI A (M 4) (M 5) (M 6) (M 10) ex) (hV : RV M A) (hB : RB M A) {v : Nat} (hv : thS M v) {a : Int} (ha : 0 ≤ a ∧ a < 512) (N : am_M) : am_m am_P (d + 4) j_Md_readAt [am_r 6 504, am_i v, am_i a] (am_st N 505 (wc A c')) = some (some (am_i (vatS M v a)), am_st N 505 (wc A c')) := by
  have hv12 : v < 12 := by have := hv.2.1; omega
  show am_at am_P (d + 3) j_Md_readAt 0 [am_r 6 504, am_i v, am_i a, am_u] [] (am_st N 505 (wc A c')) = _
  rw [E_Md_readAt_0, S_Md_blockAt d h hV hv ha, bI_some, v_eq]
  unfold vatS
  have hb : blkS M v a = bkS M v a := thg_0 hv a
  rcases bk_ok hV h hv12 a with e | ⟨e1, e2, e3⟩
  · rw [hb, e, if_pos rfl]
    unfold valS
    rw [if_neg (by omega)]
  · rw [hb, if_neg (by omega), S_Md_valueOf (d + 2) ⟨e1, e2⟩, bI_some, st_eq, wc_v _ _ ⟨e1, e2⟩, (hB _ e1 e2 e3).1]
    unfold valS
    rw [if_pos ⟨e1, e2⟩]
/-- how many addresses are mapped -/
def umS (M : am_M) (v : Int) : Int := sm (fun a => if blkS M v a = -1 then 0 else 1) 512
theorem um_bd (M : am_M) (v : Int) (n : Nat) : 0 ≤ sm (fun a => if blkS M v a = -1 then 0 else 1) n ∧ sm (fun a => if blkS M v a = -1 then 0 else 1) n ≤ n := by
  have := sm_bd (f := fun a => if blkS M v a = -1 then 0 else 1) (c := 1) n (fun k _ => by (try dsimp only); split <;> omega)
  omega
theorem S_Md_usedOf (d : Nat) {M : am_M} {A ex c' : Int → Int} (h : PI A (M 4) (M 5) (M 6) (M 10) ex) (hV : RV M A) {v : Nat} (hv : thS M v) (N : am_M) : am_m am_P (d + 4) j_Md_usedOf [am_r 6 504, am_i v] (am_st N 505 (wc A c')) = some (some (am_i (umS M v)), am_st N 505 (wc A c')) := by
  show am_at am_P (d + 3) j_Md_usedOf 0 [am_r 6 504, am_i v, am_u, am_u] [] (am_st N 505 (wc A c')) = _
  rw [E_Md_usedOf_0, v_eq, v_eq]
  obtain ⟨n, hn⟩ : ∃ n : Nat, n = 512 := ⟨512, rfl⟩
  have hu : umS M v = sm (fun a => if blkS M v a = -1 then 0 else 1) n := by rw [hn]; rfl
  rw [hu]
  refine lp_sum (F := fun s i => am_at am_P (d + 3) j_Md_usedOf 4 [am_r 6 504, am_i v, am_i s, am_i i] [] (am_st N 505 (wc A c'))) (f := fun a => if blkS M v a = -1 then 0 else 1) (n := n) ?_ ?_
  · try dsimp only
    rw [E_Md_usedOf_4, if_neg (by omega)]
  · intro i hi
    try dsimp only
    have hb := um_bd M v i
    rw [E_Md_usedOf_4, if_pos (by omega), S_Md_blockAt d h hV hv (by omega), bI_some]
    generalize sm (fun a => if blkS M v a = -1 then 0 else 1) i = s at hb ⊢
    by_cases h0 : blkS M v i = -1
    · rw [if_pos h0, if_pos h0, v_eq, v_eq, wr_id (by omega) (by omega), wr_id (by omega) (by omega)]
    · rw [if_neg h0, if_neg h0, v_eq, v_eq, wr_id (by omega) (by omega), wr_id (by omega) (by omega)]
