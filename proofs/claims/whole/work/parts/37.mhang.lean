/-! THE REFERENCE hangs as the class does -/
theorem LR_ne {n : Nat} {A c kd pl tr ex : Int → Int} {t : Int} (h : LR n A c kd pl tr ex t) (ht : 96 ≤ t ∧ t < 256) : c t ≠ 0 := by
  obtain ⟨hex, -, hX, -, -⟩ := h
  have hct := XC_at hX (show TP t from ht)
  rw [dl_eq] at hct
  have a1 := rfP_nn c pl t
  have a2 := rfT_nn tr t
  have a3 := hex t
  omega
theorem S_Md_letGoPart (d : Nat) {A kd pl tr : Int → Int} {p : Nat} (hp : p < 160) {c ex : Int → Int} (hL : LR 4 A c kd pl tr ex ((p : Int) + 96)) (M : am_M) : am_m am_P (d + 6) j_Md_letGoPart [am_r 6 504, am_i p] (am_st M 505 (wc A c)) = some (none, am_st M 505 (wc A (LGc pl 4 c ((p : Int) + 96)).2)) := by
  show am_at am_P (d + 5) j_Md_letGoPart 0 [am_r 6 504, am_i p] [] (am_st M 505 (wc A c)) = _
  have hp2 : 0 ≤ (p : Int) ∧ (p : Int) < 160 := by omega
  have hc0 := LR_ne hL ⟨by omega, by omega⟩
  have hA := (hL.2.2.2.1 p hp hc0).1
  have hk := (hL.2.1 p hp hc0).1
  rw [E_Md_letGoPart_0, S_Md_kindOf (d + 4) hp2, bI_some, st_eq, wc_k _ _ hp2, hA]
  by_cases h0 : kd p = 0
  · rw [if_pos h0, S_Md_letGoLeaf (d + 2) (n := 3) (by omega) (by omega) hp hL h0, bV_some]
  · rw [if_neg h0]
    by_cases h1 : kd p = 1
    · rw [if_pos h1, S_Md_letGoTwig (d + 1) (n := 3) (by omega) (by omega) hp hL h1, bV_some]
    · rw [if_neg h1, S_Md_letGoTrunk d (n := 3) (by omega) (by omega) hp hL (by omega), bV_some]
/-- a thing that may be in a part of a kind -/
def FT (kd : Int → Int) (kp x : Int) : Prop := (kp = 0 ∧ 0 ≤ x ∧ x < 96) ∨ (1 ≤ kp ∧ kp ≤ 2 ∧ 96 ≤ x ∧ x < 256 ∧ kd (x - 96) = kp - 1)
theorem FT_ne {kd : Int → Int} {kp x : Int} (h : FT kd kp x) : x ≠ -1 := by
  rcases h with ⟨-, h, -⟩ | ⟨-, -, h, -⟩ <;> omega
theorem FT_dec {kd : Int → Int} {kp x : Int} (h : FT kd kp x) : dec kp x ≠ -1 := by
  unfold dec
  rw [if_neg (FT_ne h)]
  rcases h with ⟨h1, h2, -⟩ | ⟨h1, -, h2, -⟩
  · rw [if_pos h1]; omega
  · rw [if_neg (by omega)]; omega
theorem S_Md_letGoIn (d : Nat) {A kd pl tr : Int → Int} {kp x : Int} (hx : FT kd kp x) {c ex : Int → Int} (hL : LR 4 A c kd pl tr ex x) (M : am_M) : am_m am_P (d + 7) j_Md_letGoIn [am_r 6 504, am_i kp, am_i (dec kp x)] (am_st M 505 (wc A c)) = some (none, am_st M 505 (wc A (LGc pl 4 c x).2)) := by
  show am_at am_P (d + 6) j_Md_letGoIn 0 [am_r 6 504, am_i kp, am_i (dec kp x)] [] (am_st M 505 (wc A c)) = _
  have hm := FT_ne hx
  have hB := hL.2.2.2.2 x
  rw [E_Md_letGoIn_0]
  unfold dec
  rw [if_neg hm]
  rcases hx with ⟨h1, h2, h3⟩ | ⟨h1, h2, h3, h4, h5⟩
  · rw [if_pos h1, if_pos h1, S_Md_letGoBlock (d + 4) A c ⟨h2, h3⟩ (by omega), bV_some, LGc_blk pl 3 c ⟨h2, h3⟩]
  · obtain ⟨p, hp⟩ : ∃ p : Nat, x = (p : Int) + 96 := ⟨(x - 96).toNat, by omega⟩
    subst hp
    rw [if_neg (by omega), if_neg (by omega), show (p : Int) + 96 - 96 = (p : Int) by omega, S_Md_letGoPart d (by omega) hL, bV_some]
theorem S_Md_countIn (d : Nat) {A kd c : Int → Int} {kp x : Int} (hx : FT kd kp x) (hc : 0 ≤ c x ∧ c x ≤ 2000000) (M : am_M) : am_m am_P (d + 2) j_Md_countIn [am_r 6 504, am_i kp, am_i (dec kp x)] (am_st M 505 (wc A c)) = some (none, am_st M 505 (wc A (am_up c x (c x + 1)))) := by
  show am_at am_P (d + 1) j_Md_countIn 0 [am_r 6 504, am_i kp, am_i (dec kp x)] [] (am_st M 505 (wc A c)) = _
  have hm := FT_ne hx
  rw [E_Md_countIn_0]
  unfold dec
  rw [if_neg hm]
  rcases hx with ⟨h1, h2, h3⟩ | ⟨h1, h2, h3, h4, h5⟩
  · have h : 0 ≤ x ∧ x < 96 := ⟨h2, h3⟩
    rw [if_pos h1, if_pos h1, S_Md_valueOf d h, bI_some, S_Md_blockCount d h, bI_some, S_Md_letBlock d h, bV_some, st_eq, st_st, wc_b _ _ h, if_neg (show ¬ c x < 0 by omega), wr_id (by omega) (by omega), up_self, wc_upB A c h (x := c x + 1) (by rw [if_neg (by omega)])]
  · have h : 0 ≤ x - 96 ∧ x - 96 < 160 := by omega
    rw [if_neg (by omega), if_neg (by omega), S_Md_partCount d h, bI_some, st_eq, wc_p _ _ h, wr_id (by rw [show x - 96 + 96 = x by omega]; omega) (by rw [show x - 96 + 96 = x by omega]; omega), S_Md_letPart d h, bV_some]
    unfold am_set
    rw [st_eq, st_st, wc_upP A c h, show x - 96 + 96 = x by omega]
/-- a cell of the row that is no count -/
theorem wc_upN (A c : Int → Int) {j : Int} (h1 : ¬ (5 ≤ j ∧ j ≤ 195 ∧ (j - 5) % 2 = 0)) (h2 : ¬ (197 ≤ j ∧ j ≤ 1787 ∧ (j - 197) % 10 = 0)) (x : Int) : am_up (wc A c) j x = wc (am_up A j x) c := by
  funext i
  by_cases hi : i = j
  · subst hi
    rw [up_eq]
    unfold wc
    rw [if_neg h1, if_neg h2, up_eq]
  · rw [up_ne _ _ hi]
    unfold wc
    rw [up_ne _ _ hi]
theorem S_Md_hang (d : Nat) {A kd pl tr : Int → Int} {c ex : Int → Int} {p k : Nat} (hp : p < 160) (hk : k < 8) {x : Int} (hx : FT kd (kd p) x) (hc0 : c ((p : Int) + 96) ≠ 0) (hC : CO A c kd pl) (hc : 0 ≤ c x ∧ c x ≤ 2000000)
    (hw : pl ((p : Int) * 8 + k) = -1 ∨ (FT kd (kd p) (pl ((p : Int) * 8 + k)) ∧ LR 4 (am_up A (198 + 10 * (p : Int) + k) (dec (kd p) x)) (am_up c x (c x + 1)) kd (am_up pl ((p : Int) * 8 + k) x) tr ex (pl ((p : Int) * 8 + k)))) (M : am_M) :
    am_m am_P (d + 8) j_Md_hang [am_r 6 504, am_i p, am_i k, am_i (dec (kd p) x)] (am_st M 505 (wc A c)) = some (none, am_st M 505 (wc (am_up A (198 + 10 * (p : Int) + k) (dec (kd p) x)) (LGc (am_up pl ((p : Int) * 8 + k) x) 4 (am_up c x (c x + 1)) (pl ((p : Int) * 8 + k))).2)) := by
  show am_at am_P (d + 7) j_Md_hang 0 [am_r 6 504, am_i p, am_i k, am_i (dec (kd p) x), am_u] [] (am_st M 505 (wc A c)) = _
  have hp2 : 0 ≤ (p : Int) ∧ (p : Int) < 160 := by omega
  have hk2 : 0 ≤ (k : Int) ∧ (k : Int) < 8 := by omega
  obtain ⟨hA1, hA2⟩ := hC p hp hc0
  have hA2 := hA2 k hk
  rw [E_Md_hang_0, S_Md_placeOf (d + 6) hp2 hk2, bI_some, v_eq, st_eq, wc_l _ _ hp2 hk2, hA2, S_Md_kindOf (d + 6) hp2, bI_some, st_eq, wc_k _ _ hp2, hA1, S_Md_countIn (d + 5) hx hc, bV_some, S_Md_letPlace (d + 6) hp2 hk2, bV_some]
  unfold am_set
  rw [st_eq, st_st, wc_upN _ _ (by omega) (by omega)]
  rcases hw with hw | ⟨hw, hL⟩
  · have e : dec (kd p) (-1) = -1 := if_pos rfl
    rw [hw, LGc_m1, e, if_pos rfl]
  · rw [if_neg (FT_dec hw), S_Md_kindOf (d + 6) hp2, bI_some, st_eq, wc_k _ _ hp2, up_ne _ _ (by omega), hA1, S_Md_letGoIn d hw hL, bV_some]
/-- a trunk hung from a volume: one (or -1), in place of one (or -1) -/
def decT (x : Int) : Int := if x = -1 then -1 else x - 96
theorem S_Md_hangTrunk (d : Nat) {A kd pl tr : Int → Int} {c ex : Int → Int} {v : Int} (hv : 0 ≤ v ∧ v < 12) {x w : Int} (hx : x = -1 ∨ (96 ≤ x ∧ x < 256)) (hA : A (1796 + 9 * v + 4) = decT w) (hc : x ≠ -1 → 0 ≤ c x ∧ c x ≤ 2000000)
    (hw : w = -1 ∨ (96 ≤ w ∧ w < 256 ∧ kd (w - 96) = 2 ∧ LR 4 (am_up A (1796 + 9 * v + 4) (decT x)) (if x = -1 then c else am_up c x (c x + 1)) kd pl tr ex w)) (M : am_M) :
    am_m am_P (d + 6) j_Md_hangTrunk [am_r 6 504, am_i v, am_i (decT x)] (am_st M 505 (wc A c)) = some (none, am_st M 505 (wc (am_up A (1796 + 9 * v + 4) (decT x)) (LGc pl 4 (if x = -1 then c else am_up c x (c x + 1)) w).2)) := by
  show am_at am_P (d + 5) j_Md_hangTrunk 0 [am_r 6 504, am_i v, am_i (decT x), am_u] [] (am_st M 505 (wc A c)) = _
  have h4 : (0 : Int) ≤ 4 ∧ (4 : Int) < 9 := by decide
  rw [E_Md_hangTrunk_0, S_Md_get (d + 4) hv h4, bI_some, v_eq, st_eq, wc_o _ _ (Or.inr (by omega)), hA]
  have fin : ∀ c' : Int → Int, (w = -1 ∨ (96 ≤ w ∧ w < 256 ∧ kd (w - 96) = 2 ∧ LR 4 (am_up A (1796 + 9 * v + 4) (decT x)) c' kd pl tr ex w)) → (if decT w = -1 then (some (none, am_st M 505 (wc (am_up A (1796 + 9 * v + 4) (decT x)) c')) : Option am_O) else (am_bV (am_m am_P (d + 5) j_Md_letGoTrunk [am_r 6 504, am_i (decT w)] (am_st M 505 (wc (am_up A (1796 + 9 * v + 4) (decT x)) c'))) fun M5 => some (none, M5))) = some (none, am_st M 505 (wc (am_up A (1796 + 9 * v + 4) (decT x)) (LGc pl 4 c' w).2)) := by
    intro c' hw
    rcases hw with hw | ⟨w1, w2, w3, hL⟩
    · have e : decT (-1) = -1 := if_pos rfl
      rw [hw, LGc_m1, e, if_pos rfl]
    · obtain ⟨q, hq⟩ : ∃ q : Nat, w = (q : Int) + 96 := ⟨(w - 96).toNat, by omega⟩
      subst hq
      have e : decT ((q : Int) + 96) = (q : Int) := by unfold decT; rw [if_neg (by omega)]; omega
      rw [show (q : Int) + 96 - 96 = (q : Int) by omega] at w3
      rw [e, if_neg (by omega), S_Md_letGoTrunk d (n := 3) (by omega) (by omega) (by omega) hL w3, bV_some]
  by_cases hx1 : x = -1
  · have e : decT x = -1 := if_pos hx1
    rw [if_pos hx1] at hw ⊢
    rw [if_pos e, S_Md_let (d + 4) hv h4, bV_some]
    unfold am_set
    rw [st_eq, st_st, wc_upN _ _ (by omega) (by omega)]
    exact fin c hw
  · have hxr : 96 ≤ x ∧ x < 256 := by rcases hx with h | h; exact absurd h hx1; exact h
    have e : decT x = x - 96 := if_neg hx1
    have h : 0 ≤ x - 96 ∧ x - 96 < 160 := by omega
    have hc := hc hx1
    have ee : x - 96 + 96 = x := by omega
    rw [if_neg hx1] at hw ⊢
    rw [if_neg (by omega)]
    have e1 : am_m am_P (d + 5) j_Md_partCount [am_r 6 504, am_i (decT x)] (am_st M 505 (wc A c)) = some (some (am_i (c x)), am_st M 505 (wc A c)) := by
      rw [e, S_Md_partCount (d + 4) h, st_eq, wc_p _ _ h, ee]
    have e2 : am_m am_P (d + 5) j_Md_letPart [am_r 6 504, am_i (decT x), am_i (c x + 1)] (am_st M 505 (wc A c)) = some (none, am_st M 505 (wc A (am_up c x (c x + 1)))) := by
      rw [e, S_Md_letPart (d + 4) h]
      unfold am_set
      rw [st_eq, st_st, wc_upP A c h, ee]
    rw [e1, bI_some, wr_id (by omega) (by omega), e2, bV_some, S_Md_let (d + 4) hv h4, bV_some]
    unfold am_set
    rw [st_eq, st_st, wc_upN _ _ (by omega) (by omega)]
    exact fin _ hw
