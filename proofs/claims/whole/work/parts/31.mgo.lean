/-! THE REFERENCE lets go as the class does -/
/-- the reference's row with these counts (a block's never below 0) -/
def wc (A c : Int → Int) : Int → Int := fun j => if 5 ≤ j ∧ j ≤ 195 ∧ (j - 5) % 2 = 0 then (if c ((j - 5) / 2) < 0 then 0 else c ((j - 5) / 2)) else if 197 ≤ j ∧ j ≤ 1787 ∧ (j - 197) % 10 = 0 then c ((j - 197) / 10 + 96) else A j
theorem wc_b (A c : Int → Int) {b : Int} (h : 0 ≤ b ∧ b < 96) : wc A c (5 + 2 * b) = if c b < 0 then 0 else c b := by
  unfold wc
  rw [if_pos (by omega), show (5 + 2 * b - 5) / 2 = b by omega]
theorem wc_p (A c : Int → Int) {p : Int} (h : 0 ≤ p ∧ p < 160) : wc A c (197 + 10 * p) = c (p + 96) := by
  unfold wc
  rw [if_neg (by omega), if_pos (by omega), show (197 + 10 * p - 197) / 10 = p by omega]
theorem wc_v (A c : Int → Int) {b : Int} (h : 0 ≤ b ∧ b < 96) : wc A c (4 + 2 * b) = A (4 + 2 * b) := by
  unfold wc
  rw [if_neg (by omega), if_neg (by omega)]
theorem wc_k (A c : Int → Int) {p : Int} (h : 0 ≤ p ∧ p < 160) : wc A c (196 + 10 * p) = A (196 + 10 * p) := by
  unfold wc
  rw [if_neg (by omega), if_neg (by omega)]
theorem wc_l (A c : Int → Int) {p k : Int} (h : 0 ≤ p ∧ p < 160) (hk : 0 ≤ k ∧ k < 8) : wc A c (198 + 10 * p + k) = A (198 + 10 * p + k) := by
  unfold wc
  rw [if_neg (by omega), if_neg (by omega)]
theorem wc_o (A c : Int → Int) {j : Int} (h : j < 4 ∨ 1796 ≤ j) : wc A c j = A j := by
  unfold wc
  rw [if_neg (by omega), if_neg (by omega)]
theorem wc_upP (A c : Int → Int) {p : Int} (h : 0 ≤ p ∧ p < 160) (x : Int) : am_up (wc A c) (197 + 10 * p) x = wc A (am_up c (p + 96) x) := by
  funext j
  by_cases hj : j = 197 + 10 * p
  · subst hj
    rw [up_eq, wc_p _ _ h, up_eq]
  · rw [up_ne _ _ hj]
    unfold wc
    by_cases h1 : 5 ≤ j ∧ j ≤ 195 ∧ (j - 5) % 2 = 0
    · rw [if_pos h1, if_pos h1, up_ne _ _ (by omega)]
    · rw [if_neg h1, if_neg h1]
      by_cases h2 : 197 ≤ j ∧ j ≤ 1787 ∧ (j - 197) % 10 = 0
      · rw [if_pos h2, if_pos h2, up_ne _ _ (by omega)]
      · rw [if_neg h2, if_neg h2]
theorem wc_upB (A c : Int → Int) {b : Int} (h : 0 ≤ b ∧ b < 96) {x y : Int} (hy : (if x < 0 then 0 else x) = y) : am_up (wc A c) (5 + 2 * b) y = wc A (am_up c b x) := by
  funext j
  by_cases hj : j = 5 + 2 * b
  · subst hj
    rw [up_eq, wc_b _ _ h, up_eq, hy]
  · rw [up_ne _ _ hj]
    unfold wc
    by_cases h1 : 5 ≤ j ∧ j ≤ 195 ∧ (j - 5) % 2 = 0
    · rw [if_pos h1, if_pos h1, up_ne _ _ (by omega)]
    · rw [if_neg h1, if_neg h1]
      by_cases h2 : 197 ≤ j ∧ j ≤ 1787 ∧ (j - 197) % 10 = 0
      · rw [if_pos h2, if_pos h2, up_ne _ _ (by omega)]
      · rw [if_neg h2, if_neg h2]
theorem up_self (f : Int → Int) (k : Int) : am_up f k (f k) = f := by
  funext j
  by_cases h : j = k
  · rw [h, up_eq]
  · rw [up_ne _ _ h]
theorem S_Md_letGoBlock (d : Nat) (A c : Int → Int) {b : Int} (h : 0 ≤ b ∧ b < 96) (hc : -2000000 ≤ c b ∧ c b ≤ 2000000) (M : am_M) : am_m am_P (d + 2) j_Md_letGoBlock [am_r 6 504, am_i b] (am_st M 505 (wc A c)) = some (none, am_st M 505 (wc A (am_up c b (c b - 1)))) := by
  show am_at am_P (d + 1) j_Md_letGoBlock 0 [am_r 6 504, am_i b] [] (am_st M 505 (wc A c)) = _
  rw [E_Md_letGoBlock_0, S_Md_blockCount d h, bI_some, st_eq, wc_b _ _ h]
  by_cases h0 : 0 < c b
  · rw [if_pos (by rw [if_neg (by omega)]; exact h0), S_Md_valueOf d h, bI_some, S_Md_blockCount d h, bI_some, S_Md_letBlock d h, bV_some, st_eq, st_st, wc_b _ _ h, if_neg (show ¬ c b < 0 by omega), wr_id (by omega) (by omega), up_self, wc_upB A c h (x := c b - 1) (by rw [if_neg (by omega)])]
  · rw [if_neg (by split <;> omega)]
    have e : wc A (am_up c b (c b - 1)) = wc A c := by
      rw [← wc_upB A c h (x := c b - 1) (y := 0) (by rw [if_pos (by omega)])]
      have : wc A c (5 + 2 * b) = 0 := by rw [wc_b _ _ h]; split <;> omega
      rw [← this, up_self]
    rw [e]
/-- a thing as the reference has it in a part of a kind -/
def dec (kd x : Int) : Int := if x = -1 then -1 else if kd = 0 then x else x - 96
/-- what the reference has of the parts in use is what the class has -/
def CO (A c kd pl : Int → Int) : Prop := ∀ p : Nat, p < 160 → c ((p : Int) + 96) ≠ 0 → A (196 + 10 * (p : Int)) = kd p ∧ ∀ k : Nat, k < 8 → A (198 + 10 * (p : Int) + k) = dec (kd p) (pl ((p : Int) * 8 + k))
theorem CO.mono {A c c' kd pl : Int → Int} (h : CO A c kd pl) (hm : ∀ p : Nat, p < 160 → c' ((p : Int) + 96) ≠ 0 → c ((p : Int) + 96) ≠ 0) : CO A c' kd pl := fun p hp h0 => h p hp (hm p hp h0)
abbrev TP : Int → Prop := fun t => 96 ≤ t ∧ t < 256
/-- all that letting a part go asks of the counts -/
def LR (n : Nat) (A c kd pl tr ex : Int → Int) (t : Int) : Prop := (∀ x, 0 ≤ ex x) ∧ KW c kd pl ∧ XC TP c pl tr (fun x => ex x + dl t x) ∧ CO A c kd pl ∧ ∀ x, (9 ^ n : Nat) - 2000000 ≤ c x ∧ c x ≤ 2000000
theorem LGc_blk (pl : Int → Int) (n : Nat) (c : Int → Int) {b : Int} (h : 0 ≤ b ∧ b < 96) : (LGc pl (n + 1) c b).2 = am_up c b (c b - 1) := by
  unfold LGc
  rw [if_pos (by omega), if_pos h.2]
  split <;> rfl
theorem LGc_m1 (pl : Int → Int) (n : Nat) (c : Int → Int) : (LGc pl n c (-1)).2 = c := by
  cases n with
  | zero => rfl
  | succ n =>
    unfold LGc
    rw [if_neg (by omega)]
theorem S_Md_letGoLeaf (d : Nat) {A kd pl tr : Int → Int} {n : Nat} (hn : 1 ≤ n) (hn4 : n ≤ 3) {p : Nat} (hp : p < 160) {c ex : Int → Int} (hL : LR (n + 1) A c kd pl tr ex ((p : Int) + 96)) (hk : kd p = 0) (M : am_M) : am_m am_P (d + 3) j_Md_letGoLeaf [am_r 6 504, am_i p] (am_st M 505 (wc A c)) = some (none, am_st M 505 (wc A (LGc pl (n + 1) c ((p : Int) + 96)).2)) := by
  obtain ⟨hex, hK, hX, hC, hB⟩ := hL
  have hp2 : 0 ≤ (p : Int) ∧ (p : Int) < 160 := by omega
  show am_at am_P (d + 2) j_Md_letGoLeaf 0 [am_r 6 504, am_i p, am_u] [] (am_st M 505 (wc A c)) = _
  have hct := XC_at hX (show TP ((p : Int) + 96) from ⟨by omega, by omega⟩)
  rw [dl_eq] at hct
  have a1 := rfP_nn c pl ((p : Int) + 96)
  have a2 := rfT_nn tr ((p : Int) + 96)
  have a3 := hex ((p : Int) + 96)
  have hc0 : c ((p : Int) + 96) ≠ 0 := by omega
  have hBp := hB ((p : Int) + 96)
  have h9 : (9 ^ (n + 1) : Nat) = 9 * 9 ^ n := by rw [Nat.pow_succ]; omega
  have h1 : 1 ≤ 9 ^ n := Nat.one_le_pow _ _ (by omega)
  have h6 : 9 ^ n ≤ 729 := by
    rcases (show n = 0 ∨ n = 1 ∨ n = 2 ∨ n = 3 by omega) with rfl | rfl | rfl | rfl <;> decide
  rw [E_Md_letGoLeaf_0, S_Md_partCount (d + 1) hp2, bI_some, st_eq, wc_p _ _ hp2, wr_id (by omega) (by omega), S_Md_letPart (d + 1) hp2, bV_some]
  unfold am_set
  rw [st_eq, st_st, wc_upP A c hp2, S_Md_partCount (d + 1) hp2, bI_some, st_eq, wc_p _ _ hp2, up_eq]
  unfold LGc
  rw [if_pos (show 0 ≤ (p : Int) + 96 ∧ (p : Int) + 96 < 256 by omega)]
  by_cases hz : c ((p : Int) + 96) - 1 = 0
  · rw [if_neg (by omega), if_pos hz, if_neg (show ¬ (p : Int) + 96 < 96 by omega), v_eq]
    have hfree : ∀ x, rfP (am_up c ((p : Int) + 96) (c ((p : Int) + 96) - 1)) pl x = rfP c pl x - tmP pl p x := fun x => rfP_free hp hc0 (by rw [up_eq]; exact hz) (fun q hq hqp => up_ne _ _ (by omega)) x
    have h0 : XC TP (am_up c ((p : Int) + 96) (c ((p : Int) + 96) - 1)) pl tr (fun x => ex x + tlP pl p 0 x) := by
      intro x hx
      have h1 := XC_at hX hx
      (try dsimp only)
      rw [tlP_0, hfree x]
      by_cases hxt : x = (p : Int) + 96
      · subst hxt
        rw [up_eq]
        have := tmP_nn pl p ((p : Int) + 96)
        have h2 := rfP_nn (am_up c ((p : Int) + 96) (c ((p : Int) + 96) - 1)) pl ((p : Int) + 96)
        rw [hfree] at h2
        omega
      · rw [dl_ne hxt] at h1
        rw [up_ne _ _ hxt]
        omega
    have hm0 : ∀ q : Nat, q < 160 → am_up c ((p : Int) + 96) (c ((p : Int) + 96) - 1) ((q : Int) + 96) ≠ 0 → c ((q : Int) + 96) ≠ 0 := fun q hq h => by
      by_cases hqp : (q : Int) + 96 = (p : Int) + 96
      · rw [hqp, up_eq] at h; exact absurd hz h
      · rwa [up_ne _ _ hqp] at h
    have hup : ∀ x, c x - 1 ≤ am_up c ((p : Int) + 96) (c ((p : Int) + 96) - 1) x ∧ am_up c ((p : Int) + 96) (c ((p : Int) + 96) - 1) x ≤ c x := fun x => by
      by_cases hx : x = (p : Int) + 96
      · subst hx; rw [up_eq]; omega
      · rw [up_ne _ _ hx]; omega
    refine (lp_itP (σ := Int × (Int → Int)) (F := fun i s => am_at am_P (d + 2) j_Md_letGoLeaf 23 [am_r 6 504, am_i p, am_i i] [] (am_st M 505 (wc A s.2))) (b := fun k s => (s.1 + (LGc pl n s.2 (atS pl ((p : Int) + 96) k)).1, (LGc pl n s.2 (atS pl ((p : Int) + 96) k)).2)) (r := fun s => some (none, am_st M 505 (wc A s.2))) (fun i s => ∃ k : Nat, i = k ∧ XC TP s.2 pl tr (fun x => ex x + tlP pl p k x) ∧ (∀ q : Nat, q < 160 → s.2 ((q : Int) + 96) ≠ 0 → c ((q : Int) + 96) ≠ 0) ∧ ∀ x, c x - 1 - i * (9 ^ n : Nat) ≤ s.2 x ∧ s.2 x ≤ c x) 8 0 (0, am_up c ((p : Int) + 96) (c ((p : Int) + 96) - 1)) ⟨0, rfl, h0, hm0, fun x => by have := hup x; (try dsimp only); omega⟩ (fun s hs => ?_) (fun i s hi1 hi2 hs => ?_)).1
    · (try dsimp only)
      rw [E_Md_letGoLeaf_23, if_neg (by omega)]
    · obtain ⟨k, rfl, hXs, hms, hbs⟩ := hs
      have hk8 : k < 8 := by omega
      have em : ((k : Int) + 1) * ((9 ^ n : Nat) : Int) = k * (9 ^ n : Nat) + (9 ^ n : Nat) := by rw [Int.add_mul]; omega
      have hi8 : (k : Int) * ((9 ^ n : Nat) : Int) ≤ 7 * ((9 ^ n : Nat) : Int) := Int.mul_le_mul_of_nonneg_right (by omega) (Int.natCast_nonneg _)
      have hat : atS pl ((p : Int) + 96) k = pl ((p : Int) * 8 + k) := by rw [at_in ⟨by omega, by omega⟩ ⟨by omega, by omega⟩, show (p : Int) + 96 - 96 = (p : Int) by omega]
      have hXs' : XC TP s.2 pl tr (fun x => (ex x + tlP pl p (k + 1) x) + dl (pl ((p : Int) * 8 + k)) x) := fun x hx => by
        have := hXs x hx
        (try dsimp only at this ⊢)
        rw [tlP_s pl hk8 x] at this
        omega
      have hch := (hK p hp hc0).2 k hk8
      have hex' : ∀ x, 0 ≤ ex x + tlP pl p (k + 1) x := fun x => by have := hex x; have := tlP_nn pl p (k + 1) x; omega
      have hLx := LG_X (T := TP) (fun t h1 h2 => ⟨h1, h2⟩) (fun t h => ⟨by have := h.1; omega, h.2⟩) (kd := kd) (pl := pl) (tr := tr) n s.2 (pl ((p : Int) * 8 + k)) (fun x => ex x + tlP pl p (k + 1) x) hex' (hK.mono hms) hXs' (by
        rcases hch with h | ⟨h1, h2, h3⟩ | ⟨h1, h2, h3, h4⟩
        · exact Or.inl h
        · exact Or.inr (Or.inl ⟨h2, h3, by omega⟩)
        · exact Or.inr (Or.inr ⟨h2, h3, by omega⟩))
      obtain ⟨g1, g2, g3⟩ := LGc_low pl n s.2 (pl ((p : Int) * 8 + k))
      have hA := ((hC p hp hc0).2 k hk8)
      (try dsimp only)
      rw [hat]
      refine ⟨?_, k + 1, by omega, hLx.1, fun q hq h => hms q hq (hLx.2 q hq h), fun x => ?_⟩
      · rw [E_Md_letGoLeaf_23, if_pos (by omega), S_Md_placeOf (d + 1) hp2 ⟨by omega, by omega⟩, bI_some, st_eq, wc_l _ _ hp2 ⟨by omega, by omega⟩, hA, hk]
        unfold dec
        by_cases hm1 : pl ((p : Int) * 8 + k) = -1
        · rw [if_pos hm1, if_pos rfl, v_eq, wr_id (by omega) (by omega), hm1, LGc_m1]
        · rw [if_neg hm1]
          rcases hch with h | ⟨h1, h2, h3⟩ | ⟨h1, h2, h3, h4⟩
          · exact absurd h hm1
          · rw [if_pos rfl, if_neg hm1, S_Md_placeOf (d + 1) hp2 ⟨by omega, by omega⟩, bI_some, st_eq, wc_l _ _ hp2 ⟨by omega, by omega⟩, hA, hk]
            unfold dec
            rw [if_neg hm1, if_pos rfl]
            have := hbs (pl ((p : Int) * 8 + k))
            have := hB (pl ((p : Int) * 8 + k))
            rw [S_Md_letGoBlock d A s.2 ⟨h2, h3⟩ (by omega), bV_some, v_eq, wr_id (by omega) (by omega)]
            obtain ⟨n', rfl⟩ : ∃ n', n = n' + 1 := ⟨n - 1, by omega⟩
            rw [LGc_blk pl n' s.2 ⟨h2, h3⟩]
          · omega
      · have := g1 x
        have := hbs x
        (try dsimp only)
        rw [em]
        omega
  · rw [if_pos (by omega), if_neg hz]
theorem S_Md_letGoTwig (d : Nat) {A kd pl tr : Int → Int} {n : Nat} (hn : 2 ≤ n) (hn4 : n ≤ 3) {p : Nat} (hp : p < 160) {c ex : Int → Int} (hL : LR (n + 1) A c kd pl tr ex ((p : Int) + 96)) (hk : kd p = 1) (M : am_M) : am_m am_P (d + 4) j_Md_letGoTwig [am_r 6 504, am_i p] (am_st M 505 (wc A c)) = some (none, am_st M 505 (wc A (LGc pl (n + 1) c ((p : Int) + 96)).2)) := by
  obtain ⟨hex, hK, hX, hC, hB⟩ := hL
  have hp2 : 0 ≤ (p : Int) ∧ (p : Int) < 160 := by omega
  show am_at am_P (d + 3) j_Md_letGoTwig 0 [am_r 6 504, am_i p, am_u] [] (am_st M 505 (wc A c)) = _
  have hct := XC_at hX (show TP ((p : Int) + 96) from ⟨by omega, by omega⟩)
  rw [dl_eq] at hct
  have a1 := rfP_nn c pl ((p : Int) + 96)
  have a2 := rfT_nn tr ((p : Int) + 96)
  have a3 := hex ((p : Int) + 96)
  have hc0 : c ((p : Int) + 96) ≠ 0 := by omega
  have hBp := hB ((p : Int) + 96)
  have h9 : (9 ^ (n + 1) : Nat) = 9 * 9 ^ n := by rw [Nat.pow_succ]; omega
  have h1 : 1 ≤ 9 ^ n := Nat.one_le_pow _ _ (by omega)
  have h6 : 9 ^ n ≤ 729 := by
    rcases (show n = 0 ∨ n = 1 ∨ n = 2 ∨ n = 3 by omega) with rfl | rfl | rfl | rfl <;> decide
  rw [E_Md_letGoTwig_0, S_Md_partCount (d + 2) hp2, bI_some, st_eq, wc_p _ _ hp2, wr_id (by omega) (by omega), S_Md_letPart (d + 2) hp2, bV_some]
  unfold am_set
  rw [st_eq, st_st, wc_upP A c hp2, S_Md_partCount (d + 2) hp2, bI_some, st_eq, wc_p _ _ hp2, up_eq]
  unfold LGc
  rw [if_pos (show 0 ≤ (p : Int) + 96 ∧ (p : Int) + 96 < 256 by omega)]
  by_cases hz : c ((p : Int) + 96) - 1 = 0
  · rw [if_neg (by omega), if_pos hz, if_neg (show ¬ (p : Int) + 96 < 96 by omega), v_eq]
    have hfree : ∀ x, rfP (am_up c ((p : Int) + 96) (c ((p : Int) + 96) - 1)) pl x = rfP c pl x - tmP pl p x := fun x => rfP_free hp hc0 (by rw [up_eq]; exact hz) (fun q hq hqp => up_ne _ _ (by omega)) x
    have h0 : XC TP (am_up c ((p : Int) + 96) (c ((p : Int) + 96) - 1)) pl tr (fun x => ex x + tlP pl p 0 x) := by
      intro x hx
      have h1 := XC_at hX hx
      (try dsimp only)
      rw [tlP_0, hfree x]
      by_cases hxt : x = (p : Int) + 96
      · subst hxt
        rw [up_eq]
        have := tmP_nn pl p ((p : Int) + 96)
        have h2 := rfP_nn (am_up c ((p : Int) + 96) (c ((p : Int) + 96) - 1)) pl ((p : Int) + 96)
        rw [hfree] at h2
        omega
      · rw [dl_ne hxt] at h1
        rw [up_ne _ _ hxt]
        omega
    have hm0 : ∀ q : Nat, q < 160 → am_up c ((p : Int) + 96) (c ((p : Int) + 96) - 1) ((q : Int) + 96) ≠ 0 → c ((q : Int) + 96) ≠ 0 := fun q hq h => by
      by_cases hqp : (q : Int) + 96 = (p : Int) + 96
      · rw [hqp, up_eq] at h; exact absurd hz h
      · rwa [up_ne _ _ hqp] at h
    have hup : ∀ x, c x - 1 ≤ am_up c ((p : Int) + 96) (c ((p : Int) + 96) - 1) x ∧ am_up c ((p : Int) + 96) (c ((p : Int) + 96) - 1) x ≤ c x := fun x => by
      by_cases hx : x = (p : Int) + 96
      · subst hx; rw [up_eq]; omega
      · rw [up_ne _ _ hx]; omega
    refine (lp_itP (σ := Int × (Int → Int)) (F := fun i s => am_at am_P (d + 3) j_Md_letGoTwig 23 [am_r 6 504, am_i p, am_i i] [] (am_st M 505 (wc A s.2))) (b := fun k s => (s.1 + (LGc pl n s.2 (atS pl ((p : Int) + 96) k)).1, (LGc pl n s.2 (atS pl ((p : Int) + 96) k)).2)) (r := fun s => some (none, am_st M 505 (wc A s.2))) (fun i s => ∃ k : Nat, i = k ∧ XC TP s.2 pl tr (fun x => ex x + tlP pl p k x) ∧ (∀ q : Nat, q < 160 → s.2 ((q : Int) + 96) ≠ 0 → c ((q : Int) + 96) ≠ 0) ∧ ∀ x, c x - 1 - i * (9 ^ n : Nat) ≤ s.2 x ∧ s.2 x ≤ c x) 8 0 (0, am_up c ((p : Int) + 96) (c ((p : Int) + 96) - 1)) ⟨0, rfl, h0, hm0, fun x => by have := hup x; (try dsimp only); omega⟩ (fun s hs => ?_) (fun i s hi1 hi2 hs => ?_)).1
    · (try dsimp only)
      rw [E_Md_letGoTwig_23, if_neg (by omega)]
    · obtain ⟨k, rfl, hXs, hms, hbs⟩ := hs
      have hk8 : k < 8 := by omega
      have em : ((k : Int) + 1) * ((9 ^ n : Nat) : Int) = k * (9 ^ n : Nat) + (9 ^ n : Nat) := by rw [Int.add_mul]; omega
      have hi8 : (k : Int) * ((9 ^ n : Nat) : Int) ≤ 7 * ((9 ^ n : Nat) : Int) := Int.mul_le_mul_of_nonneg_right (by omega) (Int.natCast_nonneg _)
      have hat : atS pl ((p : Int) + 96) k = pl ((p : Int) * 8 + k) := by rw [at_in ⟨by omega, by omega⟩ ⟨by omega, by omega⟩, show (p : Int) + 96 - 96 = (p : Int) by omega]
      have hXs' : XC TP s.2 pl tr (fun x => (ex x + tlP pl p (k + 1) x) + dl (pl ((p : Int) * 8 + k)) x) := fun x hx => by
        have := hXs x hx
        (try dsimp only at this ⊢)
        rw [tlP_s pl hk8 x] at this
        omega
      have hch := (hK p hp hc0).2 k hk8
      have hex' : ∀ x, 0 ≤ ex x + tlP pl p (k + 1) x := fun x => by have := hex x; have := tlP_nn pl p (k + 1) x; omega
      have hLx := LG_X (T := TP) (fun t h1 h2 => ⟨h1, h2⟩) (fun t h => ⟨by have := h.1; omega, h.2⟩) (kd := kd) (pl := pl) (tr := tr) n s.2 (pl ((p : Int) * 8 + k)) (fun x => ex x + tlP pl p (k + 1) x) hex' (hK.mono hms) hXs' (by
        rcases hch with h | ⟨h1, h2, h3⟩ | ⟨h1, h2, h3, h4⟩
        · exact Or.inl h
        · exact Or.inr (Or.inl ⟨h2, h3, by omega⟩)
        · exact Or.inr (Or.inr ⟨h2, h3, by omega⟩))
      obtain ⟨g1, g2, g3⟩ := LGc_low pl n s.2 (pl ((p : Int) * 8 + k))
      have hA := ((hC p hp hc0).2 k hk8)
      (try dsimp only)
      rw [hat]
      refine ⟨?_, k + 1, by omega, hLx.1, fun q hq h => hms q hq (hLx.2 q hq h), fun x => ?_⟩
      · rw [E_Md_letGoTwig_23, if_pos (by omega), S_Md_placeOf (d + 2) hp2 ⟨by omega, by omega⟩, bI_some, st_eq, wc_l _ _ hp2 ⟨by omega, by omega⟩, hA, hk]
        unfold dec
        by_cases hm1 : pl ((p : Int) * 8 + k) = -1
        · rw [if_pos hm1, if_pos rfl, v_eq, wr_id (by omega) (by omega), hm1, LGc_m1]
        · rw [if_neg hm1]
          rcases hch with h | ⟨h1, h2, h3⟩ | ⟨h1, h2, h3, h4⟩
          · exact absurd h hm1
          · omega
          · rw [if_neg (show ¬ (1 : Int) = 0 by omega), if_neg (by omega), S_Md_placeOf (d + 2) hp2 ⟨by omega, by omega⟩, bI_some, st_eq, wc_l _ _ hp2 ⟨by omega, by omega⟩, hA, hk]
            unfold dec
            rw [if_neg hm1, if_neg (show ¬ (1 : Int) = 0 by omega)]
            obtain ⟨q, hq⟩ : ∃ q : Nat, pl ((p : Int) * 8 + k) = (q : Int) + 96 := ⟨(pl ((p : Int) * 8 + k) - 96).toNat, by omega⟩
            obtain ⟨n', rfl⟩ : ∃ n', n = n' + 1 := ⟨n - 1, by omega⟩
            rw [hq, show (q : Int) + 96 - 96 = (q : Int) by omega]
            rw [hq] at hXs' h4
            rw [show (q : Int) + 96 - 96 = (q : Int) by omega, hk] at h4
            rw [S_Md_letGoLeaf d (n := n') (by omega) (by omega) (p := q) (by omega) (ex := fun x => ex x + tlP pl p (k + 1) x) ⟨hex', hK.mono hms, hXs', hC.mono hms, fun x => by
              have := hbs x
              have := hB x
              omega⟩ (by omega) M, bV_some, v_eq, wr_id (by omega) (by omega)]
      · have := g1 x
        have := hbs x
        (try dsimp only)
        rw [em]
        omega
  · rw [if_pos (by omega), if_neg hz]
theorem S_Md_letGoTrunk (d : Nat) {A kd pl tr : Int → Int} {n : Nat} (hn : 3 ≤ n) (hn4 : n ≤ 3) {p : Nat} (hp : p < 160) {c ex : Int → Int} (hL : LR (n + 1) A c kd pl tr ex ((p : Int) + 96)) (hk : kd p = 2) (M : am_M) : am_m am_P (d + 5) j_Md_letGoTrunk [am_r 6 504, am_i p] (am_st M 505 (wc A c)) = some (none, am_st M 505 (wc A (LGc pl (n + 1) c ((p : Int) + 96)).2)) := by
  obtain ⟨hex, hK, hX, hC, hB⟩ := hL
  have hp2 : 0 ≤ (p : Int) ∧ (p : Int) < 160 := by omega
  show am_at am_P (d + 4) j_Md_letGoTrunk 0 [am_r 6 504, am_i p, am_u] [] (am_st M 505 (wc A c)) = _
  have hct := XC_at hX (show TP ((p : Int) + 96) from ⟨by omega, by omega⟩)
  rw [dl_eq] at hct
  have a1 := rfP_nn c pl ((p : Int) + 96)
  have a2 := rfT_nn tr ((p : Int) + 96)
  have a3 := hex ((p : Int) + 96)
  have hc0 : c ((p : Int) + 96) ≠ 0 := by omega
  have hBp := hB ((p : Int) + 96)
  have h9 : (9 ^ (n + 1) : Nat) = 9 * 9 ^ n := by rw [Nat.pow_succ]; omega
  have h1 : 1 ≤ 9 ^ n := Nat.one_le_pow _ _ (by omega)
  have h6 : 9 ^ n ≤ 729 := by
    rcases (show n = 0 ∨ n = 1 ∨ n = 2 ∨ n = 3 by omega) with rfl | rfl | rfl | rfl <;> decide
  rw [E_Md_letGoTrunk_0, S_Md_partCount (d + 3) hp2, bI_some, st_eq, wc_p _ _ hp2, wr_id (by omega) (by omega), S_Md_letPart (d + 3) hp2, bV_some]
  unfold am_set
  rw [st_eq, st_st, wc_upP A c hp2, S_Md_partCount (d + 3) hp2, bI_some, st_eq, wc_p _ _ hp2, up_eq]
  unfold LGc
  rw [if_pos (show 0 ≤ (p : Int) + 96 ∧ (p : Int) + 96 < 256 by omega)]
  by_cases hz : c ((p : Int) + 96) - 1 = 0
  · rw [if_neg (by omega), if_pos hz, if_neg (show ¬ (p : Int) + 96 < 96 by omega), v_eq]
    have hfree : ∀ x, rfP (am_up c ((p : Int) + 96) (c ((p : Int) + 96) - 1)) pl x = rfP c pl x - tmP pl p x := fun x => rfP_free hp hc0 (by rw [up_eq]; exact hz) (fun q hq hqp => up_ne _ _ (by omega)) x
    have h0 : XC TP (am_up c ((p : Int) + 96) (c ((p : Int) + 96) - 1)) pl tr (fun x => ex x + tlP pl p 0 x) := by
      intro x hx
      have h1 := XC_at hX hx
      (try dsimp only)
      rw [tlP_0, hfree x]
      by_cases hxt : x = (p : Int) + 96
      · subst hxt
        rw [up_eq]
        have := tmP_nn pl p ((p : Int) + 96)
        have h2 := rfP_nn (am_up c ((p : Int) + 96) (c ((p : Int) + 96) - 1)) pl ((p : Int) + 96)
        rw [hfree] at h2
        omega
      · rw [dl_ne hxt] at h1
        rw [up_ne _ _ hxt]
        omega
    have hm0 : ∀ q : Nat, q < 160 → am_up c ((p : Int) + 96) (c ((p : Int) + 96) - 1) ((q : Int) + 96) ≠ 0 → c ((q : Int) + 96) ≠ 0 := fun q hq h => by
      by_cases hqp : (q : Int) + 96 = (p : Int) + 96
      · rw [hqp, up_eq] at h; exact absurd hz h
      · rwa [up_ne _ _ hqp] at h
    have hup : ∀ x, c x - 1 ≤ am_up c ((p : Int) + 96) (c ((p : Int) + 96) - 1) x ∧ am_up c ((p : Int) + 96) (c ((p : Int) + 96) - 1) x ≤ c x := fun x => by
      by_cases hx : x = (p : Int) + 96
      · subst hx; rw [up_eq]; omega
      · rw [up_ne _ _ hx]; omega
    refine (lp_itP (σ := Int × (Int → Int)) (F := fun i s => am_at am_P (d + 4) j_Md_letGoTrunk 23 [am_r 6 504, am_i p, am_i i] [] (am_st M 505 (wc A s.2))) (b := fun k s => (s.1 + (LGc pl n s.2 (atS pl ((p : Int) + 96) k)).1, (LGc pl n s.2 (atS pl ((p : Int) + 96) k)).2)) (r := fun s => some (none, am_st M 505 (wc A s.2))) (fun i s => ∃ k : Nat, i = k ∧ XC TP s.2 pl tr (fun x => ex x + tlP pl p k x) ∧ (∀ q : Nat, q < 160 → s.2 ((q : Int) + 96) ≠ 0 → c ((q : Int) + 96) ≠ 0) ∧ ∀ x, c x - 1 - i * (9 ^ n : Nat) ≤ s.2 x ∧ s.2 x ≤ c x) 8 0 (0, am_up c ((p : Int) + 96) (c ((p : Int) + 96) - 1)) ⟨0, rfl, h0, hm0, fun x => by have := hup x; (try dsimp only); omega⟩ (fun s hs => ?_) (fun i s hi1 hi2 hs => ?_)).1
    · (try dsimp only)
      rw [E_Md_letGoTrunk_23, if_neg (by omega)]
    · obtain ⟨k, rfl, hXs, hms, hbs⟩ := hs
      have hk8 : k < 8 := by omega
      have em : ((k : Int) + 1) * ((9 ^ n : Nat) : Int) = k * (9 ^ n : Nat) + (9 ^ n : Nat) := by rw [Int.add_mul]; omega
      have hi8 : (k : Int) * ((9 ^ n : Nat) : Int) ≤ 7 * ((9 ^ n : Nat) : Int) := Int.mul_le_mul_of_nonneg_right (by omega) (Int.natCast_nonneg _)
      have hat : atS pl ((p : Int) + 96) k = pl ((p : Int) * 8 + k) := by rw [at_in ⟨by omega, by omega⟩ ⟨by omega, by omega⟩, show (p : Int) + 96 - 96 = (p : Int) by omega]
      have hXs' : XC TP s.2 pl tr (fun x => (ex x + tlP pl p (k + 1) x) + dl (pl ((p : Int) * 8 + k)) x) := fun x hx => by
        have := hXs x hx
        (try dsimp only at this ⊢)
        rw [tlP_s pl hk8 x] at this
        omega
      have hch := (hK p hp hc0).2 k hk8
      have hex' : ∀ x, 0 ≤ ex x + tlP pl p (k + 1) x := fun x => by have := hex x; have := tlP_nn pl p (k + 1) x; omega
      have hLx := LG_X (T := TP) (fun t h1 h2 => ⟨h1, h2⟩) (fun t h => ⟨by have := h.1; omega, h.2⟩) (kd := kd) (pl := pl) (tr := tr) n s.2 (pl ((p : Int) * 8 + k)) (fun x => ex x + tlP pl p (k + 1) x) hex' (hK.mono hms) hXs' (by
        rcases hch with h | ⟨h1, h2, h3⟩ | ⟨h1, h2, h3, h4⟩
        · exact Or.inl h
        · exact Or.inr (Or.inl ⟨h2, h3, by omega⟩)
        · exact Or.inr (Or.inr ⟨h2, h3, by omega⟩))
      obtain ⟨g1, g2, g3⟩ := LGc_low pl n s.2 (pl ((p : Int) * 8 + k))
      have hA := ((hC p hp hc0).2 k hk8)
      (try dsimp only)
      rw [hat]
      refine ⟨?_, k + 1, by omega, hLx.1, fun q hq h => hms q hq (hLx.2 q hq h), fun x => ?_⟩
      · rw [E_Md_letGoTrunk_23, if_pos (by omega), S_Md_placeOf (d + 3) hp2 ⟨by omega, by omega⟩, bI_some, st_eq, wc_l _ _ hp2 ⟨by omega, by omega⟩, hA, hk]
        unfold dec
        by_cases hm1 : pl ((p : Int) * 8 + k) = -1
        · rw [if_pos hm1, if_pos rfl, v_eq, wr_id (by omega) (by omega), hm1, LGc_m1]
        · rw [if_neg hm1]
          rcases hch with h | ⟨h1, h2, h3⟩ | ⟨h1, h2, h3, h4⟩
          · exact absurd h hm1
          · omega
          · rw [if_neg (show ¬ (2 : Int) = 0 by omega), if_neg (by omega), S_Md_placeOf (d + 3) hp2 ⟨by omega, by omega⟩, bI_some, st_eq, wc_l _ _ hp2 ⟨by omega, by omega⟩, hA, hk]
            unfold dec
            rw [if_neg hm1, if_neg (show ¬ (2 : Int) = 0 by omega)]
            obtain ⟨q, hq⟩ : ∃ q : Nat, pl ((p : Int) * 8 + k) = (q : Int) + 96 := ⟨(pl ((p : Int) * 8 + k) - 96).toNat, by omega⟩
            obtain ⟨n', rfl⟩ : ∃ n', n = n' + 1 := ⟨n - 1, by omega⟩
            rw [hq, show (q : Int) + 96 - 96 = (q : Int) by omega]
            rw [hq] at hXs' h4
            rw [show (q : Int) + 96 - 96 = (q : Int) by omega, hk] at h4
            rw [S_Md_letGoTwig d (n := n') (by omega) (by omega) (p := q) (by omega) (ex := fun x => ex x + tlP pl p (k + 1) x) ⟨hex', hK.mono hms, hXs', hC.mono hms, fun x => by
              have := hbs x
              have := hB x
              omega⟩ (by omega) M, bV_some, v_eq, wr_id (by omega) (by omega)]
      · have := g1 x
        have := hbs x
        (try dsimp only)
        rw [em]
        omega
  · rw [if_pos (by omega), if_neg hz]
