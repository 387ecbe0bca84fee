/-! THE CLASS, State: the first that is mapped, resized, grafted, rows taken in, volumes added and removed -/
theorem fd_skip {p : Int → Prop} {dp : ∀ i, Decidable (p i)} : ∀ (m k : Nat) (i : Int), (∀ j : Int, i ≤ j → j < i + m → ¬ p j) → fd p dp i (m + k) = fd p dp (i + m) k
  | 0, k, i, _ => by simp
  | m + 1, k, i, h => by
    rw [show m + 1 + k = (m + k) + 1 by omega]
    unfold fd
    rw [if_neg (h i (by omega) (by omega)), fd_skip m k (i + 1) (fun j h1 h2 => h j (by omega) (by omega))]
    rw [show i + 1 + (m : Int) = i + ((m + 1 : Nat) : Int) by omega]
    cases k <;> rfl
theorem fd_none {p : Int → Prop} {dp : ∀ i, Decidable (p i)} : ∀ (k : Nat) (i : Int), (∀ j : Int, i ≤ j → j < i + k → ¬ p j) → fd p dp i k = -1
  | 0, _, _ => rfl
  | k + 1, i, h => by
    unfold fd
    rw [if_neg (h i (by omega) (by omega)), fd_none k (i + 1) (fun j h1 h2 => h j (by omega) (by omega))]
/-- the first address from one on, below an end, that is mapped -/
def fmS (M : am_M) (v a e : Int) : Int := fd (fun a => ¬ blkS M v a = -1) (fun _ => inferInstance) a (e - a).toNat
theorem blk_th {M : am_M} {v : Int} (h : thS M v) (a : Int) : blkS M v a = bkS M v a := by
  unfold blkS thgS
  rw [if_pos h, if_neg (by omega), if_neg (by omega), if_neg (by omega)]
theorem blk_no {M : am_M} {v : Int} (h : ¬ thS M v) (a : Int) : blkS M v a = -1 := by
  unfold blkS thgS
  rw [if_neg h]
theorem at_m1 (pl : Int → Int) (k : Int) : atS pl (-1) k = -1 := by
  unfold atS
  rw [if_neg (by omega)]
theorem thg2_blk (M : am_M) (v a : Int) : atS (M 6) (atS (M 6) (thgS M v a 2) (plc a 1)) (plc a 0) = blkS M v a := by
  by_cases h : thS M v
  · rw [blk_th h]
    unfold thgS
    rw [if_pos h, if_neg (by omega), if_pos rfl]
    rfl
  · rw [blk_no h]
    unfold thgS
    rw [if_neg h, at_m1, at_m1]
theorem thg2_same {M : am_M} {v a b : Int} (ha : 0 ≤ a) (ha2 : a < 2147483648) (hb : 0 ≤ b) (hb2 : b < 2147483648) (h : a / 64 = b / 64) : thgS M v a 2 = thgS M v b 2 := by
  unfold thgS
  by_cases hv : thS M v
  · simp only [hv, and_self, if_true, Int.lt_irrefl, if_false]
    unfold twS
    rw [plc_2 ha ha2, plc_2 hb hb2, h]
  · rw [if_neg hv, if_neg hv]
theorem S_St_firstMapped (d : Nat) (v : Int) (M : am_M) {a e : Int} (h0 : 0 ≤ a) (he : e ≤ 512) (ha : a ≤ 1000) : am_m am_P (d + 3) j_St_firstMapped [am_r 4 1, am_i v, am_i a, am_i e] M = some (some (am_i (fmS M v a e)), M) := by
  show am_at am_P (d + 2) j_St_firstMapped 0 [am_r 4 1, am_i v, am_i a, am_i e, am_u, am_u, am_u] [] M = _
  rw [E_St_firstMapped_0, v_eq]
  have key : ∀ (n : Nat) (a : Int), 0 ≤ a → a ≤ 1000 → (e - a).toNat ≤ n → am_at am_P (d + 2) j_St_firstMapped 3 [am_r 4 1, am_i v, am_u, am_i e, am_i a, am_u, am_u] [] M = some (some (am_i (fmS M v a e)), M) := by
    intro n
    induction n with
    | zero =>
      intro a h0 ha hn
      rw [E_St_firstMapped_3, if_neg (by omega)]
      unfold fmS
      rw [show (e - a).toNat = 0 by omega]
      rfl
    | succ n ih =>
      intro a h0 ha hn
      by_cases hae : a < e
      · rw [E_St_firstMapped_3, if_pos hae, S_St_thingAt, bI_some, v_eq, S_Tv_placeOf, bI_some]
        simp only [Nat.reduceAdd]
        rw [S_Po_at, bI_some, v_eq, S_Tv_placeOf, bI_some, S_Po_at, bI_some, thg2_blk]
        have hstep : ∀ m : Nat, 0 < m → (∀ j : Int, a ≤ j → j < a + m → blkS M v j = -1) → fmS M v a e = fmS M v (a + m) e := by
          intro m hm hall
          unfold fmS
          by_cases hme : a + m ≤ e
          · rw [show (e - a).toNat = m + (e - (a + m)).toNat by omega]
            exact fd_skip m _ a (fun j h1 h2 q => q (hall j h1 h2))
          · rw [show (e - (a + (m : Int))).toNat = 0 by omega]
            rw [fd_none _ _ (fun j h1 h2 q => q (hall j h1 (by omega)))]
            rfl
        by_cases hb : blkS M v a = -1
        · rw [if_pos hb]
          by_cases ht : thgS M v a 2 = -1
          · obtain ⟨w, hw⟩ : ∃ w : Nat, a = w := ⟨a.toNat, by omega⟩
            have eo := am_or_mask (a := w) 6 (by omega) (by omega)
            rw [← hw, show (((2 : Nat) ^ 6 - 1 : Nat) : Int) = 63 from rfl] at eo
            have e2 : (w / 2 ^ 6 * 2 ^ 6 + (2 ^ 6 - 1) : Nat) + 1 = w + (64 - w % 64) := by omega
            rw [if_pos ht, v_eq, eo, wr_id (by omega) (by omega)]
            have hs := hstep (64 - w % 64) (by omega) (fun j h1 h2 => by
              rw [← thg2_blk, ← thg2_same (M := M) (v := v) (a := a) (b := j) h0 (by omega) (by omega) (by omega) (by omega), ht, at_m1, at_m1])
            rw [hs]
            have e3 : (((w / 2 ^ 6 * 2 ^ 6 + (2 ^ 6 - 1) : Nat) : Int) + 1) = a + ((64 - w % 64 : Nat) : Int) := by omega
            rw [e3]
            exact ih _ (by omega) (by omega) (by omega)
          · rw [if_neg ht]
            by_cases hl : atS (M 6) (thgS M v a 2) (plc a 1) = -1
            · obtain ⟨w, hw⟩ : ∃ w : Nat, a = w := ⟨a.toNat, by omega⟩
              have eo := am_or_mask (a := w) 3 (by omega) (by omega)
              rw [← hw, show (((2 : Nat) ^ 3 - 1 : Nat) : Int) = 7 from rfl] at eo
              rw [if_pos hl, v_eq, eo, wr_id (by omega) (by omega)]
              have hs := hstep (8 - w % 8) (by omega) (fun j h1 h2 => by
                rw [← thg2_blk, ← thg2_same (M := M) (v := v) (a := a) (b := j) h0 (by omega) (by omega) (by omega) (by omega)]
                rw [plc_1 (a := a) h0 (by omega)] at hl
                rw [plc_1 (a := j) (by omega) (by omega), show j / 8 = a / 8 by omega, hl, at_m1])
              rw [hs]
              have e3 : (((w / 2 ^ 3 * 2 ^ 3 + (2 ^ 3 - 1) : Nat) : Int) + 1) = a + ((8 - w % 8 : Nat) : Int) := by omega
              rw [e3]
              exact ih _ (by omega) (by omega) (by omega)
            · rw [if_neg hl, v_eq, wr_id (by omega) (by omega)]
              have hs := hstep 1 (by omega) (fun j h1 h2 => by rw [show j = a by omega]; exact hb)
              rw [hs]
              exact ih _ (by omega) (by omega) (by omega)
        · rw [if_neg hb]
          unfold fmS
          obtain ⟨k, hk⟩ : ∃ k, (e - a).toNat = k + 1 := ⟨(e - a).toNat - 1, by omega⟩
          rw [hk]
          unfold fd
          rw [if_pos hb]
      · rw [E_St_firstMapped_3, if_neg hae]
        unfold fmS
        rw [show (e - a).toNat = 0 by omega]
        rfl
  exact key (e - a).toNat a h0 ha (Nat.le_refl _)
/-- the first address from one on that is mapped with a value -/
def fwS (M : am_M) (v a x : Int) : Int := if thS M v then fd (fun a => ¬ blkS M v a = -1 ∧ vatS M v a = x) (fun _ => inferInstance) a (M 7 v - a).toNat else -1
theorem S_St_firstWith (d : Nat) (v x : Int) (M : am_M) (hsz : thS M v → M 7 v ≤ 512) {a : Int} (h0 : 0 ≤ a) (ha : a ≤ 512) : am_m am_P (d + 5) j_St_firstWith [am_r 4 1, am_i v, am_i a, am_i x] M = some (some (am_i (fwS M v a x)), M) := by
  show am_at am_P (d + 4) j_St_firstWith 0 [am_r 4 1, am_i v, am_i a, am_i x, am_u, am_u] [] M = _
  rw [E_St_firstWith_0, S_St_isThere, bI_some]
  unfold fwS
  by_cases hv : thS M v
  · have hs := hsz hv
    rw [if_neg (by rw [b2_t hv]; omega), if_t (by omega), if_pos hv]
    simp only [Nat.reduceAdd]
    rw [S_St_firstMapped (d + 1) v M h0 hs (by omega), bI_some, v_eq, v_eq]
    have key : ∀ (n : Nat) (a i : Int), 0 ≤ i → i ≤ a → a ≤ 512 → (M 7 v - a).toNat ≤ n → am_at am_P (d + 4) j_St_firstWith 27 [am_r 4 1, am_i v, am_u, am_i x, am_i (fmS M v a (M 7 v)), am_i i] [] M = some (some (am_i (fd (fun a => ¬ blkS M v a = -1 ∧ vatS M v a = x) (fun _ => inferInstance) a (M 7 v - a).toNat)), M) := by
      intro n
      induction n with
      | zero =>
        intro a i h0 hia ha hn
        have e : (M 7 v - a).toNat = 0 := by omega
        unfold fmS
        rw [e]
        show am_at am_P (d + 4) j_St_firstWith 27 [am_r 4 1, am_i v, am_u, am_i x, am_i (-1), am_i i] [] M = some (some (am_i (-1)), M)
        rw [E_St_firstWith_27]
        by_cases hi : i < 512
        · rw [if_pos hi, if_pos rfl]
        · rw [if_neg hi]
      | succ n ih =>
        intro a i h0 hia ha hn
        rcases fd_spec (p := fun a => ¬ blkS M v a = -1) (dp := fun _ => inferInstance) (M 7 v - a).toNat a with ⟨h1, h2⟩ | ⟨h1, h2, h3, h4⟩
        · have ef : fmS M v a (M 7 v) = -1 := h1
          rw [ef, E_St_firstWith_27, fd_none _ _ (fun j q1 q2 q => h2 j q1 q2 q.1)]
          by_cases hi : i < 512
          · rw [if_pos hi, if_pos rfl]
          · rw [if_neg hi]
        · have ef : fd (fun a => ¬ blkS M v a = -1) (fun _ => inferInstance) a (M 7 v - a).toNat = fmS M v a (M 7 v) := rfl
          rw [ef] at h1 h2 h3 h4
          generalize hb : fmS M v a (M 7 v) = b at h1 h2 h3 h4 ⊢
          rw [E_St_firstWith_27, if_pos (by omega), if_neg (by omega), S_St_valueAt, bI_some]
          have hsk : ∀ k : Nat, fd (fun a => ¬ blkS M v a = -1 ∧ vatS M v a = x) (fun _ => inferInstance) a ((b - a).toNat + k) = fd (fun a => ¬ blkS M v a = -1 ∧ vatS M v a = x) (fun _ => inferInstance) b k := by
            intro k
            rw [fd_skip (b - a).toNat k a (fun j q1 q2 q => h4 j q1 (by omega) q.1)]
            congr 1
            omega
          have e1 : (M 7 v - a).toNat = (b - a).toNat + ((M 7 v - (b + 1)).toNat + 1) := by omega
          rw [e1, hsk]
          unfold fd
          by_cases hx : vatS M v b = x
          · rw [if_pos hx, if_pos ⟨h3, hx⟩]
          · rw [if_neg hx, if_neg (fun q => hx q.2), if_t (by omega)]
            simp only [Nat.reduceAdd]
            rw [wr_id (z := b + 1) (by omega) (by omega), S_St_firstMapped (d + 1) v M (by omega) hs (by omega), bI_some, v_eq, v_eq, wr_id (z := i + 1) (by omega) (by omega)]
            exact ih (b + 1) (i + 1) (by omega) (by omega) (by omega) (by omega)
    exact key (M 7 v - a).toNat a 0 (by omega) h0 ha (Nat.le_refl _)
  · rw [if_pos (b2_f hv), if_neg hv]
/-- n addresses are left to be wiped (n - 1 the next) -/
def rsS (v sz : Int) : Nat → am_M → Int × am_M
  | 0, M => (1, am_set M 7 v sz)
  | n + 1, M => if (n : Int) < sz then (1, am_set M 7 v sz) else if (clS M v n).1 = 0 then (0, (clS M v n).2) else rsS v sz n (clS M v n).2
theorem rs_loop (d : Nat) (v sz : Int) (hv : 0 ≤ v ∧ v < 12) (hs : 0 ≤ sz) : ∀ (n : Nat), n ≤ 512 → ∀ (M : am_M), am_at am_P (d + 9) j_St_resize 14 [am_r 4 1, am_i v, am_i sz, am_i ((n : Int) - 1)] [] M = some (some (am_i (rsS v sz n M).1), (rsS v sz n M).2)
  | 0, _, M => by
    rw [E_St_resize_14, if_pos (by omega), if_t hv, w_eq]; rfl
  | n + 1, hn, M => by
    have e1 : ((n + 1 : Nat) : Int) - 1 = n := by omega
    unfold rsS
    rw [e1, E_St_resize_14]
    by_cases h : (n : Int) < sz
    · rw [if_pos h, if_t hv, w_eq, if_pos h]; rfl
    · rw [if_neg h, if_neg h, S_St_clear, bI_some]
      by_cases hc : (clS M v n).1 = 0
      · rw [if_pos hc, if_pos hc]; rfl
      · rw [if_neg hc, if_neg hc, v_eq, show am_wr ((n : Int) + -1) = (n : Int) - 1 by rw [wr_id (by omega) (by omega)]; omega]
        exact rs_loop d v sz hv hs n (by omega) _
theorem S_St_resize (d : Nat) (v sz : Int) (M : am_M) (hv : thS M v) (hs : 0 ≤ sz) : am_m am_P (d + 10) j_St_resize [am_r 4 1, am_i v, am_i sz] M = some (some (am_i (rsS v sz 512 M).1), (rsS v sz 512 M).2) := by
  show am_at am_P (d + 9) j_St_resize 0 [am_r 4 1, am_i v, am_i sz, am_u] [] M = _
  rw [E_St_resize_0, S_St_isThere, bI_some, if_neg (by rw [b2_t hv]; omega), v_eq]
  exact rs_loop d v sz ⟨hv.1, hv.2.1⟩ hs 512 (by omega) M
