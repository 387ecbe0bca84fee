/-! COUNTS: letting go as a function of the counts alone; the places in which a thing is -/
def LGc (pl : Int → Int) : Nat → (Int → Int) → Int → Int × (Int → Int)
  | 0, c, _ => (0, c)
  | n + 1, c, t =>
    if 0 ≤ t ∧ t < 256 then
      if c t - 1 = 0 then
        if t < 96 then (1, am_up c t (c t - 1))
        else itS (fun k s => (s.1 + (LGc pl n s.2 (atS pl t k)).1, (LGc pl n s.2 (atS pl t k)).2)) 8 0 (0, am_up c t (c t - 1))
      else (0, am_up c t (c t - 1))
    else (0, c)
theorem it_rel {σ τ : Type} {b : Int → σ → σ} {b' : Int → τ → τ} (R : Int → σ → τ → Prop) : ∀ (n : Nat) (a : Int) (s : σ) (t : τ), R a s t → (∀ (i : Int) (s : σ) (t : τ), a ≤ i → i < a + n → R i s t → R (i + 1) (b i s) (b' i t)) → R (a + n) (itS b n a s) (itS b' n a t)
  | 0, a, s, t, h0, _ => by simpa [itS] using h0
  | n + 1, a, s, t, h0, hstep => by
    have e : a + 1 + (n : Int) = a + ((n + 1 : Nat) : Int) := by omega
    have := it_rel R n (a + 1) (b a s) (b' a t) (hstep a s t (by omega) (by omega) h0) (fun i s t h3 h4 => hstep i s t (by omega) (by omega))
    rw [e] at this
    exact this
/-- counts go down, by no more than 9 ^ n; so many are freed -/
theorem LGc_low (pl : Int → Int) : ∀ (n : Nat) (c : Int → Int) (t : Int), (∀ x, c x - (9 ^ n : Nat) ≤ (LGc pl n c t).2 x ∧ (LGc pl n c t).2 x ≤ c x) ∧ 0 ≤ (LGc pl n c t).1 ∧ (LGc pl n c t).1 ≤ (9 ^ n : Nat)
  | 0, c, t => by
    refine ⟨fun x => ?_, ?_, ?_⟩
    · show c x - _ ≤ c x ∧ c x ≤ c x
      have : (0 : Int) ≤ ((9 ^ 0 : Nat) : Int) := Int.natCast_nonneg _
      omega
    · exact Int.le_refl _
    · exact Int.natCast_nonneg _
  | n + 1, c, t => by
    have h9 : (9 ^ (n + 1) : Nat) = 9 * 9 ^ n := by rw [Nat.pow_succ]; omega
    have h1 : 1 ≤ 9 ^ n := Nat.one_le_pow _ _ (by omega)
    have hup : ∀ x, c x - 1 ≤ am_up c t (c t - 1) x ∧ am_up c t (c t - 1) x ≤ c x := fun x => by
      by_cases hx : x = t
      · subst hx; rw [up_eq]; omega
      · rw [up_ne _ _ hx]; omega
    unfold LGc
    rw [h9]
    generalize hm : 9 ^ n = m at h1
    split
    · split
      · split
        · refine ⟨fun x => ?_, by omega, by omega⟩
          have := hup x
          (try dsimp only)
          omega
        · have := it_inv (σ := Int × (Int → Int)) (b := fun k s => (s.1 + (LGc pl n s.2 (atS pl t k)).1, (LGc pl n s.2 (atS pl t k)).2)) (fun i s => (∀ x, c x - 1 - i * m ≤ s.2 x ∧ s.2 x ≤ c x) ∧ 0 ≤ s.1 ∧ s.1 ≤ i * m) 8 0 (0, am_up c t (c t - 1)) ⟨fun x => by have := hup x; (try dsimp only); omega, by (try dsimp only); omega, by (try dsimp only); omega⟩ (fun i s hi1 hi2 hs => by
            obtain ⟨g1, g2, g3⟩ := LGc_low pl n s.2 (atS pl t i)
            rw [hm] at g1 g3
            (try dsimp only)
            have em : (i + 1) * (m : Int) = i * m + m := by rw [Int.add_mul]; omega
            rw [em]
            generalize i * (m : Int) = im at *
            refine ⟨fun x => ?_, by omega, by omega⟩
            have := g1 x
            have := hs.1 x
            omega)
          obtain ⟨q1, q2, q3⟩ := this
          refine ⟨fun x => ?_, q2, ?_⟩
          · have := q1 x
            omega
          · omega
      · refine ⟨fun x => ?_, by omega, by omega⟩
        have := hup x
        (try dsimp only)
        omega
    · refine ⟨fun x => ?_, by omega, by omega⟩
      (try dsimp only)
      omega
theorem LG_c (r : Nat) (hr : r ≠ 6) : ∀ (n : Nat), n ≤ 4 → ∀ (M : am_M) (t : Int), (∀ x, (9 ^ n : Nat) - 2000000 ≤ M r x ∧ M r x ≤ 2000000) → LG r n M t = ((LGc (M 6) n (M r) t).1, am_st M r (LGc (M 6) n (M r) t).2)
  | 0, _, M, t, _ => by
    unfold LG LGc
    rw [st_self]
  | n + 1, hn, M, t, hB => by
    have h9 : (9 ^ (n + 1) : Nat) = 9 * 9 ^ n := by rw [Nat.pow_succ]; omega
    have h1 : 1 ≤ 9 ^ n := Nat.one_le_pow _ _ (by omega)
    have h6 : 9 ^ n ≤ 729 := by
      rcases (show n = 0 ∨ n = 1 ∨ n = 2 ∨ n = 3 by omega) with rfl | rfl | rfl | rfl <;> decide
    rw [h9] at hB
    have hup : ∀ x, M r x - 1 ≤ am_up (M r) t (M r t - 1) x ∧ am_up (M r) t (M r t - 1) x ≤ M r x := fun x => by
      by_cases hx : x = t
      · subst hx; rw [up_eq]; omega
      · rw [up_ne _ _ hx]; omega
    have hBt := hB t
    unfold LG LGc
    rw [wr_id (z := M r t - 1) (by omega) (by omega)]
    split
    · split
      · split
        · rfl
        · have := it_rel (σ := Int × am_M) (τ := Int × (Int → Int)) (b := fun k s => (am_wr (s.1 + (LG r n s.2 (atS (s.2 6) t k)).1), (LG r n s.2 (atS (s.2 6) t k)).2)) (b' := fun k s => (s.1 + (LGc (M 6) n s.2 (atS (M 6) t k)).1, (LGc (M 6) n s.2 (atS (M 6) t k)).2)) (fun i s q => s.1 = q.1 ∧ s.2 = am_st M r q.2 ∧ (∀ x, M r x - 1 - i * (9 ^ n : Nat) ≤ q.2 x ∧ q.2 x ≤ M r x) ∧ 0 ≤ q.1 ∧ q.1 ≤ i * (9 ^ n : Nat)) 8 0 (0, am_set M r t (M r t - 1)) (0, am_up (M r) t (M r t - 1)) ⟨rfl, rfl, fun x => by have := hup x; (try dsimp only); omega, by (try dsimp only); omega, by (try dsimp only); omega⟩ (fun i s q hi1 hi2 hs => by
            obtain ⟨e1, e2, e3, e4, e5⟩ := hs
            obtain ⟨g1, g2, g3⟩ := LGc_low (M 6) n q.2 (atS (M 6) t i)
            have em : (i + 1) * ((9 ^ n : Nat) : Int) = i * (9 ^ n : Nat) + (9 ^ n : Nat) := by rw [Int.add_mul]; omega
            have hi8 : i * ((9 ^ n : Nat) : Int) ≤ 7 * ((9 ^ n : Nat) : Int) := Int.mul_le_mul_of_nonneg_right (by omega) (Int.natCast_nonneg _)
            have e6 : s.2 6 = M 6 := by rw [e2]; exact st_ne _ _ (fun h => hr h.symm)
            have e7 : s.2 r = q.2 := by rw [e2]; exact st_eq _ _ _
            have ih := LG_c r hr n (by omega) s.2 (atS (s.2 6) t i) (fun x => by
              rw [e7]
              have := e3 x
              have := hB x
              omega)
            (try dsimp only)
            rw [ih, e6, e7, e1, em]
            (try dsimp only)
            generalize i * ((9 ^ n : Nat) : Int) = im at *
            refine ⟨wr_id (by omega) (by omega), by rw [e2, st_st], fun x => ?_, by omega, by omega⟩
            have := g1 x
            have := e3 x
            omega)
          obtain ⟨q1, q2, -⟩ := this
          exact Prod.ext q1 q2
      · rfl
    · rw [st_self]
/-- in how many places of parts that aren't free a thing is; of how many volumes it is the trunk -/
def rfP (c pl : Int → Int) (t : Int) : Int := sm (fun p => if c (p + 96) = 0 then 0 else sm (fun k => if pl (p * 8 + k) = t then 1 else 0) 8) 160
def rfT (tr : Int → Int) (t : Int) : Int := sm (fun v => if tr v = t then 1 else 0) 12
/-- how often a part has a thing -/
def tmP (pl : Int → Int) (p t : Int) : Int := sm (fun k => if pl (p * 8 + k) = t then 1 else 0) 8
theorem sm_nn {f : Int → Int} : ∀ (n : Nat), (∀ i : Nat, i < n → 0 ≤ f i) → 0 ≤ sm f n
  | 0, _ => Int.le_refl _
  | n + 1, h => by
    have := sm_nn n (fun i hi => h i (by omega))
    have := h n (by omega)
    show 0 ≤ sm f n + f n
    omega
theorem sm_ge {f : Int → Int} : ∀ (n : Nat) (j : Nat), j < n → (∀ i : Nat, i < n → 0 ≤ f i) → f j ≤ sm f n
  | 0, j, hj, _ => by omega
  | n + 1, j, hj, h => by
    have h1 := sm_nn n (fun i hi => h i (by omega))
    have h2 := h n (by omega)
    show f j ≤ sm f n + f n
    by_cases hjn : j = n
    · rw [hjn]; omega
    · have := sm_ge n j (by omega) (fun i hi => h i (by omega))
      omega
/-- one of the summands is another -/
theorem sm_one {f f' : Int → Int} : ∀ (n : Nat) (j : Nat), j < n → (∀ i : Nat, i < n → i ≠ j → f' i = f i) → sm f' n = sm f n + (f' j - f j)
  | 0, j, hj, _ => by omega
  | n + 1, j, hj, h => by
    show sm f' n + f' n = sm f n + f n + (f' j - f j)
    by_cases hjn : j = n
    · subst hjn
      rw [sm_congr j (fun i hi => h i (by omega) (by omega))]
      omega
    · rw [sm_one n j (by omega) (fun i hi hij => h i (by omega) hij), h n (by omega) (fun q => hjn q.symm)]
      omega
theorem tmP_nn (pl : Int → Int) (p t : Int) : 0 ≤ tmP pl p t := sm_nn 8 (fun i _ => by (try dsimp only); split <;> omega)
theorem rfP_nn (c pl : Int → Int) (t : Int) : 0 ≤ rfP c pl t := sm_nn 160 (fun i _ => by
  (try dsimp only)
  split
  · omega
  · exact tmP_nn pl i t)
theorem rfT_nn (tr : Int → Int) (t : Int) : 0 ≤ rfT tr t := sm_nn 12 (fun i _ => by (try dsimp only); split <;> omega)
/-- a part's count changes, and stays 0 or not: nothing changes -/
theorem rfP_c {c c' pl : Int → Int} (h : ∀ p : Nat, p < 160 → (c' (p + 96) = 0 ↔ c (p + 96) = 0)) (t : Int) : rfP c' pl t = rfP c pl t := by
  unfold rfP
  refine sm_congr 160 (fun p hp => ?_)
  by_cases h0 : c ((p : Int) + 96) = 0
  · rw [if_pos h0, if_pos ((h p hp).mpr h0)]
  · rw [if_neg h0, if_neg (fun q => h0 ((h p hp).mp q))]
/-- a part becomes free: what it has goes -/
theorem rfP_free {c c' pl : Int → Int} {p : Nat} (hp : p < 160) (h0 : c ((p : Int) + 96) ≠ 0) (h1 : c' ((p : Int) + 96) = 0) (ho : ∀ q : Nat, q < 160 → q ≠ p → c' ((q : Int) + 96) = c ((q : Int) + 96)) (t : Int) : rfP c' pl t = rfP c pl t - tmP pl p t := by
  unfold rfP
  rw [sm_one (f := fun p => if c (p + 96) = 0 then 0 else sm (fun k => if pl (p * 8 + k) = t then 1 else 0) 8) 160 p hp (fun q hq hqp => by (try dsimp only); rw [ho q hq hqp])]
  (try dsimp only)
  rw [if_pos h1, if_neg h0]
  unfold tmP
  omega
/-- a free part is taken into use: what it has comes -/
theorem rfP_use {c c' pl : Int → Int} {p : Nat} (hp : p < 160) (h0 : c ((p : Int) + 96) = 0) (h1 : c' ((p : Int) + 96) ≠ 0) (ho : ∀ q : Nat, q < 160 → q ≠ p → (c' ((q : Int) + 96) = 0 ↔ c ((q : Int) + 96) = 0)) (t : Int) : rfP c' pl t = rfP c pl t + tmP pl p t := by
  unfold rfP
  rw [sm_one (f := fun p => if c (p + 96) = 0 then 0 else sm (fun k => if pl (p * 8 + k) = t then 1 else 0) 8) 160 p hp (fun q hq hqp => by
    (try dsimp only)
    by_cases h2 : c ((q : Int) + 96) = 0
    · rw [if_pos h2, if_pos ((ho q hq hqp).mpr h2)]
    · rw [if_neg h2, if_neg (fun z => h2 ((ho q hq hqp).mp z))])]
  (try dsimp only)
  rw [if_neg h1, if_pos h0]
  unfold tmP
  omega
/-- a place of a part in use is another -/
theorem tmP_up {pl : Int → Int} {p k : Nat} (hk : k < 8) (x t : Int) : tmP (am_up pl (p * 8 + k) x) p t = tmP pl p t + ((if x = t then 1 else 0) - (if pl (p * 8 + k) = t then 1 else 0)) := by
  unfold tmP
  rw [sm_one (f := fun j => if pl ((p : Int) * 8 + j) = t then 1 else 0) 8 k hk (fun i hi hik => by (try dsimp only); rw [up_ne _ _ (by omega)])]
  (try dsimp only)
  rw [up_eq]
theorem tmP_off {pl : Int → Int} {p q k : Nat} (hk : k < 8) (hq : q ≠ p) (x t : Int) : tmP (am_up pl (p * 8 + k) x) q t = tmP pl q t := by
  unfold tmP
  exact sm_congr 8 (fun i hi => by (try dsimp only); rw [up_ne _ _ (by omega)])
theorem rfP_up {c pl : Int → Int} {p k : Nat} (hp : p < 160) (hk : k < 8) (h0 : c ((p : Int) + 96) ≠ 0) (x t : Int) : rfP c (am_up pl (p * 8 + k) x) t = rfP c pl t + ((if x = t then 1 else 0) - (if pl (p * 8 + k) = t then 1 else 0)) := by
  have h1 := tmP_up (pl := pl) (p := p) hk x t
  have e : ∀ (pl : Int → Int), rfP c pl t = sm (fun p => if c (p + 96) = 0 then 0 else tmP pl p t) 160 := fun _ => rfl
  rw [e, e, sm_one (f := fun p => if c (p + 96) = 0 then 0 else tmP pl p t) 160 p hp (fun q hq hqp => by (try dsimp only); rw [tmP_off hk hqp])]
  (try dsimp only)
  rw [if_neg h0, if_neg h0, h1]
  omega
theorem rfP_upF {c pl : Int → Int} {p k : Nat} (hp : p < 160) (hk : k < 8) (h0 : c ((p : Int) + 96) = 0) (x t : Int) : rfP c (am_up pl (p * 8 + k) x) t = rfP c pl t := by
  have e : ∀ (pl : Int → Int), rfP c pl t = sm (fun p => if c (p + 96) = 0 then 0 else tmP pl p t) 160 := fun _ => rfl
  rw [e, e]
  refine sm_congr 160 (fun q hq => ?_)
  by_cases hqp : q = p
  · subst hqp
    rw [if_pos h0, if_pos h0]
  · rw [tmP_off hk hqp]
