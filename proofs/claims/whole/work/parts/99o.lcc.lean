/-! LAID CLOSE: the class -/
/-- what stands in the row of numbers -/
def gN (c : Int → Int) (x : Int) : Int := if 0 ≤ x ∧ x < 256 then (if c x = 0 then -1 else fT c x) else -1
theorem gN_0 {c : Int → Int} {x : Int} (h : c x = 0) : gN c x = -1 := by
  unfold gN
  by_cases hx : 0 ≤ x ∧ x < 256
  · rw [if_pos hx, if_pos h]
  · rw [if_neg hx]
theorem up_up (f : Int → Int) (k x y : Int) : am_up (am_up f k x) k y = am_up f k y := by
  funext z
  unfold am_up
  by_cases h : z = k
  · rw [if_pos h, if_pos h]
  · rw [if_neg h, if_neg h, if_neg h]
theorem gN_b {c : Int → Int} {b : Nat} (hb : b < 96) (h : ¬ c (b : Int) = 0) : gN c (b : Int) = (rnk c b : Int) := by
  unfold gN
  rw [if_pos ⟨by omega, by omega⟩, if_neg h, fT_b c hb]
theorem gN_p {c : Int → Int} {p : Nat} (hp : p < 160) (h : ¬ c ((p : Int) + 96) = 0) : gN c ((p : Int) + 96) = 96 + (rnk (fun i => c (i + 96)) p : Int) := by
  unfold gN
  rw [if_pos ⟨by omega, by omega⟩, if_neg h, fT_p c hp]
theorem gN_m1 (c : Int → Int) : gN c (-1) = -1 := if_neg (by omega)
theorem nc_sp (M : am_M) : (ncS 503 M 256).1.1 = mvd (M 4) 96 ∧ ∃ g : Int → Int, (ncS 503 M 256).2 = am_st M 503 g ∧ ∀ u : Nat, u < 256 → g (u : Int) = gN (M 4) u := by
  have hA := it_inv (b := fun t (s : (Int × Int × Int) × am_M) => if s.2 4 t = 0 then (s.1, am_set s.2 503 t (-1)) else if t < 96 then ((if s.1.2.1 = t then s.1.1 else s.1.1 + 1, s.1.2.1 + 1, s.1.2.2), am_set (am_set s.2 503 t (-1)) 503 t s.1.2.1) else ((s.1.1, s.1.2.1, s.1.2.2 + 1), am_set (am_set s.2 503 t (-1)) 503 t s.1.2.2)) (fun i s => ∃ (n : Nat) (g : Int → Int), i = (n : Int) ∧ s.2 = am_st M 503 g ∧ (∀ u : Nat, u < n → g (u : Int) = gN (M 4) u) ∧ s.1 = (mvd (M 4) n, (rnk (M 4) n : Int), 96)) 96 0 ((0, 0, 96), M) ⟨0, M 503, rfl, (st_self M 503).symm, fun u h => by omega, rfl⟩ (fun i s i1 i2 hs => by
    obtain ⟨n, g, rfl, h2, h3, h4⟩ := hs
    have e4 : s.2 4 (n : Int) = M 4 n := by rw [h2, st_ne _ _ (by decide)]
    have hup : ∀ x : Int, am_set (am_st M 503 g) 503 (n : Int) x = am_st M 503 (am_up g n x) := fun x => by unfold am_set; rw [st_eq, st_st]
    have hg : ∀ x : Int, x = gN (M 4) n → ∀ u : Nat, u < n + 1 → am_up g n x (u : Int) = gN (M 4) u := fun x hx u hu => by
      by_cases e : u = n
      · rw [e, up_eq]; exact hx
      · rw [up_ne _ _ (by omega)]; exact h3 u (by omega)
    rw [e4]
    by_cases h0 : M 4 (n : Int) = 0
    · rw [if_pos h0]
      refine ⟨n + 1, am_up g n (-1), by omega, ?_, hg _ (gN_0 h0).symm, ?_⟩
      · (try dsimp only); rw [h2, hup]
      · (try dsimp only); rw [h4, rnk_s0 h0, mvd_s0 h0]
    · rw [if_neg h0, if_pos (by omega)]
      refine ⟨n + 1, am_up g n (rnk (M 4) n : Int), by omega, ?_, hg _ (gN_b (by omega) h0).symm, ?_⟩
      · (try dsimp only)
        rw [h2, hup, h4]
        unfold am_set
        rw [st_eq, st_st, up_up]
      · (try dsimp only)
        rw [h4, rnk_s1 h0]
        (try dsimp only)
        by_cases e : (rnk (M 4) n : Int) = n
        · rw [if_pos e, mvd_s1 h0 e]; rfl
        · rw [if_neg e, mvd_s2 h0 e]; rfl)
  obtain ⟨n, g, e1, e2, e3, e4⟩ := hA
  have hn : n = 96 := by omega
  subst hn
  have hB := it_inv (b := fun t (s : (Int × Int × Int) × am_M) => if s.2 4 t = 0 then (s.1, am_set s.2 503 t (-1)) else if t < 96 then ((if s.1.2.1 = t then s.1.1 else s.1.1 + 1, s.1.2.1 + 1, s.1.2.2), am_set (am_set s.2 503 t (-1)) 503 t s.1.2.1) else ((s.1.1, s.1.2.1, s.1.2.2 + 1), am_set (am_set s.2 503 t (-1)) 503 t s.1.2.2)) (fun i s => ∃ (n : Nat) (g : Int → Int), i = (n : Int) + 96 ∧ s.2 = am_st M 503 g ∧ (∀ u : Nat, u < n + 96 → g (u : Int) = gN (M 4) u) ∧ s.1 = (mvd (M 4) 96, (rnk (M 4) 96 : Int), 96 + (rnk (fun i => M 4 (i + 96)) n : Int))) 160 96 (itS (fun t (s : (Int × Int × Int) × am_M) => if s.2 4 t = 0 then (s.1, am_set s.2 503 t (-1)) else if t < 96 then ((if s.1.2.1 = t then s.1.1 else s.1.1 + 1, s.1.2.1 + 1, s.1.2.2), am_set (am_set s.2 503 t (-1)) 503 t s.1.2.1) else ((s.1.1, s.1.2.1, s.1.2.2 + 1), am_set (am_set s.2 503 t (-1)) 503 t s.1.2.2)) 96 0 ((0, 0, 96), M)) ⟨0, g, rfl, e2, e3, e4⟩ (fun i s i1 i2 hs => by
    obtain ⟨n, g, rfl, h2, h3, h4⟩ := hs
    have e4 : s.2 4 ((n : Int) + 96) = M 4 ((n : Int) + 96) := by rw [h2, st_ne _ _ (by decide)]
    have hup : ∀ x : Int, am_set (am_st M 503 g) 503 ((n : Int) + 96) x = am_st M 503 (am_up g ((n : Int) + 96) x) := fun x => by unfold am_set; rw [st_eq, st_st]
    have hg : ∀ x : Int, x = gN (M 4) ((n : Int) + 96) → ∀ u : Nat, u < n + 1 + 96 → am_up g ((n : Int) + 96) x (u : Int) = gN (M 4) u := fun x hx u hu => by
      by_cases e : (u : Int) = (n : Int) + 96
      · rw [e, up_eq]; exact hx
      · rw [up_ne _ _ e]; exact h3 u (by omega)
    rw [e4]
    by_cases h0 : M 4 ((n : Int) + 96) = 0
    · rw [if_pos h0]
      refine ⟨n + 1, am_up g ((n : Int) + 96) (-1), by omega, ?_, hg _ (gN_0 h0).symm, ?_⟩
      · (try dsimp only); rw [h2, hup]
      · (try dsimp only); rw [h4, rnk_s0 (c := fun i => M 4 (i + 96)) h0]
    · rw [if_neg h0, if_neg (by omega)]
      refine ⟨n + 1, am_up g ((n : Int) + 96) (96 + (rnk (fun i => M 4 (i + 96)) n : Int)), by omega, ?_, hg _ (gN_p (by omega) h0).symm, ?_⟩
      · (try dsimp only)
        rw [h2, hup, h4]
        unfold am_set
        rw [st_eq, st_st, up_up]
      · (try dsimp only)
        rw [h4, rnk_s1 (c := fun i => M 4 (i + 96)) h0]
        (try dsimp only)
        rw [show (96 : Int) + (rnk (fun i => M 4 (i + 96)) n : Int) + 1 = 96 + ((rnk (fun i => M 4 (i + 96)) n + 1 : Nat) : Int) by omega])
  obtain ⟨n, g', f1, f2, f3, f4⟩ := hB
  have hn : n = 160 := by omega
  subst hn
  have hsp : ncS 503 M 256 = itS (fun t (s : (Int × Int × Int) × am_M) => if s.2 4 t = 0 then (s.1, am_set s.2 503 t (-1)) else if t < 96 then ((if s.1.2.1 = t then s.1.1 else s.1.1 + 1, s.1.2.1 + 1, s.1.2.2), am_set (am_set s.2 503 t (-1)) 503 t s.1.2.1) else ((s.1.1, s.1.2.1, s.1.2.2 + 1), am_set (am_set s.2 503 t (-1)) 503 t s.1.2.2)) 160 96 (itS (fun t (s : (Int × Int × Int) × am_M) => if s.2 4 t = 0 then (s.1, am_set s.2 503 t (-1)) else if t < 96 then ((if s.1.2.1 = t then s.1.1 else s.1.1 + 1, s.1.2.1 + 1, s.1.2.2), am_set (am_set s.2 503 t (-1)) 503 t s.1.2.1) else ((s.1.1, s.1.2.1, s.1.2.2 + 1), am_set (am_set s.2 503 t (-1)) 503 t s.1.2.2)) 96 0 ((0, 0, 96), M)) := by
    unfold ncS
    rw [show (256 : Nat) = 96 + 160 from rfl, it_add]
    rfl
  rw [hsp]
  refine ⟨by rw [f4], g', f2, fun u hu => f3 u (by omega)⟩
/-- a part comes to its number -/
theorem mp_sp {N : am_M} {p q : Nat} (hp : p < 160) (hqp : q ≤ p) : (∀ k : Nat, k ≠ 5 → k ≠ 6 → mpS 503 N ((p : Int) + 96) ((q : Int) + 96) k = N k) ∧ mpS 503 N ((p : Int) + 96) ((q : Int) + 96) 5 = am_up (N 5) q (N 5 p) ∧ (∀ j : Int, 0 ≤ j → j < 8 → mpS 503 N ((p : Int) + 96) ((q : Int) + 96) 6 ((q : Int) * 8 + j) = nbS 503 N (N 6 ((p : Int) * 8 + j))) ∧ ∀ y : Int, (y < (q : Int) * 8 ∨ (q : Int) * 8 + 8 ≤ y) → mpS 503 N ((p : Int) + 96) ((q : Int) + 96) 6 y = N 6 y := by
  unfold mpS
  rw [show (q : Int) + 96 - 96 = q by omega, show (p : Int) + 96 - 96 = p by omega]
  have key := it_inv (b := fun k (K : am_M) => am_set K 6 ((q : Int) * 8 + k) (nbS 503 K (atS (K 6) ((p : Int) + 96) k))) (fun k K => (∀ r : Nat, r ≠ 6 → K r = am_set N 5 q (N 5 p) r) ∧ (∀ j : Int, 0 ≤ j → j < k → K 6 ((q : Int) * 8 + j) = nbS 503 N (N 6 ((p : Int) * 8 + j))) ∧ ∀ y : Int, (y < (q : Int) * 8 ∨ (q : Int) * 8 + k ≤ y) → K 6 y = N 6 y) 8 0 (am_set N 5 q (N 5 p)) ⟨fun _ _ => rfl, fun j h1 h2 => by omega, fun y _ => by rw [set_ne _ _ _ (by decide)]⟩ (fun k K k1 k2 hK => by
    obtain ⟨h1, h2, h3⟩ := hK
    (try dsimp only)
    have hat : atS (K 6) ((p : Int) + 96) k = N 6 ((p : Int) * 8 + k) := by
      rw [at_in ⟨by omega, by omega⟩ ⟨k1, by omega⟩, show (p : Int) + 96 - 96 = p by omega]
      exact h3 _ (Or.inr (by omega))
    have hnb : nbS 503 K (N 6 ((p : Int) * 8 + k)) = nbS 503 N (N 6 ((p : Int) * 8 + k)) := by
      unfold nbS
      rw [h1 503 (by decide), set_ne _ _ _ (by decide)]
    rw [hat, hnb]
    refine ⟨fun r hr => by rw [set_ne _ _ _ hr]; exact h1 r hr, fun j j1 j2 => ?_, fun y hy => ?_⟩
    · rw [set_eq]
      by_cases e : j = k
      · rw [e, up_eq]
      · rw [up_ne _ _ (by omega)]; exact h2 j j1 (by omega)
    · rw [set_eq, up_ne _ _ (by omega)]; exact h3 y (by omega))
  obtain ⟨h1, h2, h3⟩ := key
  refine ⟨fun k k5 k6 => by rw [h1 k k6, set_ne _ _ _ k5], by rw [h1 5 (by decide), set_eq], fun j j1 j2 => h2 j j1 (by omega), fun y hy => h3 y (by omega)⟩
/-- what comes of it -/
def LCC (M M2 : am_M) : Prop :=
  (∀ k : Nat, k ≠ 3 → k ≠ 4 → k ≠ 5 → k ≠ 6 → k ≠ 10 → k ≠ 503 → M2 k = M k) ∧
  (∀ u : Nat, u < 96 → ¬ M 4 (u : Int) = 0 → M2 3 (rnk (M 4) u : Int) = M 3 u ∧ M2 4 (rnk (M 4) u : Int) = M 4 u) ∧
  (∀ x : Nat, rnk (M 4) 96 ≤ x → x < 96 → M2 4 (x : Int) = 0) ∧
  (∀ u : Nat, u < 160 → ¬ M 4 ((u : Int) + 96) = 0 → M2 5 (rnk (fun i => M 4 (i + 96)) u : Int) = M 5 u ∧ M2 4 (96 + (rnk (fun i => M 4 (i + 96)) u : Int)) = M 4 ((u : Int) + 96) ∧ ∀ j : Nat, j < 8 → M2 6 ((rnk (fun i => M 4 (i + 96)) u : Int) * 8 + j) = gN (M 4) (M 6 ((u : Int) * 8 + j))) ∧
  (∀ x : Nat, rnk (fun i => M 4 (i + 96)) 160 ≤ x → x < 160 → M2 4 (96 + (x : Int)) = 0) ∧
  (∀ y : Int, (y < 0 ∨ 256 ≤ y) → M2 4 y = M 4 y) ∧
  ∀ v : Nat, v < 12 → M2 10 v = if 0 ≤ M 10 v ∧ M 10 v < 256 then gN (M 4) (M 10 v) else M 10 v
theorem lc_sp (M : am_M) : (lcS 503 M).1 = mvd (M 4) 96 ∧ LCC M (lcS 503 M).2 := by
  obtain ⟨h1, g, h2, h3⟩ := nc_sp M
  unfold lcS
  generalize ncS 503 M 256 = z at h1 h2 ⊢
  refine ⟨h1, ?_⟩
  (try dsimp only)
  rw [h2]
  have hgx : ∀ x : Int, 0 ≤ x → x < 256 → g x = gN (M 4) x := fun x a b => by
    have := h3 x.toNat (by omega)
    rw [show ((x.toNat : Nat) : Int) = x by omega] at this
    exact this
  have hnb : ∀ (K : am_M) (x : Int), K 503 = g → nbS 503 K x = gN (M 4) x := fun K x hK => by
    unfold nbS
    rw [hK]
    by_cases hx : 0 ≤ x ∧ x < 256
    · rw [if_pos hx, hgx x hx.1 hx.2]
    · rw [if_neg hx]; unfold gN; rw [if_neg hx]
  have hA := it_inv (b := rn1 503) (fun i K => ∃ n : Nat, i = (n : Int) ∧ (∀ k : Nat, k ≠ 3 → k ≠ 4 → K k = am_st M 503 g k) ∧ CM (M 4) (fun x => x) 0 1 96 (M 3) (K 3) n ∧ CZ (M 4) 0 96 (M 4) (K 4) n) 96 0 (am_st M 503 g) ⟨0, rfl, fun _ _ _ => rfl, by rw [st_ne _ _ (by decide)]; exact CM.init _ _ _ _ _ _, by rw [st_ne _ _ (by decide)]; exact CZ.init _ _ _ _⟩ (fun i K i1 i2 hK => by
    obtain ⟨n, rfl, k1, k2, k3⟩ := hK
    have e503 : K 503 (n : Int) = gN (M 4) n := by rw [k1 503 (by decide) (by decide), st_eq]; exact h3 n (by omega)
    unfold rn1
    rw [e503]
    by_cases h0 : M 4 (n : Int) = 0
    · rw [gN_0 h0, if_neg (by omega)]
      exact ⟨n + 1, by omega, k1, k2.free h0, k3.free (by omega) h0 (by rw [Int.zero_add]; exact h0)⟩
    · have hr := rnk_le (M 4) n
      rw [gN_b (by omega) h0, if_pos ⟨by omega, by omega⟩, if_neg (by omega), if_pos ⟨by omega, by omega⟩]
      (try dsimp only)
      have e4 : am_set K 3 (rnk (M 4) n : Int) (K 3 n) 4 = K 4 := set_ne _ _ _ (by decide)
      refine ⟨n + 1, by omega, fun k a b => by rw [set_ne _ _ _ b, set_ne _ _ _ b, set_ne _ _ _ a]; exact k1 k a b, ?_, ?_⟩
      · refine k2.used (by omega) h0 (fun j j1 j2 => ?_) (fun y hy => ?_)
        · rw [set_ne _ _ _ (by decide), set_ne _ _ _ (by decide), set_eq, show (0 : Int) + (1 * (rnk (M 4) n : Int) + j) = (rnk (M 4) n : Int) by omega, up_eq, show (0 : Int) + (1 * (n : Int) + j) = (n : Int) by omega]
        · rw [set_ne _ _ _ (by decide), set_ne _ _ _ (by decide), set_eq, up_ne _ _ (by have := hy 0 (by omega) (by omega); omega)]
      · have := k3.used (by omega) h0
        rw [Int.zero_add, Int.zero_add] at this
        rw [set_eq, set_eq, e4]
        exact this)
  obtain ⟨nA, a1, a2, a3, a4⟩ := hA
  have hnA : nA = 96 := by omega
  subst hnA
  rw [show (256 : Nat) = 96 + 160 from rfl, it_add]
  generalize itS (rn1 503) 96 0 (am_st M 503 g) = NA at a2 a3 a4 ⊢
  have hB := it_inv (b := rn1 503) (fun i K => ∃ n : Nat, i = (n : Int) + 96 ∧ (∀ k : Nat, k ≠ 4 → k ≠ 5 → k ≠ 6 → K k = NA k) ∧ CM (fun i => M 4 (i + 96)) (fun x => x) 0 1 160 (M 5) (K 5) n ∧ CM (fun i => M 4 (i + 96)) (gN (M 4)) 0 8 160 (M 6) (K 6) n ∧ CZ (fun i => M 4 (i + 96)) 96 160 (NA 4) (K 4) n) 160 (0 + (96 : Nat)) NA ⟨0, rfl, fun _ _ _ _ => rfl, by rw [a2 5 (by decide) (by decide), st_ne _ _ (by decide)]; exact CM.init _ _ _ _ _ _, by rw [a2 6 (by decide) (by decide), st_ne _ _ (by decide)]; exact CM.init _ _ _ _ _ _, CZ.init _ _ _ _⟩ (fun i K i1 i2 hK => by
    obtain ⟨n, rfl, k1, k2, k2', k3⟩ := hK
    have hn160 : n < 160 := by omega
    have hK503 : K 503 = g := by rw [k1 503 (by decide) (by decide) (by decide), a2 503 (by decide) (by decide), st_eq]
    have e503 : K 503 ((n : Int) + 96) = gN (M 4) ((n : Int) + 96) := by rw [hK503]; exact hgx _ (by omega) (by omega)
    unfold rn1
    rw [e503]
    by_cases h0 : M 4 ((n : Int) + 96) = 0
    · rw [gN_0 h0, if_neg (by omega)]
      refine ⟨n + 1, by omega, k1, k2.free (c := fun i => M 4 (i + 96)) h0, k2'.free (c := fun i => M 4 (i + 96)) h0, k3.free (c := fun i => M 4 (i + 96)) (by omega) h0 ?_⟩
      rw [a4.2.2.2 _ (Or.inr (by omega)), Int.add_comm]; exact h0
    · have hr := rnk_le (fun i => M 4 (i + 96)) n
      rw [gN_p hn160 h0]
      generalize hrk : rnk (fun i => M 4 (i + 96)) n = q at hr
      rw [if_pos ⟨by omega, by omega⟩, if_pos ⟨by omega, by omega⟩, show (96 : Int) + (q : Int) = (q : Int) + 96 by omega]
      (try dsimp only)
      obtain ⟨m1, m2, m3, m4⟩ := mp_sp (N := K) hn160 hr
      generalize mpS 503 K ((n : Int) + 96) ((q : Int) + 96) = K' at m1 m2 m3 m4
      refine ⟨n + 1, by omega, fun k b4 b5 b6 => by rw [set_ne _ _ _ b4, set_ne _ _ _ b4, m1 k b5 b6]; exact k1 k b4 b5 b6, ?_, ?_, ?_⟩
      · refine k2.used (by omega) h0 (fun j j1 j2 => ?_) (fun y hy => ?_)
        · rw [set_ne _ _ _ (by decide), set_ne _ _ _ (by decide), m2, hrk, show (0 : Int) + (1 * (q : Int) + j) = (q : Int) by omega, up_eq, show (0 : Int) + (1 * (n : Int) + j) = (n : Int) by omega]
        · rw [hrk] at hy
          rw [set_ne _ _ _ (by decide), set_ne _ _ _ (by decide), m2, up_ne _ _ (by have := hy 0 (by omega) (by omega); omega)]
      · refine k2'.used (by omega) h0 (fun j j1 j2 => ?_) (fun y hy => ?_)
        · rw [set_ne _ _ _ (by decide), set_ne _ _ _ (by decide), hrk, show (0 : Int) + (8 * (q : Int) + j) = (q : Int) * 8 + j by omega, m3 j j1 j2, hnb K _ hK503, show (0 : Int) + (8 * (n : Int) + j) = (n : Int) * 8 + j by omega]
        · rw [hrk] at hy
          rw [set_ne _ _ _ (by decide), set_ne _ _ _ (by decide)]
          refine m4 y ?_
          by_cases e : (q : Int) * 8 ≤ y ∧ y < (q : Int) * 8 + 8
          · exact absurd (show y = 0 + (8 * (q : Int) + (y - (q : Int) * 8)) by omega) (hy (y - (q : Int) * 8) (by omega) (by omega))
          · omega
      · have := k3.used (by omega) h0
        rw [hrk] at this
        rw [set_eq, set_eq, m1 4 (by decide) (by decide), show (n : Int) + 96 = 96 + (n : Int) by omega, show (q : Int) + 96 = 96 + (q : Int) by omega]
        exact this)
  obtain ⟨nB, b1, b2', b3, b3', b4⟩ := hB
  have hnB : nB = 160 := by omega
  subst hnB
  generalize itS (rn1 503) 160 (0 + (96 : Nat)) NA = NB at b2' b3 b3' b4 ⊢
  unfold lt1
  have hC := it_inv (b := fun v (K : am_M) => if 0 ≤ K 10 v ∧ K 10 v < 256 then am_set K 10 v (K 503 (K 10 v)) else K) (fun i K => (∀ k : Nat, k ≠ 10 → K k = NB k) ∧ (∀ v : Int, 0 ≤ v → v < i → K 10 v = if 0 ≤ NB 10 v ∧ NB 10 v < 256 then gN (M 4) (NB 10 v) else NB 10 v) ∧ ∀ v : Int, i ≤ v → K 10 v = NB 10 v) 12 0 NB ⟨fun _ _ => rfl, fun v a b => by omega, fun _ _ => rfl⟩ (fun i K i1 i2 hK => by
    obtain ⟨k1, k2, k3⟩ := hK
    (try dsimp only)
    have hK503 : K 503 = g := by rw [k1 503 (by decide), b2' 503 (by decide) (by decide) (by decide), a2 503 (by decide) (by decide), st_eq]
    rw [k3 i (Int.le_refl _), hK503]
    by_cases h0 : 0 ≤ NB 10 i ∧ NB 10 i < 256
    · rw [if_pos h0]
      refine ⟨fun k hk => by rw [set_ne _ _ _ hk]; exact k1 k hk, fun v v1 v2 => ?_, fun v hv => ?_⟩
      · rw [set_eq]
        by_cases e : v = i
        · rw [e, up_eq, if_pos h0, hgx _ h0.1 h0.2]
        · rw [up_ne _ _ e]; exact k2 v v1 (by omega)
      · rw [set_eq, up_ne _ _ (by omega)]; exact k3 v (by omega)
    · rw [if_neg h0]
      refine ⟨k1, fun v v1 v2 => ?_, fun v hv => k3 v (by omega)⟩
      by_cases e : v = i
      · rw [e, if_neg h0]; exact k3 i (Int.le_refl _)
      · exact k2 v v1 (by omega))
  obtain ⟨c1, c2, -⟩ := hC
  have hNB10 : NB 10 = M 10 := by rw [b2' 10 (by decide) (by decide) (by decide), a2 10 (by decide) (by decide), st_ne _ _ (by decide)]
  have hNB3 : NB 3 = NA 3 := b2' 3 (by decide) (by decide) (by decide)
  refine ⟨fun k h3 h4 h5 h6 h10 h503 => by rw [c1 k h10, b2' k h4 h5 h6, a2 k h3 h4, st_ne _ _ h503], fun u hu hc => ?_, fun x hx hx2 => ?_, fun u hu hc => ?_, fun x hx hx2 => ?_, fun y hy => ?_, fun v hv => ?_⟩
  · have hr := rnk_le (M 4) u
    rw [c1 3 (by decide), c1 4 (by decide), hNB3, b4.2.2.2 _ (Or.inl (by omega))]
    have x1 := a3.1 u hu hc 0 (by omega) (by omega)
    have x2 := a4.1 u hu hc
    rw [show (0 : Int) + (1 * (rnk (M 4) u : Int) + 0) = (rnk (M 4) u : Int) by omega, show (0 : Int) + (1 * (u : Int) + 0) = (u : Int) by omega] at x1
    rw [Int.zero_add, Int.zero_add] at x2
    exact ⟨x1, x2⟩
  · have x2 := a4.2.1 x hx hx2
    rw [Int.zero_add] at x2
    rw [c1 4 (by decide), b4.2.2.2 _ (Or.inl (by omega))]
    exact x2
  · rw [c1 5 (by decide), c1 4 (by decide), c1 6 (by decide)]
    have x1 := b3.1 u hu hc 0 (by omega) (by omega)
    have x2 := b4.1 u hu hc
    rw [show (0 : Int) + (1 * (rnk (fun i => M 4 (i + 96)) u : Int) + 0) = (rnk (fun i => M 4 (i + 96)) u : Int) by omega, show (0 : Int) + (1 * (u : Int) + 0) = (u : Int) by omega] at x1
    rw [a4.2.2.2 _ (Or.inr (by omega)), show (96 : Int) + (u : Int) = (u : Int) + 96 by omega] at x2
    refine ⟨x1, x2, fun j hj => ?_⟩
    have x3 := b3'.1 u hu hc j (by omega) (by omega)
    rw [show (0 : Int) + (8 * (rnk (fun i => M 4 (i + 96)) u : Int) + j) = (rnk (fun i => M 4 (i + 96)) u : Int) * 8 + j by omega, show (0 : Int) + (8 * (u : Int) + j) = (u : Int) * 8 + j by omega] at x3
    exact x3
  · rw [c1 4 (by decide)]
    exact b4.2.1 x hx hx2
  · rw [c1 4 (by decide), b4.2.2.2 _ (by omega), a4.2.2.2 _ (by omega)]
  · rw [c2 v (by omega) (by omega), hNB10]
