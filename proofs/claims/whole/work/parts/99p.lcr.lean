/-! LAID CLOSE: the reference -/
theorem R_layBlocks (d : Nat) {A c : Int → Int} (hc : ∀ x, 0 ≤ c x) {N : am_M} (hN : N 505 = wc A c) : ∃ N', am_m am_P (d + 2) j_Md_layBlocks [am_r 6 504] N = some (none, N') ∧ (∀ k : Nat, k ≠ 505 → k ≠ 510 → N' k = N k) ∧ (∀ u : Nat, u < 96 → ¬ c (u : Int) = 0 → N' 510 u = (rnk c u : Int) ∧ N' 505 (4 + 2 * (rnk c u : Int)) = A (4 + 2 * (u : Int)) ∧ N' 505 (5 + 2 * (rnk c u : Int)) = c u) ∧ (∀ x : Nat, rnk c 96 ≤ x → x < 96 → N' 505 (5 + 2 * (x : Int)) = 0) ∧ ∀ y : Int, (y < 4 ∨ 196 ≤ y) → N' 505 y = wc A c y := by
  show ∃ N', am_at am_P (d + 1) j_Md_layBlocks 0 [am_r 6 504, am_u, am_u] [] N = some (none, N') ∧ _
  rw [E_Md_layBlocks_0, v_eq, v_eq]
  have h96 := rnk_le c 96
  have hwb : ∀ u : Nat, u < 96 → wc A c (5 + 2 * (u : Int)) = c u := fun u hu => by rw [wc_b _ _ (by omega), if_neg (by have := hc u; omega)]
  obtain ⟨K1, f1, n, e1, p1, p2, p3⟩ := lp_ex (F := fun i K => am_at am_P (d + 1) j_Md_layBlocks 4 [am_r 6 504, am_i (rnk c i.toNat : Int), am_i i] [] K) (r := fun K => am_at am_P (d + 1) j_Md_layBlocks 54 [am_r 6 504, am_u, am_i (rnk c 96 : Int)] [] K) (fun i K => ∃ n : Nat, i = (n : Int) ∧ (∀ k : Nat, k ≠ 505 → k ≠ 510 → K k = N k) ∧ (∀ u : Nat, u < n → ¬ c (u : Int) = 0 → K 510 u = (rnk c u : Int)) ∧ CM c (fun x => x) 4 2 96 (wc A c) (K 505) n) 96 0 N ⟨0, rfl, fun _ _ _ => rfl, fun u h => by omega, by rw [hN]; exact CM.init _ _ _ _ _ _⟩ (fun K _ => by
    (try dsimp only)
    rw [E_Md_layBlocks_4, if_neg (by omega), v_eq]
    rfl) (fun i K i1 i2 hK => by
    obtain ⟨n, rfl, k1, k2, k3⟩ := hK
    (try dsimp only)
    have hr := rnk_le c n
    have ecnt : K 505 (5 + 2 * (n : Int)) = c n := by
      have := k3.2.1 n (Nat.le_refl _) (by omega) 1 (by omega) (by omega)
      rw [show (4 : Int) + (2 * (n : Int) + 1) = 5 + 2 * (n : Int) by omega, hwb n (by omega)] at this
      exact this
    have eval : K 505 (4 + 2 * (n : Int)) = wc A c (4 + 2 * (n : Int)) := by
      have := k3.2.1 n (Nat.le_refl _) (by omega) 0 (by omega) (by omega)
      rw [show (4 : Int) + (2 * (n : Int) + 0) = 4 + 2 * (n : Int) by omega] at this
      exact this
    rw [show ((n : Int) + 1).toNat = n + 1 by omega, Int.toNat_natCast, E_Md_layBlocks_4, if_pos (by omega), S_Md_blockCount d (by omega), bI_some, ecnt]
    by_cases h0 : c (n : Int) = 0
    · rw [if_pos h0, v_eq, wr_id (by omega) (by omega), rnk_s0 h0]
      exact ⟨K, rfl, n + 1, by omega, k1, fun u hu hcu => k2 u (by
        by_cases e : u = n
        · rw [e] at hcu; exact absurd h0 hcu
        · omega) hcu, k3.free h0⟩
    · rw [if_neg h0, if_t (by omega), w_eq]
      simp only [Nat.reduceAdd]
      have e05 : am_set K 510 (n : Int) (rnk c n : Int) 505 = K 505 := set_ne _ _ _ (by decide)
      rw [S_Md_valueOf d (by omega), bI_some, S_Md_blockCount d (by omega), bI_some, e05, ecnt, S_Md_letBlock d (by omega), bV_some, v_eq, v_eq, e05, wr_id (by omega) (by omega), wr_id (by omega) (by omega), rnk_s1 h0, show ((rnk c n : Int) + 1) = ((rnk c n + 1 : Nat) : Int) by omega]
      refine ⟨_, rfl, n + 1, by omega, fun k a b => by rw [st_ne _ _ a, set_ne _ _ _ b]; exact k1 k a b, fun u hu hcu => ?_, ?_⟩
      · rw [st_ne _ _ (by decide), set_eq]
        by_cases e : u = n
        · rw [e, up_eq]
        · rw [up_ne _ _ (by omega)]; exact k2 u (by omega) hcu
      · rw [st_eq]
        refine k3.used (by omega) h0 (fun j j1 j2 => ?_) (fun y hy => ?_)
        · (try dsimp only)
          rcases (show j = 0 ∨ j = 1 by omega) with rfl | rfl
          · rw [show (4 : Int) + (2 * (rnk c n : Int) + 0) = 4 + 2 * (rnk c n : Int) by omega, up_ne _ _ (by omega), up_eq, show (4 : Int) + (2 * (n : Int) + 0) = 4 + 2 * (n : Int) by omega]
          · rw [show (4 : Int) + (2 * (rnk c n : Int) + 1) = 5 + 2 * (rnk c n : Int) by omega, up_eq, show (4 : Int) + (2 * (n : Int) + 1) = 5 + 2 * (n : Int) by omega, ecnt]
        · rw [up_ne _ _ (by have := hy 1 (by omega) (by omega); omega), up_ne _ _ (by have := hy 0 (by omega) (by omega); omega)])
  have hn : n = 96 := by omega
  subst hn
  have f1' : am_at am_P (d + 1) j_Md_layBlocks 4 [am_r 6 504, am_i 0, am_i 0] [] N = am_at am_P (d + 1) j_Md_layBlocks 54 [am_r 6 504, am_u, am_i (rnk c 96 : Int)] [] K1 := f1
  rw [f1']
  obtain ⟨K2, g1, q1, q2, q3⟩ := lp_ex (F := fun i K => am_at am_P (d + 1) j_Md_layBlocks 54 [am_r 6 504, am_u, am_i i] [] K) (r := fun K => some (none, K)) (fun i K => (∀ k : Nat, k ≠ 505 → K k = K1 k) ∧ (∀ x : Int, (rnk c 96 : Int) ≤ x → x < i → K 505 (5 + 2 * x) = 0) ∧ ∀ y : Int, (y < 4 + 2 * (rnk c 96 : Int) ∨ 4 + 2 * i ≤ y) → K 505 y = K1 505 y) (96 - rnk c 96) (rnk c 96 : Int) K1 ⟨fun _ _ => rfl, fun x a b => by omega, fun _ _ => rfl⟩ (fun K _ => by
    (try dsimp only)
    rw [E_Md_layBlocks_54, if_neg (by omega)]) (fun i K i1 i2 hK => by
    obtain ⟨k1, k2, k3⟩ := hK
    (try dsimp only)
    rw [E_Md_layBlocks_54, if_pos (by omega), S_Md_letBlock d (by omega), bV_some, v_eq, wr_id (by omega) (by omega)]
    refine ⟨_, rfl, fun k hk => by rw [st_ne _ _ hk]; exact k1 k hk, fun x x1 x2 => ?_, fun y hy => ?_⟩
    · rw [st_eq]
      by_cases e : x = i
      · rw [e, up_eq]
      · rw [up_ne _ _ (by omega), up_ne _ _ (by omega)]; exact k2 x x1 (by omega)
    · rw [st_eq, up_ne _ _ (by omega), up_ne _ _ (by omega)]; exact k3 y (by omega))
  refine ⟨K2, g1, fun k a b => by rw [q1 k a, p1 k a b], fun u hu hcu => ?_, fun x hx hx2 => q2 x (by omega) (by omega), fun y hy => ?_⟩
  · have hlt := rnk_lt hcu hu
    have x1 := p3.1 u hu hcu 0 (by omega) (by omega)
    have x2 := p3.1 u hu hcu 1 (by omega) (by omega)
    rw [show (4 : Int) + (2 * (rnk c u : Int) + 0) = 4 + 2 * (rnk c u : Int) by omega, show (4 : Int) + (2 * (u : Int) + 0) = 4 + 2 * (u : Int) by omega, wc_v _ _ (by omega)] at x1
    rw [show (4 : Int) + (2 * (rnk c u : Int) + 1) = 5 + 2 * (rnk c u : Int) by omega, show (4 : Int) + (2 * (u : Int) + 1) = 5 + 2 * (u : Int) by omega, hwb u hu] at x2
    refine ⟨by rw [q1 510 (by decide)]; exact p2 u hu hcu, ?_, ?_⟩
    · rw [q3 _ (Or.inl (by omega))]; exact x1
    · rw [q3 _ (Or.inl (by omega))]; exact x2
  · rw [q3 y (by omega), p3.2.2 y (by omega)]
/-- ten numbers of a part are copied -/
theorem lp_ten (d : Nat) {n p : Nat} (hnp : n ≤ p) (hp : p < 160) (K : am_M) : ∃ K', am_at am_P d j_Md_layParts 31 [am_r 6 504, am_i (n : Int), am_i (p : Int), am_i 0, am_u] [] K = am_at am_P d j_Md_layParts 4 [am_r 6 504, am_i ((n : Int) + 1), am_i ((p : Int) + 1), am_u, am_u] [] K' ∧ (∀ k : Nat, k ≠ 505 → K' k = K k) ∧ (∀ j : Int, 0 ≤ j → j < 10 → K' 505 (196 + (10 * (n : Int) + j)) = K 505 (196 + (10 * (p : Int) + j))) ∧ ∀ y : Int, (∀ j : Int, 0 ≤ j → j < 10 → y ≠ 196 + (10 * (n : Int) + j)) → K' 505 y = K 505 y := by
  obtain ⟨K', f1, p1, p2, p3⟩ := lp_ex (F := fun i K => am_at am_P d j_Md_layParts 31 [am_r 6 504, am_i (n : Int), am_i (p : Int), am_i i, am_u] [] K) (r := fun K => am_at am_P d j_Md_layParts 4 [am_r 6 504, am_i ((n : Int) + 1), am_i ((p : Int) + 1), am_u, am_u] [] K) (fun i K' => (∀ k : Nat, k ≠ 505 → K' k = K k) ∧ (∀ j : Int, 0 ≤ j → j < i → K' 505 (196 + (10 * (n : Int) + j)) = K 505 (196 + (10 * (p : Int) + j))) ∧ ∀ y : Int, (y < 196 + 10 * (n : Int) ∨ 196 + 10 * (n : Int) + i ≤ y) → K' 505 y = K 505 y) 10 0 K ⟨fun _ _ => rfl, fun j a b => by omega, fun _ _ => rfl⟩ (fun K _ => by
    (try dsimp only)
    rw [E_Md_layParts_31, if_neg (by omega), v_eq, v_eq, wr_id (by omega) (by omega), wr_id (by omega) (by omega)]) (fun i K2 i1 i2 hK => by
    obtain ⟨k1, k2, k3⟩ := hK
    (try dsimp only)
    have w1 : am_wr (am_wr (196 + am_wr (10 * (p : Int))) + i) = 196 + (10 * (p : Int) + i) := by
      rw [wr_id (z := 10 * (p : Int)) (by omega) (by omega), wr_id (z := 196 + 10 * (p : Int)) (by omega) (by omega), wr_id (by omega) (by omega)]; omega
    have w2 : am_wr (am_wr (196 + am_wr (10 * (n : Int))) + i) = 196 + (10 * (n : Int) + i) := by
      rw [wr_id (z := 10 * (n : Int)) (by omega) (by omega), wr_id (z := 196 + 10 * (n : Int)) (by omega) (by omega), wr_id (by omega) (by omega)]; omega
    rw [E_Md_layParts_31, if_pos (by omega), w1, w2, if_t (by omega), if_t (by omega), w_eq, v_eq, wr_id (by omega) (by omega)]
    simp only [Nat.reduceAdd]
    refine ⟨_, rfl, fun k hk => by rw [set_ne _ _ _ hk]; exact k1 k hk, fun j j1 j2 => ?_, fun y hy => ?_⟩
    · rw [set_eq]
      by_cases e : j = i
      · rw [e, up_eq]; exact k3 _ (Or.inr (by omega))
      · rw [up_ne _ _ (by omega)]; exact k2 j j1 (by omega)
    · rw [set_eq, up_ne _ _ (by omega)]; exact k3 y (by omega))
  refine ⟨K', f1, p1, fun j j1 j2 => p2 j j1 (by omega), fun y hy => p3 y ?_⟩
  by_cases e : y < 196 + 10 * (n : Int) ∨ 196 + 10 * (n : Int) + 10 ≤ y
  · omega
  · exact absurd (show y = 196 + (10 * (n : Int) + (y - 196 - 10 * (n : Int))) by omega) (hy _ (by omega) (by omega))
theorem dec_gN {M : am_M} {A ex : Int → Int} (h : PI A (M 4) (M 5) (M 6) (M 10) ex) {u j : Nat} (hu : u < 160) (hj : j < 8) (hc : ¬ M 4 ((u : Int) + 96) = 0) : M 6 ((u : Int) * 8 + j) = -1 ∨ (M 5 u = 0 ∧ ∃ b : Nat, b < 96 ∧ ¬ M 4 (b : Int) = 0 ∧ M 6 ((u : Int) * 8 + j) = (b : Int)) ∨ (1 ≤ M 5 u ∧ ∃ p : Nat, p < 160 ∧ ¬ M 4 ((p : Int) + 96) = 0 ∧ M 6 ((u : Int) * 8 + j) = (p : Int) + 96 ∧ M 5 p = M 5 u - 1) := by
  rcases (h.kw u hu hc).2 j hj with e | ⟨e1, e2, e3⟩ | ⟨e1, e2, e3, e4⟩
  · exact Or.inl e
  · have := h.child hu hj hc ⟨e2, by omega⟩
    refine Or.inr (Or.inl ⟨e1, (M 6 ((u : Int) * 8 + j)).toNat, by omega, ?_, by omega⟩)
    rw [show (((M 6 ((u : Int) * 8 + j)).toNat : Nat) : Int) = M 6 ((u : Int) * 8 + j) by omega]
    omega
  · have := h.child hu hj hc ⟨by omega, e3⟩
    refine Or.inr (Or.inr ⟨e1, (M 6 ((u : Int) * 8 + j) - 96).toNat, by omega, ?_, by omega, ?_⟩)
    · rw [show (((M 6 ((u : Int) * 8 + j) - 96).toNat : Nat) : Int) + 96 = M 6 ((u : Int) * 8 + j) by omega]
      omega
    · rw [show (((M 6 ((u : Int) * 8 + j) - 96).toNat : Nat) : Int) = M 6 ((u : Int) * 8 + j) - 96 by omega]
      exact e4
theorem R_layParts (d : Nat) {M : am_M} {A ex : Int → Int} (h : PI A (M 4) (M 5) (M 6) (M 10) ex) (hV : RV M A) (hM : MV M A) {N : am_M} (h5 : ∀ y : Int, 196 ≤ y → N 505 y = wc A (M 4) y) (h10 : ∀ u : Nat, u < 96 → ¬ M 4 (u : Int) = 0 → N 510 u = (rnk (M 4) u : Int)) : ∃ N', am_m am_P (d + 3) j_Md_layParts [am_r 6 504] N = some (none, N') ∧ (∀ k : Nat, k ≠ 505 → k ≠ 511 → N' k = N k) ∧ (∀ y : Int, y < 196 → N' 505 y = N 505 y) ∧ (∀ y : Int, 1796 ≤ y → (∀ v : Nat, v < 12 → y ≠ 1796 + 9 * (v : Int) + 4) → N' 505 y = A y) ∧ (∀ u : Nat, u < 160 → ¬ M 4 ((u : Int) + 96) = 0 → N' 505 (196 + 10 * (rnk (fun i => M 4 (i + 96)) u : Int)) = M 5 u ∧ N' 505 (197 + 10 * (rnk (fun i => M 4 (i + 96)) u : Int)) = M 4 ((u : Int) + 96) ∧ ∀ j : Nat, j < 8 → N' 505 (198 + 10 * (rnk (fun i => M 4 (i + 96)) u : Int) + j) = dec (M 5 u) (gN (M 4) (M 6 ((u : Int) * 8 + j)))) ∧ (∀ x : Nat, rnk (fun i => M 4 (i + 96)) 160 ≤ x → x < 160 → N' 505 (197 + 10 * (x : Int)) = 0) ∧ ∀ v : Nat, v < 12 → N' 505 (1796 + 9 * (v : Int) + 4) = if thS M v then decT (gN (M 4) (M 10 v)) else A (1796 + 9 * (v : Int) + 4) := by
  show ∃ N', am_at am_P (d + 2) j_Md_layParts 0 [am_r 6 504, am_u, am_u, am_u, am_u] [] N = some (none, N') ∧ _
  rw [E_Md_layParts_0, v_eq, v_eq]
  have h160 := rnk_le (fun i => M 4 (i + 96)) 160
  -- the parts copied
  obtain ⟨K1, f1, n, e1, p1, p2, p3⟩ := lp_ex (F := fun i K => am_at am_P (d + 2) j_Md_layParts 4 [am_r 6 504, am_i (rnk (fun i => M 4 (i + 96)) i.toNat : Int), am_i i, am_u, am_u] [] K) (r := fun K => am_at am_P (d + 2) j_Md_layParts 87 [am_r 6 504, am_i (rnk (fun i => M 4 (i + 96)) 160 : Int), am_i (10 * (rnk (fun i => M 4 (i + 96)) 160 : Int)), am_u, am_u] [] K) (fun i K => ∃ n : Nat, i = (n : Int) ∧ (∀ k : Nat, k ≠ 505 → k ≠ 511 → K k = N k) ∧ (∀ u : Nat, u < n → ¬ M 4 ((u : Int) + 96) = 0 → K 511 u = (rnk (fun i => M 4 (i + 96)) u : Int)) ∧ CM (fun i => M 4 (i + 96)) (fun x => x) 196 10 160 (N 505) (K 505) n) 160 0 N ⟨0, rfl, fun _ _ _ => rfl, fun u h => by omega, CM.init _ _ _ _ _ _⟩ (fun K _ => by
    (try dsimp only)
    rw [show ((0 : Int) + (160 : Nat)).toNat = 160 from rfl, E_Md_layParts_4, if_neg (by omega), v_eq, wr_id (by omega) (by omega)]) (fun i K i1 i2 hK => by
    obtain ⟨n, rfl, k1, k2, k3⟩ := hK
    (try dsimp only)
    have hr := rnk_le (fun i => M 4 (i + 96)) n
    have ecnt : K 505 (197 + 10 * (n : Int)) = M 4 ((n : Int) + 96) := by
      have := k3.2.1 n (Nat.le_refl _) (by omega) 1 (by omega) (by omega)
      rw [show (196 : Int) + (10 * (n : Int) + 1) = 197 + 10 * (n : Int) by omega, h5 _ (by omega), wc_p _ _ (by omega)] at this
      exact this
    rw [show ((n : Int) + 1).toNat = n + 1 by omega, Int.toNat_natCast, E_Md_layParts_4, if_pos (by omega), S_Md_partCount (d + 1) (by omega), bI_some, ecnt]
    by_cases h0 : M 4 ((n : Int) + 96) = 0
    · rw [if_pos h0, v_eq, wr_id (by omega) (by omega), rnk_s0 (c := fun i => M 4 (i + 96)) h0]
      exact ⟨K, rfl, n + 1, by omega, k1, fun u hu hcu => k2 u (by
        by_cases e : u = n
        · rw [e] at hcu; exact absurd h0 hcu
        · omega) hcu, k3.free (c := fun i => M 4 (i + 96)) h0⟩
    · rw [if_neg h0, if_t (by omega), w_eq, v_eq]
      simp only [Nat.reduceAdd]
      obtain ⟨K', g1, g2, g3, g4⟩ := lp_ten (d + 2) hr (show n < 160 by omega) (am_set K 511 (n : Int) (rnk (fun i => M 4 (i + 96)) n : Int))
      have e05 : am_set K 511 (n : Int) (rnk (fun i => M 4 (i + 96)) n : Int) 505 = K 505 := set_ne _ _ _ (by decide)
      rw [e05] at g3 g4
      refine ⟨K', ?_, n + 1, by omega, fun k a b => by rw [g2 k a, set_ne _ _ _ b]; exact k1 k a b, fun u hu hcu => ?_, ?_⟩
      · rw [rnk_s1 (c := fun i => M 4 (i + 96)) h0, show ((rnk (fun i => M 4 (i + 96)) n + 1 : Nat) : Int) = (rnk (fun i => M 4 (i + 96)) n : Int) + 1 by omega]
        exact g1
      · rw [g2 511 (by decide), set_eq]
        by_cases e : u = n
        · rw [e, up_eq]
        · rw [up_ne _ _ (by omega)]; exact k2 u (by omega) hcu
      · exact k3.used (by omega) h0 (fun j j1 j2 => g3 j j1 j2) g4)
  have hn : n = 160 := by omega
  subst hn
  have f1' : am_at am_P (d + 2) j_Md_layParts 4 [am_r 6 504, am_i 0, am_i 0, am_u, am_u] [] N = _ := f1
  rw [f1']
  clear f1 f1'
  have pe : ∀ u : Nat, u < 160 → ¬ M 4 ((u : Int) + 96) = 0 → ∀ j : Int, 0 ≤ j → j < 10 → K1 505 (196 + (10 * (rnk (fun i => M 4 (i + 96)) u : Int) + j)) = wc A (M 4) (196 + (10 * (u : Int) + j)) := fun u hu hcu j j1 j2 => by
    rw [p3.1 u hu hcu j j1 j2]
    exact h5 _ (by omega)
  -- the rest is 0
  obtain ⟨K2, f2, q1, q2, q3⟩ := lp_ex (F := fun i K => am_at am_P (d + 2) j_Md_layParts 87 [am_r 6 504, am_i (rnk (fun i => M 4 (i + 96)) 160 : Int), am_i i, am_u, am_u] [] K) (r := fun K => am_at am_P (d + 2) j_Md_layParts 113 [am_r 6 504, am_i (rnk (fun i => M 4 (i + 96)) 160 : Int), am_i 0, am_u, am_u] [] K) (fun i K => (∀ k : Nat, k ≠ 505 → K k = K1 k) ∧ (∀ y : Int, 10 * (rnk (fun i => M 4 (i + 96)) 160 : Int) ≤ y → y < i → K 505 (196 + y) = 0) ∧ ∀ y : Int, (y < 196 + 10 * (rnk (fun i => M 4 (i + 96)) 160 : Int) ∨ 196 + i ≤ y) → K 505 y = K1 505 y) (1600 - 10 * rnk (fun i => M 4 (i + 96)) 160) (10 * (rnk (fun i => M 4 (i + 96)) 160 : Int)) K1 ⟨fun _ _ => rfl, fun y a b => by omega, fun _ _ => rfl⟩ (fun K _ => by
    (try dsimp only)
    rw [E_Md_layParts_87, if_neg (by omega), v_eq]) (fun i K i1 i2 hK => by
    obtain ⟨k1, k2, k3⟩ := hK
    (try dsimp only)
    rw [E_Md_layParts_87, if_pos (by omega), wr_id (z := 196 + i) (by omega) (by omega), if_t (by omega), w_eq, v_eq, wr_id (by omega) (by omega)]
    simp only [Nat.reduceAdd]
    refine ⟨_, rfl, fun k hk => by rw [set_ne _ _ _ hk]; exact k1 k hk, fun y y1 y2 => ?_, fun y hy => ?_⟩
    · rw [set_eq]
      by_cases e : y = i
      · rw [e, up_eq]
      · rw [up_ne _ _ (by omega)]; exact k2 y y1 (by omega)
    · rw [set_eq, up_ne _ _ (by omega)]; exact k3 y (by omega))
  rw [f2]
  clear f2
  -- places by their new numbers
  obtain ⟨np, hnp⟩ : ∃ np : Nat, np = rnk (fun i => M 4 (i + 96)) 160 := ⟨_, rfl⟩
  rw [← hnp] at q2 q3 h160 ⊢
  have h10' : ∀ u : Nat, u < 96 → ¬ M 4 (u : Int) = 0 → K2 510 u = (rnk (M 4) u : Int) := fun u hu hcu => by rw [q1 510 (by decide), p1 510 (by decide) (by decide)]; exact h10 u hu hcu
  have h11' : ∀ u : Nat, u < 160 → ¬ M 4 ((u : Int) + 96) = 0 → K2 511 u = (rnk (fun i => M 4 (i + 96)) u : Int) := fun u hu hcu => by rw [q1 511 (by decide)]; exact p2 u hu hcu
  have pe2 : ∀ u : Nat, u < 160 → ¬ M 4 ((u : Int) + 96) = 0 → ∀ j : Int, 0 ≤ j → j < 10 → K2 505 (196 + (10 * (rnk (fun i => M 4 (i + 96)) u : Int) + j)) = wc A (M 4) (196 + (10 * (u : Int) + j)) := fun u hu hcu j j1 j2 => by
    have hlt := rnk_lt (c := fun i => M 4 (i + 96)) hcu hu
    rw [q3 _ (Or.inl (by omega))]
    exact pe u hu hcu j j1 j2
  obtain ⟨K3, f3, r1, r2, r3⟩ := lp_ex (F := fun i K => am_at am_P (d + 2) j_Md_layParts 113 [am_r 6 504, am_i (np : Int), am_i i, am_u, am_u] [] K) (r := fun K => am_at am_P (d + 2) j_Md_layParts 185 [am_r 6 504, am_u, am_i 0, am_u, am_u] [] K) (fun i K => (∀ k : Nat, k ≠ 505 → K k = K2 k) ∧ (∀ u : Nat, u < 160 → ¬ M 4 ((u : Int) + 96) = 0 → (rnk (fun i => M 4 (i + 96)) u : Int) < i → ∀ j : Nat, j < 8 → K 505 (198 + 10 * (rnk (fun i => M 4 (i + 96)) u : Int) + j) = dec (M 5 u) (gN (M 4) (M 6 ((u : Int) * 8 + j)))) ∧ ∀ y : Int, (∀ (x : Int) (j : Int), 0 ≤ x → x < i → 0 ≤ j → j < 8 → y ≠ 198 + 10 * x + j) → K 505 y = K2 505 y) np 0 K2 ⟨fun _ _ => rfl, fun u _ _ h => by omega, fun _ _ => rfl⟩ (fun K _ => by
    (try dsimp only)
    rw [E_Md_layParts_113, if_neg (by omega), v_eq]) (fun i K i1 i2 hK => by
    obtain ⟨k1, k2, k3⟩ := hK
    (try dsimp only)
    obtain ⟨u, hu, hcu, hru⟩ := rnk_sur (c := fun i => M 4 (i + 96)) (y := i.toNat) (n := 160) (by omega)
    have hi : i = (rnk (fun i => M 4 (i + 96)) u : Int) := by omega
    obtain ⟨hco1, hco2⟩ := h.co u hu hcu
    rw [E_Md_layParts_113, if_pos (by omega), v_eq]
    obtain ⟨K', g1, s1, s2, s3⟩ := lp_ex (F := fun j K => am_at am_P (d + 2) j_Md_layParts 120 [am_r 6 504, am_i (np : Int), am_i i, am_i j, am_u] [] K) (r := fun K => am_at am_P (d + 2) j_Md_layParts 113 [am_r 6 504, am_i (np : Int), am_i (i + 1), am_u, am_u] [] K) (fun j K' => (∀ k : Nat, k ≠ 505 → K' k = K k) ∧ (∀ l : Nat, (l : Int) < j → K' 505 (198 + 10 * i + l) = dec (M 5 u) (gN (M 4) (M 6 ((u : Int) * 8 + l)))) ∧ ∀ y : Int, (∀ l : Int, 0 ≤ l → l < j → y ≠ 198 + 10 * i + l) → K' 505 y = K 505 y) 8 0 K ⟨fun _ _ => rfl, fun l hl => by omega, fun _ _ => rfl⟩ (fun K _ => by
      (try dsimp only)
      rw [E_Md_layParts_120, if_neg (by omega), v_eq, wr_id (by omega) (by omega)]) (fun j K' j1 j2 hK' => by
      obtain ⟨t1, t2, t3⟩ := hK'
      (try dsimp only)
      obtain ⟨l, hl⟩ : ∃ l : Nat, j = (l : Int) := ⟨j.toNat, by omega⟩
      subst hl
      have hold : ∀ y : Int, (∀ (x : Int) (j : Int), 0 ≤ x → x < i → 0 ≤ j → j < 8 → y ≠ 198 + 10 * x + j) → (∀ l' : Int, 0 ≤ l' → l' < (l : Int) → y ≠ 198 + 10 * i + l') → K' 505 y = K2 505 y := fun y a b => by rw [t3 y b, k3 y a]
      have epl : K' 505 (198 + 10 * i + l) = dec (M 5 u) (M 6 ((u : Int) * 8 + l)) := by
        rw [hold _ (fun x j x1 x2 j1 j2 => by omega) (fun l' a b => by omega)]
        have := pe2 u hu hcu (2 + (l : Int)) (by omega) (by omega)
        rw [← hi, show (196 : Int) + (10 * i + (2 + (l : Int))) = 198 + 10 * i + l by omega, show (196 : Int) + (10 * (u : Int) + (2 + (l : Int))) = 198 + 10 * (u : Int) + l by omega, wc_l _ _ (by omega) (by omega), hco2 l (by omega)] at this
        exact this
      have ekd : K' 505 (196 + 10 * i) = M 5 u := by
        rw [hold _ (fun x j x1 x2 j1 j2 => by omega) (fun l' a b => by omega)]
        have := pe2 u hu hcu 0 (by omega) (by omega)
        rw [← hi, show (196 : Int) + (10 * i + 0) = 196 + 10 * i by omega, show (196 : Int) + (10 * (u : Int) + 0) = 196 + 10 * (u : Int) by omega, wc_k _ _ (by omega), hco1] at this
        exact this
      have e510 : K' 510 = K2 510 := by rw [t1 510 (by decide), k1 510 (by decide)]
      have e511 : K' 511 = K2 511 := by rw [t1 511 (by decide), k1 511 (by decide)]
      have hset : ∀ x : Int, x = dec (M 5 u) (gN (M 4) (M 6 ((u : Int) * 8 + l))) → (∀ k : Nat, k ≠ 505 → am_set K' 505 (198 + 10 * i + l) x k = K k) ∧ (∀ l' : Nat, (l' : Int) < (l : Int) + 1 → am_set K' 505 (198 + 10 * i + l) x 505 (198 + 10 * i + l') = dec (M 5 u) (gN (M 4) (M 6 ((u : Int) * 8 + l')))) ∧ ∀ y : Int, (∀ l' : Int, 0 ≤ l' → l' < (l : Int) + 1 → y ≠ 198 + 10 * i + l') → am_set K' 505 (198 + 10 * i + l) x 505 y = K 505 y := fun x hx => by
        refine ⟨fun k hk => by rw [set_ne _ _ _ hk]; exact t1 k hk, fun l' hl' => ?_, fun y hy => ?_⟩
        · rw [set_eq]
          by_cases e : l' = l
          · rw [e, up_eq]; exact hx
          · rw [up_ne _ _ (by omega)]; exact t2 l' (by omega)
        · rw [set_eq, up_ne _ _ (hy l (by omega) (by omega))]
          exact t3 y (fun l' a b => hy l' a (by omega))
      rw [E_Md_layParts_120, if_pos (by omega), S_Md_placeOf (d + 1) (by omega) (by omega), bI_some, v_eq, epl]
      rcases dec_gN h hu (show l < 8 by omega) hcu with e | ⟨e1, x, x1, x2, x3⟩ | ⟨e1, x, x1, x2, x3, x4⟩
      · rw [e, if_pos (show dec (M 5 u) (-1) = -1 from if_pos rfl), v_eq, wr_id (by omega) (by omega)]
        refine ⟨K', rfl, t1, fun l' hl' => ?_, fun y hy => t3 y (fun l' a b => hy l' a (by omega))⟩
        by_cases e' : l' = l
        · rw [e', epl, e, gN_m1]
        · exact t2 l' (by omega)
      · have hd : dec (M 5 u) (M 6 ((u : Int) * 8 + l)) = (x : Int) := by rw [e1, dec_0, x3]
        rw [hd, if_neg (by omega), S_Md_kindOf (d + 1) (by omega), bI_some, ekd, if_pos e1, if_t (by omega), S_Md_letPlace (d + 1) (by omega) (by omega), bV_some, v_eq, wr_id (by omega) (by omega)]
        simp only [Nat.reduceAdd]
        refine ⟨_, rfl, hset _ ?_⟩
        rw [e510, h10' x x1 x2, x3, gN_b x1 x2, e1, dec_0]
      · have hd : dec (M 5 u) (M 6 ((u : Int) * 8 + l)) = (x : Int) := by rw [dec_T (by omega), x3]; unfold decT; rw [if_neg (by omega)]; omega
        rw [hd, if_neg (by omega), S_Md_kindOf (d + 1) (by omega), bI_some, ekd, if_neg (by omega), if_t (by omega), S_Md_letPlace (d + 1) (by omega) (by omega), bV_some, v_eq, wr_id (by omega) (by omega)]
        simp only [Nat.reduceAdd]
        refine ⟨_, rfl, hset _ ?_⟩
        rw [e511, h11' x x1 x2, x3, gN_p x1 x2, dec_T (by omega)]
        unfold decT
        rw [if_neg (by omega)]; omega)
    refine ⟨K', g1, fun k hk => by rw [s1 k hk, k1 k hk], fun w hw hcw hrw j hj => ?_, fun y hy => ?_⟩
    · by_cases e : w = u
      · subst e
        rw [← hi]
        exact s2 j (by omega)
      · have hne : (rnk (fun i => M 4 (i + 96)) w : Int) ≠ i := fun e' => e (rnk_inj (c := fun i => M 4 (i + 96)) hcw hcu (by omega))
        rw [s3 _ (fun l a b => by omega)]
        exact k2 w hw hcw (by omega) j hj
    · rw [s3 y (fun l a b => hy i l i1 (by omega) a (by omega))]
      exact k3 y (fun x j x1 x2 j1 j2 => hy x j x1 (by omega) j1 j2))
  rw [f3]
  clear f3
  have h3o : ∀ y : Int, (y < 196 ∨ 1796 ≤ y) → K3 505 y = N 505 y := fun y hy => by
    rw [r3 y (fun x j x1 x2 j1 j2 => by omega), q3 y (by omega), p3.2.2 y (by omega)]
  have h311 : ∀ u : Nat, u < 160 → ¬ M 4 ((u : Int) + 96) = 0 → K3 511 u = (rnk (fun i => M 4 (i + 96)) u : Int) := fun u hu hcu => by rw [r1 511 (by decide)]; exact h11' u hu hcu
  -- the trunks
  obtain ⟨K4, f4, t1, t2, t3⟩ := lp_ex (F := fun i K => am_at am_P (d + 2) j_Md_layParts 185 [am_r 6 504, am_u, am_i i, am_u, am_u] [] K) (r := fun K => some (none, K)) (fun i K => (∀ k : Nat, k ≠ 505 → K k = K3 k) ∧ (∀ v : Nat, (v : Int) < i → K 505 (1796 + 9 * (v : Int) + 4) = if thS M v then decT (gN (M 4) (M 10 v)) else A (1796 + 9 * (v : Int) + 4)) ∧ ∀ y : Int, (∀ v : Nat, (v : Int) < i → y ≠ 1796 + 9 * (v : Int) + 4) → K 505 y = K3 505 y) 12 0 K3 ⟨fun _ _ => rfl, fun v hv => by omega, fun _ _ => rfl⟩ (fun K _ => by
    (try dsimp only)
    rw [E_Md_layParts_185, if_neg (by omega)]) (fun i K i1 i2 hK => by
    obtain ⟨k1, k2, k3⟩ := hK
    (try dsimp only)
    obtain ⟨v, hv⟩ : ∃ v : Nat, i = (v : Int) := ⟨i.toNat, by omega⟩
    subst hv
    have hth : thR (K 505) (v : Int) ↔ thS M v := by
      have e : K 505 (1796 + 9 * (v : Int)) = A (1796 + 9 * (v : Int)) := by rw [k3 _ (fun w hw => by omega), h3o _ (by omega), h5 _ (by omega), wc_o _ _ (by omega)]
      show (0 ≤ (v : Int) ∧ (v : Int) < 12 ∧ K 505 (1796 + 9 * (v : Int)) = 1) ↔ _
      rw [e]
      have := (hM.2 v (by omega) (by omega)).1.2.2.1
      constructor
      · rintro ⟨a, b, c⟩; exact ⟨a, b, this.mp c⟩
      · rintro ⟨a, b, c⟩; exact ⟨a, b, this.mpr c⟩
    have etr : K 505 (1796 + 9 * (v : Int) + 4) = A (1796 + 9 * (v : Int) + 4) := by rw [k3 _ (fun w hw => by omega), h3o _ (by omega), h5 _ (by omega), wc_o _ _ (by omega)]
    rw [E_Md_layParts_185, if_pos (by omega), S_Md_isVolume d, bI_some, b2_iff hth]
    by_cases hthv : thS M v
    · obtain ⟨w1, w2⟩ := hV v (by omega)
      rw [b2_t hthv, if_neg (by decide), S_Md_get (d + 1) (by omega) (by omega), bI_some, etr, w2 hthv.2.2]
      rcases w1 with e | ⟨e1, e2, e3⟩
      · rw [e, if_pos (show decT (-1) = -1 from rfl), v_eq, wr_id (by omega) (by omega)]
        refine ⟨K, rfl, k1, fun w hw => ?_, fun y hy => k3 y (fun w hw => hy w (by omega))⟩
        by_cases ew : w = v
        · subst ew
          rw [if_pos hthv, etr, w2 hthv.2.2, e, gN_m1]
        · exact k2 w (by omega)
      · have hused := h.trunk (v := v) (by omega) ⟨by omega, e2⟩
        obtain ⟨x, hx⟩ : ∃ x : Nat, M 10 v = (x : Int) + 96 := ⟨(M 10 v - 96).toNat, by omega⟩
        have hcx : ¬ M 4 ((x : Int) + 96) = 0 := by rw [← hx]; omega
        have hd : decT (M 10 v) = (x : Int) := by rw [hx]; unfold decT; rw [if_neg (by omega)]; omega
        rw [hd, if_neg (by omega), S_Md_get (d + 1) (by omega) (by omega), bI_some, etr, w2 hthv.2.2, hd, if_t (by omega), S_Md_let (d + 1) (by omega) (by omega), bV_some, v_eq, wr_id (by omega) (by omega)]
        simp only [Nat.reduceAdd]
        have hnew : K 511 (x : Int) = decT (gN (M 4) (M 10 v)) := by
          rw [k1 511 (by decide), h311 x (by omega) hcx, hx, gN_p (by omega) hcx]
          unfold decT
          rw [if_neg (by omega)]; omega
        refine ⟨_, rfl, fun k hk => by rw [set_ne _ _ _ hk]; exact k1 k hk, fun w hw => ?_, fun y hy => ?_⟩
        · rw [set_eq]
          by_cases ew : w = v
          · subst ew
            rw [up_eq, if_pos hthv]; exact hnew
          · rw [up_ne _ _ (by omega)]; exact k2 w (by omega)
        · rw [set_eq, up_ne _ _ (hy v (by omega))]
          exact k3 y (fun w hw => hy w (by omega))
    · rw [b2_f hthv, if_pos rfl, v_eq, wr_id (by omega) (by omega)]
      refine ⟨K, rfl, k1, fun w hw => ?_, fun y hy => k3 y (fun w hw => hy w (by omega))⟩
      by_cases ew : w = v
      · subst ew
        rw [if_neg hthv, etr]
      · exact k2 w (by omega))
  have h4o : ∀ y : Int, (y < 1796) → K4 505 y = K3 505 y := fun y hy => t3 y (fun v hv => by omega)
  refine ⟨K4, f4, fun k a b => by rw [t1 k a, r1 k a, q1 k a, p1 k a b], fun y hy => by rw [h4o y (by omega), h3o y (by omega)], fun y hy hne => ?_, fun u hu hcu => ?_, fun x hx hx2 => ?_, fun v hv => t2 v (by omega)⟩
  · rw [t3 y (fun v hv => hne v (by omega)), h3o y (by omega), h5 y (by omega), wc_o _ _ (by omega)]
  · have hlt := rnk_lt (c := fun i => M 4 (i + 96)) hcu hu
    have hle := rnk_le (fun i => M 4 (i + 96)) u
    obtain ⟨hco1, hco2⟩ := h.co u hu hcu
    refine ⟨?_, ?_, fun j hj => ?_⟩
    · rw [h4o _ (by omega), r3 _ (fun x j x1 x2 j1 j2 => by omega)]
      have := pe2 u hu hcu 0 (by omega) (by omega)
      rw [show (196 : Int) + (10 * (rnk (fun i => M 4 (i + 96)) u : Int) + 0) = 196 + 10 * (rnk (fun i => M 4 (i + 96)) u : Int) by omega, show (196 : Int) + (10 * (u : Int) + 0) = 196 + 10 * (u : Int) by omega, wc_k _ _ (by omega), hco1] at this
      exact this
    · rw [h4o _ (by omega), r3 _ (fun x j x1 x2 j1 j2 => by omega)]
      have := pe2 u hu hcu 1 (by omega) (by omega)
      rw [show (196 : Int) + (10 * (rnk (fun i => M 4 (i + 96)) u : Int) + 1) = 197 + 10 * (rnk (fun i => M 4 (i + 96)) u : Int) by omega, show (196 : Int) + (10 * (u : Int) + 1) = 197 + 10 * (u : Int) by omega, wc_p _ _ (by omega)] at this
      exact this
    · rw [h4o _ (by omega)]
      exact r2 u hu hcu (by omega) j hj
  · rw [h4o _ (by omega), r3 _ (fun x' j x1 x2 j1 j2 => by omega)]
    have := q2 (1 + 10 * (x : Int)) (by omega) (by omega)
    rw [show (196 : Int) + (1 + 10 * (x : Int)) = 197 + 10 * (x : Int) by omega] at this
    exact this
