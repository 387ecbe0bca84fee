/-! THE REFERENCE: begun, brought back, kept, copied -/
theorem cp_it {r s : Nat} (hrs : s ≠ r) (o1 o2 : Int) : ∀ (n : Nat) (a : Int) (M : am_M), itS (fun k N => am_set N r (o1 + k) (N s (o2 + k))) n a M = am_st M r (fun y => if o1 + a ≤ y ∧ y < o1 + a + n then M s (y - o1 + o2) else M r y)
  | 0, a, M => by
    have e : (fun y => if o1 + a ≤ y ∧ y < o1 + a + ((0 : Nat) : Int) then M s (y - o1 + o2) else M r y) = M r := by
      funext y; exact if_neg (by omega)
    rw [e, st_self]; rfl
  | n + 1, a, M => by
    have e : itS (fun k N => am_set N r (o1 + k) (N s (o2 + k))) (n + 1) a M = itS (fun k N => am_set N r (o1 + k) (N s (o2 + k))) n (a + 1) (am_set M r (o1 + a) (M s (o2 + a))) := rfl
    rw [e, cp_it hrs o1 o2 n (a + 1), set_ne _ _ _ hrs, set_eq]
    unfold am_set
    rw [st_st]
    congr 1
    funext y
    by_cases h1 : y = o1 + a
    · rw [if_neg (by omega), if_pos (by omega), h1, up_eq]
      congr 1; omega
    · rw [up_ne _ _ h1]
      by_cases h2 : o1 + (a + 1) ≤ y ∧ y < o1 + (a + 1) + n
      · rw [if_pos h2, if_pos (by omega)]
      · rw [if_neg h2, if_neg (by omega)]
def cpF (R S : Int → Int) (o1 o2 : Int) (n : Int) : Int → Int := fun y => if o1 ≤ y ∧ y < o1 + n then S (y - o1 + o2) else R y
theorem cpF_in {R S : Int → Int} {o1 o2 n y : Int} (h : o1 ≤ y ∧ y < o1 + n) : cpF R S o1 o2 n y = S (y - o1 + o2) := if_pos h
theorem cpF_out {R S : Int → Int} {o1 o2 n y : Int} (h : ¬ (o1 ≤ y ∧ y < o1 + n)) : cpF R S o1 o2 n y = R y := if_neg h
theorem cp_it0 {r s : Nat} (hrs : s ≠ r) (o1 o2 : Int) (n : Nat) (M : am_M) : itS (fun k N => am_set N r (o1 + k) (N s (o2 + k))) n 0 M = am_st M r (cpF (M r) (M s) o1 o2 n) := by
  rw [cp_it hrs]
  congr 1
  funext y
  unfold cpF
  rw [Int.add_zero]
theorem S_Md_begin (d : Nat) (M : am_M) : am_m am_P (d + 1) j_Md_begin [am_r 6 504] M = some (none, am_set (am_st M 507 (cpF (M 507) (M 505) 0 2 1902)) 504 2 0) := by
  show am_at am_P d j_Md_begin 0 [am_r 6 504, am_u] [] M = _
  rw [E_Md_begin_0, v_eq]
  obtain ⟨n, hn⟩ : ∃ n : Nat, n = 1902 := ⟨_, rfl⟩
  have key := lp_it (σ := am_M) (F := fun i N => am_at am_P d j_Md_begin 2 [am_r 6 504, am_i i] [] N) (b := fun k N => am_set N 507 (0 + k) (N 505 (2 + k))) (r := fun N => some (none, am_set N 504 2 0)) n 0 M (fun s => by
    try dsimp only
    rw [E_Md_begin_2, if_neg (by omega), if_t (by omega), w_eq]) (fun i s h1 h2 => by
    try dsimp only
    rw [E_Md_begin_2, if_pos (by omega), wr_id (z := 2 + i) (by omega) (by omega), if_t (by omega), if_t (by omega), w_eq, v_eq, wr_id (by omega) (by omega)]
    simp only [Nat.reduceAdd]
    rw [Int.zero_add])
  rw [cp_it0 (by decide), show ((n : Nat) : Int) = 1902 by omega] at key
  exact key
theorem S_Md_bringBack (d : Nat) (M : am_M) : am_m am_P (d + 1) j_Md_bringBack [am_r 6 504] M = some (none, am_st M 505 (cpF (M 505) (M 507) 2 0 1902)) := by
  show am_at am_P d j_Md_bringBack 0 [am_r 6 504, am_u] [] M = _
  rw [E_Md_bringBack_0, v_eq]
  obtain ⟨n, hn⟩ : ∃ n : Nat, n = 1902 := ⟨_, rfl⟩
  have key := lp_it (σ := am_M) (F := fun i N => am_at am_P d j_Md_bringBack 2 [am_r 6 504, am_i i] [] N) (b := fun k N => am_set N 505 (2 + k) (N 507 (0 + k))) (r := fun N => some (none, N)) n 0 M (fun s => by
    try dsimp only
    rw [E_Md_bringBack_2, if_neg (by omega)]) (fun i s h1 h2 => by
    try dsimp only
    rw [E_Md_bringBack_2, if_pos (by omega), wr_id (z := 2 + i) (by omega) (by omega), if_t (by omega), if_t (by omega), w_eq, v_eq, wr_id (by omega) (by omega)]
    simp only [Nat.reduceAdd]
    rw [Int.zero_add])
  rw [cp_it0 (by decide), show ((n : Nat) : Int) = 1902 by omega] at key
  exact key
theorem S_Md_copy (d : Nat) {r0 r1 : Nat} (hr : r0 ≠ r1) (M : am_M) : am_m am_P (d + 1) j_Md_copy [am_r 19 r0, am_r 19 r1] M = some (none, am_st M r1 (cpF (M r1) (M r0) 0 0 32336)) := by
  show am_at am_P d j_Md_copy 0 [am_r 19 r0, am_r 19 r1, am_u] [] M = _
  rw [E_Md_copy_0, v_eq]
  obtain ⟨n, hn⟩ : ∃ n : Nat, n = 32336 := ⟨_, rfl⟩
  have key := lp_it (σ := am_M) (F := fun i N => am_at am_P d j_Md_copy 2 [am_r 19 r0, am_r 19 r1, am_i i] [] N) (b := fun k N => am_set N r1 (0 + k) (N r0 (0 + k))) (r := fun N => some (none, N)) n 0 M (fun s => by
    try dsimp only
    rw [E_Md_copy_2, if_neg (by omega)]) (fun i s h1 h2 => by
    try dsimp only
    rw [E_Md_copy_2, if_pos (by omega), if_t (by omega), if_t (by omega), w_eq, v_eq, wr_id (by omega) (by omega), Int.zero_add])
  rw [cp_it0 hr, show ((n : Nat) : Int) = 32336 by omega] at key
  exact key
theorem S_Md_stepAt (d : Nat) {f i : Int} (hf : 0 ≤ f ∧ f < 16) (hi : 0 ≤ i ∧ i ≤ 16) (M : am_M) : am_m am_P (d + 1) j_Md_stepAt [am_i f, am_i i] M = some (some (am_i (1904 + 1902 * ((f + i) % 16))), M) := by
  show am_at am_P d j_Md_stepAt 0 [am_i f, am_i i] [] M = _
  rw [E_Md_stepAt_0, if_t (by decide), wr_id (z := f + i) (by omega) (by omega), am_rem16 (by omega) (by omega), wr_id (z := 1902 * ((f + i) % 16)) (by omega) (by omega), wr_id (by omega) (by omega)]
/-- where a step is kept: the first, how many, behind it -/
def kpF (R : Int → Int) : Int := if R 0 = 16 then (R 1 + 1) % 16 else R 1
def kpS (R : Int → Int) : Int := if R 0 = 16 then 15 else R 0
theorem S_Md_keep (M : am_M) (h0 : 0 ≤ M 505 0 ∧ M 505 0 ≤ 16) (h1 : 0 ≤ M 505 1 ∧ M 505 1 < 16) : ∃ R : Int → Int, (∀ d : Nat, am_m am_P (d + 2) j_Md_keep [am_r 6 504] M = some (none, am_st M 505 R)) ∧ R 0 = kpS (M 505) + 1 ∧ R 1 = kpF (M 505) ∧ (∀ y : Int, 2 ≤ y → y < 1904 → R y = M 505 y) ∧ (∀ k : Int, 0 ≤ k → k < 1902 → R (1904 + 1902 * ((kpF (M 505) + kpS (M 505)) % 16) + k) = M 507 k) ∧ (∀ j k : Int, 0 ≤ j → j < 16 → j ≠ (kpF (M 505) + kpS (M 505)) % 16 → 0 ≤ k → k < 1902 → R (1904 + 1902 * j + k) = M 505 (1904 + 1902 * j + k)) := by
  have key : ∀ (N : am_M) (f s : Int), N 507 = M 507 → (∀ r : Nat, r ≠ 505 → N r = M r) → 0 ≤ f ∧ f < 16 → 0 ≤ s ∧ s < 16 → N 505 0 = s → N 505 1 = f → (∀ y : Int, 2 ≤ y → N 505 y = M 505 y) →
      ∃ R : Int → Int, (∀ d : Nat, am_at am_P (d + 1) j_Md_keep 56 [am_r 6 504, am_i (1904 + 1902 * ((f + s) % 16)), am_i 0] [] N = some (none, am_st M 505 R)) ∧ R 0 = s + 1 ∧ R 1 = f ∧ (∀ y : Int, 2 ≤ y → y < 1904 → R y = M 505 y) ∧ (∀ k : Int, 0 ≤ k → k < 1902 → R (1904 + 1902 * ((f + s) % 16) + k) = M 507 k) ∧ (∀ j k : Int, 0 ≤ j → j < 16 → j ≠ (f + s) % 16 → 0 ≤ k → k < 1902 → R (1904 + 1902 * j + k) = M 505 (1904 + 1902 * j + k)) := by
    intro N f s h507 hN hf hs hN0 hN1 hNy
    obtain ⟨x, hx⟩ : ∃ x : Int, x = (f + s) % 16 := ⟨_, rfl⟩
    have hx1 : 0 ≤ x ∧ x < 16 := by omega
    rw [← hx]
    refine ⟨am_up (cpF (N 505) (N 507) (1904 + 1902 * x) 0 1902) 0 (s + 1), fun d => ?_, up_eq _ _ _, ?_, ?_, ?_, ?_⟩
    · obtain ⟨n, hn⟩ : ∃ n : Nat, n = 1902 := ⟨_, rfl⟩
      have key := lp_it (σ := am_M) (F := fun i N => am_at am_P (d + 1) j_Md_keep 56 [am_r 6 504, am_i (1904 + 1902 * x), am_i i] [] N) (b := fun k N => am_set N 505 (1904 + 1902 * x + k) (N 507 (0 + k))) (r := fun N => some (none, am_set N 505 0 (am_wr (N 505 0 + 1)))) n 0 N (fun s => by
        try dsimp only
        rw [E_Md_keep_56, if_neg (by omega), if_t (by omega), if_t (by omega), w_eq]) (fun i s h1 h2 => by
        try dsimp only
        rw [E_Md_keep_56, if_pos (by omega), wr_id (z := 1904 + 1902 * x + i) (by omega) (by omega), if_t (by omega), if_t (by omega), w_eq, v_eq, wr_id (by omega) (by omega)]
        simp only [Nat.reduceAdd]
        rw [Int.zero_add])
      rw [cp_it0 (by decide), show ((n : Nat) : Int) = 1902 by omega] at key
      rw [key]
      (try dsimp only)
      unfold am_set
      rw [st_eq, cpF_out (by omega), hN0, wr_id (by omega) (by omega), st_st]
      congr 2
      funext r
      by_cases hr : r = 505
      · rw [hr, st_eq, st_eq]
      · rw [st_ne _ _ hr, st_ne _ _ hr, hN r hr]
    · rw [up_ne _ _ (by omega), cpF_out (by omega), hN1]
    · intro y y1 y2; rw [up_ne _ _ (by omega), cpF_out (by omega), hNy y y1]
    · intro k k1 k2; rw [up_ne _ _ (by omega), cpF_in (by omega), h507]; congr 1; omega
    · intro j k j1 j2 j3 k1 k2; rw [up_ne _ _ (by omega), cpF_out (by omega), hNy _ (by omega)]
  have hX : ∀ d : Nat, am_m am_P (d + 2) j_Md_keep [am_r 6 504] M = am_at am_P (d + 1) j_Md_keep 0 [am_r 6 504, am_u, am_u] [] M := fun _ => rfl
  unfold kpF kpS
  by_cases h : M 505 0 = 16
  · rw [if_pos h, if_pos h]
    obtain ⟨R, r1, r2⟩ := key (am_set (am_set M 505 1 ((M 505 1 + 1) % 16)) 505 0 15) ((M 505 1 + 1) % 16) 15 (by rw [set_ne _ _ _ (by decide), set_ne _ _ _ (by decide)]) (by intro r hr; rw [set_ne _ _ _ hr, set_ne _ _ _ hr]) (by omega) (by omega) (by rw [set_eq, up_eq]) (by rw [set_eq, up_ne _ _ (by decide), set_eq, up_eq]) (by intro y hy; rw [set_eq, up_ne _ _ (by omega), set_eq, up_ne _ _ (by omega)])
    refine ⟨R, fun d => ?_, r2⟩
    rw [hX, E_Md_keep_0, if_t (by omega)]
    simp only [Nat.reduceAdd]
    rw [if_pos h, if_t (by omega), if_t (by decide), if_t (by omega), wr_id (by omega) (by omega), am_rem16 (by omega) (by omega), w_eq, if_t (by omega), if_t (by omega), set_eq, up_ne _ _ (by decide), h, wr_id (by omega) (by omega), w_eq, if_t (by omega), if_t (by omega), set_eq, set_eq, up_ne _ _ (by decide), up_eq, up_eq]
    rw [show (16 : Int) - 1 = 15 from rfl, S_Md_stepAt d (by omega) (by omega), bI_some, v_eq, v_eq]
    exact r1 d
  · rw [if_neg h, if_neg h]
    obtain ⟨R, r1, r2⟩ := key M (M 505 1) (M 505 0) rfl (fun _ _ => rfl) (by omega) (by omega) rfl rfl (fun _ _ => rfl)
    refine ⟨R, fun d => ?_, r2⟩
    rw [hX, E_Md_keep_0, if_t (by omega)]
    simp only [Nat.reduceAdd]
    rw [if_neg h, if_t (by omega), if_t (by omega), S_Md_stepAt d (by omega) (by omega), bI_some, v_eq, v_eq]
    exact r1 d
