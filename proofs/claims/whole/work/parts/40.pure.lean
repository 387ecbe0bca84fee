/-! THE CLASS's hanging and owning, as functions of counts and places alone -/
theorem raise_rs (M : am_M) (x : Int) (hb : ∀ y, 0 ≤ M 4 y ∧ M 4 y ≤ 1000000) : raiseS M x = am_st M 4 (rs (M 4) x) := by
  unfold raiseS rs
  by_cases hx : 0 ≤ x ∧ x < 256
  · have := hb x
    rw [if_pos hx, if_pos hx, wr_id (by omega) (by omega)]
    rfl
  · rw [if_neg hx, if_neg hx, st_self]
theorem st_46 (M : am_M) {i j : Nat} (hij : i ≠ j) (f g f' : Int → Int) : am_st (am_st (am_st M i f) j g) i f' = am_st (am_st M j g) i f' := by
  rw [st_comm M f g hij, st_st]
theorem hangS_pure (M : am_M) {p k : Nat} (hp : p < 160) (hk : k < 8) (x : Int) (hb : ∀ y, 0 ≤ M 4 y ∧ M 4 y ≤ 1000000) : hangS M ((p : Int) + 96) k x = am_st (am_st M 6 (am_up (M 6) ((p : Int) * 8 + k) x)) 4 (LGc (am_up (M 6) ((p : Int) * 8 + k) x) 4 (rs (M 4) x) (M 6 ((p : Int) * 8 + k))).2 := by
  unfold hangS
  have e9 : (9 ^ 4 : Nat) = 6561 := by decide
  rw [if_pos ⟨by omega, by omega, by omega, by omega⟩, show ((p : Int) + 96 - 96) * 8 + k = (p : Int) * 8 + k by omega, raise_rs M x hb]
  have e6 : am_set (am_st M 4 (rs (M 4) x)) 6 ((p : Int) * 8 + k) x 6 = am_up (M 6) ((p : Int) * 8 + k) x := by rw [set_eq, st_ne _ _ (by decide)]
  have e4 : am_set (am_st M 4 (rs (M 4) x)) 6 ((p : Int) * 8 + k) x 4 = rs (M 4) x := by rw [set_ne _ _ _ (by decide), st_eq]
  rw [LG_c 4 (by decide) 4 (by omega) _ _ (fun y => by
    rw [e4, e9]
    have := hb y
    have := rs_bd (c := M 4) (x := x) (y := y)
    omega), e6, e4]
  (try dsimp only)
  unfold am_set
  rw [st_ne _ _ (by decide), st_46 M (by decide)]
theorem hgTS_pure (M : am_M) {v : Int} (hv : thS M v) (x : Int) (hb : ∀ y, 0 ≤ M 4 y ∧ M 4 y ≤ 1000000) : hgTS M v x = am_st (am_st M 10 (am_up (M 10) v x)) 4 (LGc (M 6) 4 (rs (M 4) x) (M 10 v)).2 := by
  unfold hgTS
  have e9 : (9 ^ 4 : Nat) = 6561 := by decide
  rw [if_pos hv, raise_rs M x hb]
  have e6 : am_set (am_st M 4 (rs (M 4) x)) 10 v x 6 = M 6 := by rw [set_ne _ _ _ (by decide), st_ne _ _ (by decide)]
  have e4 : am_set (am_st M 4 (rs (M 4) x)) 10 v x 4 = rs (M 4) x := by rw [set_ne _ _ _ (by decide), st_eq]
  rw [LG_c 4 (by decide) 4 (by omega) _ _ (fun y => by
    rw [e4, e9]
    have := hb y
    have := rs_bd (c := M 4) (x := x) (y := y)
    omega), e6, e4]
  (try dsimp only)
  unfold am_set
  rw [st_ne _ _ (by decide), st_46 M (by decide)]
theorem nw_pure (kd t q : Int) (A : Int → Int) (N : am_M) (hb : ∀ y, 0 ≤ N 4 y ∧ N 4 y ≤ 1000000 - 8) : itS (fun k N => am_set (raiseS N (atS (N 6) t k)) 6 (q * 8 + k) (atS (N 6) t k)) 8 0 N = am_st (am_st N 4 (nwS kd t q A (N 4) (N 6)).2.1) 6 (nwS kd t q A (N 4) (N 6)).2.2 := by
  have h := it_rel (σ := am_M) (τ := (Int → Int) × (Int → Int) × (Int → Int)) (b := fun k N => am_set (raiseS N (atS (N 6) t k)) 6 (q * 8 + k) (atS (N 6) t k)) (b' := nw1 kd t q) (fun i s r => s = am_st (am_st N 4 r.2.1) 6 r.2.2 ∧ ∀ y, 0 ≤ r.2.1 y ∧ r.2.1 y ≤ 1000000 - 8 + i) 8 0 N (am_up A (196 + 10 * q) kd, N 4, N 6) ⟨by (try dsimp only); rw [st_self, st_self], fun y => by have := hb y; (try dsimp only); omega⟩ (fun i s r h1 h2 hs => by
    obtain ⟨hs1, hs2⟩ := hs
    subst hs1
    have e6 : am_st (am_st N 4 r.2.1) 6 r.2.2 6 = r.2.2 := st_eq _ _ _
    have e4 : am_st (am_st N 4 r.2.1) 6 r.2.2 4 = r.2.1 := by rw [st_ne _ _ (by decide), st_eq]
    refine ⟨?_, fun y => ?_⟩
    · (try dsimp only)
      rw [e6, raise_rs _ _ (fun y => by rw [e4]; have := hs2 y; omega), e4]
      unfold nw1 am_set
      (try dsimp only)
      rw [st_ne _ _ (show (6 : Nat) ≠ 4 by decide), e6, st_46 _ (by decide), st_comm _ _ _ (show (4 : Nat) ≠ 6 by decide), st_46 _ (by decide), st_comm _ _ _ (show (6 : Nat) ≠ 4 by decide)]
    · have := hs2 y
      have := rs_bd (c := r.2.1) (x := atS r.2.2 t i) (y := y)
      unfold nw1
      (try dsimp only)
      omega)
  exact h.1
theorem frPS_C (M : am_M) : frPS M = if frC (M 4) = -1 then -1 else frC (M 4) + 96 := by
  unfold frPS frC
  rcases fd_spec (p := fun i => M 4 i = 0) (dp := fun _ => inferInstance) 160 96 with ⟨h1, h2⟩ | ⟨h1, h2, h3, h4⟩
  · rw [h1, fd_none _ _ (fun j a1 a2 a3 => h2 (j + 96) (by omega) (by omega) a3), if_pos rfl]
  · rcases fd_spec (p := fun i => M 4 (i + 96) = 0) (dp := fun _ => inferInstance) 160 0 with ⟨g1, g2⟩ | ⟨g1, g2, g3, g4⟩
    · exfalso
      refine g2 (fd (fun i => M 4 i = 0) (fun _ => inferInstance) 96 160 - 96) (by omega) (by omega) ?_
      rw [show fd (fun i => M 4 i = 0) (fun _ => inferInstance) 96 160 - 96 + 96 = fd (fun i => M 4 i = 0) (fun _ => inferInstance) 96 160 by omega]
      exact h3
    · rw [if_neg (by omega)]
      generalize fd (fun i => M 4 i = 0) (fun _ => inferInstance) 96 160 = a at h1 h2 h3 h4 ⊢
      generalize fd (fun i => M 4 (i + 96) = 0) (fun _ => inferInstance) 0 160 = b at g1 g2 g3 g4 ⊢
      by_cases hab : a < b + 96
      · exact absurd (by (try dsimp only); rw [show a - 96 + 96 = a by omega]; exact h3) (g4 (a - 96) (by omega) (by omega))
      · by_cases hba : b + 96 < a
        · exact absurd g3 (h4 (b + 96) (by omega) (by omega))
        · omega
