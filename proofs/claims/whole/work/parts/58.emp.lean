/-! A PLACE EMPTIED: class and reference -/
theorem empty_K {A c kd pl tr ex : Int → Int} (h : PI A c kd pl tr ex) {p k : Nat} (hp : p < 160) (hk : k < 8) (hc0 : c ((p : Int) + 96) ≠ 0) : KW c kd (am_up pl ((p : Int) * 8 + k) (-1)) ∧ XC TA c (am_up pl ((p : Int) * 8 + k) (-1)) tr (fun t => ex t + dl (pl ((p : Int) * 8 + k)) t) ∧ CO (am_up A (198 + 10 * (p : Int) + k) (-1)) c kd (am_up pl ((p : Int) * 8 + k) (-1)) := by
  refine ⟨fun r hr h0 => ?_, fun t ht => ?_, fun r hr h0 => ?_⟩
  · obtain ⟨k1, k2⟩ := h.kw r hr h0
    refine ⟨k1, fun j hj => ?_⟩
    by_cases e : (r : Int) * 8 + j = (p : Int) * 8 + k
    · rw [e, up_eq]; exact Or.inl rfl
    · rw [up_ne _ _ e]; exact k2 j hj
  · have h1 := h.xc t ht
    have ht0 := ht.1
    (try dsimp only)
    rw [rfP_up hp hk hc0, if_neg (show ¬ (-1 : Int) = t by omega)]
    unfold dl
    by_cases e : pl ((p : Int) * 8 + k) = t
    · rw [if_pos e, if_pos e.symm]; omega
    · rw [if_neg e, if_neg (fun q => e q.symm)]; omega
  · obtain ⟨k1, k2⟩ := h.co r hr h0
    rw [up_ne _ _ (by omega)]
    refine ⟨k1, fun j hj => ?_⟩
    by_cases e : r = p ∧ j = k
    · obtain ⟨rfl, rfl⟩ := e
      rw [up_eq, up_eq]; unfold dec; rw [if_pos rfl]
    · rw [up_ne _ _ (by omega), up_ne _ _ (by omega)]; exact k2 j hj
/-- what comes of emptying a place -/
theorem empty_hang {M : am_M} {A ex : Int → Int} (h : PI A (M 4) (M 5) (M 6) (M 10) ex) {p k : Nat} (hp : p < 160) (hk : k < 8) (hc0 : M 4 ((p : Int) + 96) ≠ 0) :
    hangS M ((p : Int) + 96) k (-1) = am_st (am_st M 6 (am_up (M 6) ((p : Int) * 8 + k) (-1))) 4 (LGc (am_up (M 6) ((p : Int) * 8 + k) (-1)) 4 (M 4) (M 6 ((p : Int) * 8 + k))).2 ∧
    LR 4 (am_up A (198 + 10 * (p : Int) + k) (-1)) (M 4) (M 5) (am_up (M 6) ((p : Int) * 8 + k) (-1)) (M 10) ex (M 6 ((p : Int) * 8 + k)) ∧
    PI (am_up A (198 + 10 * (p : Int) + k) (-1)) (LGc (am_up (M 6) ((p : Int) * 8 + k) (-1)) 4 (M 4) (M 6 ((p : Int) * 8 + k))).2 (M 5) (am_up (M 6) ((p : Int) * 8 + k) (-1)) (M 10) ex := by
  obtain ⟨e1, e2, e3⟩ := empty_K h hp hk hc0
  refine ⟨?_, LR_of h.e0 e1 e2 e3 (fun x => by have := h.bd x; omega), PI.letGo h.e0 e1 e2 e3 h.zo (FT.wc (h.kw p hp hc0).1 (h.kw.ft hp hk hc0))⟩
  rw [hangS_pure M hp hk (-1) (fun y => by have := h.bd y; omega), rs_m1]
/-- counts only sink as a thing is let go -/
theorem LGc_z' {A c kd pl tr ex : Int → Int} {c0 : Int → Int} {w x : Int} (h : PI A (LGc pl 4 c0 w).2 kd pl tr ex) (hx : c0 x = 0) : (LGc pl 4 c0 w).2 x = 0 := LGc_z hx (h.bd x).1
theorem VE_g {A c kd pl pl' tr ex : Int → Int} (h : PI A c kd pl tr ex) (hpl : ∀ r j : Nat, r < 160 → c ((r : Int) + 96) ≠ 0 → j < 8 → pl' ((r : Int) * 8 + j) = pl ((r : Int) * 8 + j) ∨ (1 ≤ kd r ∧ ∀ n : Nat, VE pl pl' (n + 1) (pl ((r : Int) * 8 + j)) (pl' ((r : Int) * 8 + j)))) :
    ∀ (n : Nat) (t : Int), (t = -1 ∨ n = 0 ∨ (96 ≤ t ∧ t < 256 ∧ c t ≠ 0 ∧ kd (t - 96) = (n : Int) - 1)) → VE pl pl' n t t
  | 0, t, _ => rfl
  | n + 1, t, ht => fun k => by
    have ih := VE_g h hpl n
    rcases ht with rfl | e | ⟨t1, t2, t3, t4⟩
    · rw [at_m1, at_m1]; exact ih _ (Or.inl rfl)
    · omega
    · by_cases hk : 0 ≤ k ∧ k < 8
      · have hok : atS pl t k = -1 ∨ n = 0 ∨ (96 ≤ atS pl t k ∧ atS pl t k < 256 ∧ c (atS pl t k) ≠ 0 ∧ kd (atS pl t k - 96) = (n : Int) - 1) := by
          rcases h.kid (n := (n : Int)) ⟨t1, t2, t3, by omega⟩ k with e | ⟨e, -⟩ | ⟨_, e1, e2, e3, e4⟩
          · exact Or.inl e
          · exact Or.inr (Or.inl (by omega))
          · exact Or.inr (Or.inr ⟨e1, e2, e3, by omega⟩)
        obtain ⟨r, hr⟩ : ∃ r : Nat, t = (r : Int) + 96 := ⟨(t - 96).toNat, by omega⟩
        obtain ⟨j, hj⟩ : ∃ j : Nat, k = (j : Int) := ⟨k.toNat, by omega⟩
        subst hr hj
        have ea : ∀ f : Int → Int, atS f ((r : Int) + 96) j = f ((r : Int) * 8 + j) := fun f => by rw [at_in ⟨t1, t2⟩ hk, show (r : Int) + 96 - 96 = r by omega]
        rw [show (r : Int) + 96 - 96 = r by omega] at t4
        rcases hpl r j (by omega) t3 (by omega) with e | ⟨e1, e2⟩
        · rw [ea pl', e, ← ea pl]
          exact ih _ hok
        · rw [ea pl', ea pl]
          obtain ⟨m, hm⟩ : ∃ m : Nat, n = m + 1 := ⟨n - 1, by omega⟩
          rw [hm]
          exact e2 m
      · rw [at_out hk, at_out hk]; exact VE_m1 _ _ _
theorem VE_emp {pl pl' : Int → Int} {w : Int} (hw : ∀ k : Int, atS pl w k = -1) (n : Nat) : VE pl pl' (n + 1) w (-1) := fun k => by
  rw [hw k, at_m1]; exact VE_m1 _ _ _
/-- an empty part taken off its place: contents stay -/
theorem emp_ct {M : am_M} {A ex : Int → Int} (hV : RV M A) (h : PI A (M 4) (M 5) (M 6) (M 10) ex) {p k : Nat} (hk : k < 8) (hkd : 1 ≤ M 5 p) (hw : ∀ i : Int, atS (M 6) (M 6 ((p : Int) * 8 + k)) i = -1) {w : Nat} (hw12 : w < 12) (b : Int) : ct (am_up (M 6) ((p : Int) * 8 + k) (-1)) (M 10) w b = ct (M 6) (M 10) w b := by
  refine VE_ct (VE_g h (fun r j hr hr0 hj => ?_) 3 _ ?_) b
  · by_cases e : r = p ∧ j = k
    · obtain ⟨rfl, rfl⟩ := e
      refine Or.inr ⟨hkd, fun n => ?_⟩
      rw [up_eq]
      exact VE_emp hw n
    · exact Or.inl (up_ne _ _ (by omega))
  · rcases hV.tr h hw12 with e | ⟨e1, e2, e3, e4⟩
    · exact Or.inl e
    · exact Or.inr (Or.inr ⟨e1, e2, e3, by omega⟩)
theorem S_Md_isEmpty (d : Nat) {A c kd pl tr ex : Int → Int} (h : PI A c kd pl tr ex) {p : Nat} (hp : p < 160) (hu : c ((p : Int) + 96) ≠ 0) (N : am_M) : am_m am_P (d + 2) j_Md_isEmpty [am_r 6 504, am_i p] (am_st N 505 (wc A c)) = some (some (am_i (if (∃ k : Nat, k < 8 ∧ pl ((p : Int) * 8 + k) ≠ -1) then 0 else 1)), am_st N 505 (wc A c)) := by
  show am_at am_P (d + 1) j_Md_isEmpty 0 [am_r 6 504, am_i p, am_u] [] (am_st N 505 (wc A c)) = _
  rw [E_Md_isEmpty_0, v_eq]
  have key := lp_fd (F := fun i => am_at am_P (d + 1) j_Md_isEmpty 2 [am_r 6 504, am_i p, am_i i] [] (am_st N 505 (wc A c))) (p := fun i => pl ((p : Int) * 8 + i) ≠ -1) (dp := fun _ => inferInstance) (a := 0) (k := 8) (r := fun i => some (some (am_i (if i = -1 then 1 else 0)), am_st N 505 (wc A c))) (by
    try dsimp only
    rw [E_Md_isEmpty_2, if_neg (by omega), if_t (by omega), if_pos rfl]) (by
    intro i h1 h2
    try dsimp only
    have e : A (198 + 10 * (p : Int) + i) = dec (kd p) (pl ((p : Int) * 8 + i)) := by
      obtain ⟨j, hj⟩ : ∃ j : Nat, i = (j : Int) := ⟨i.toNat, by omega⟩
      rw [hj]
      exact (h.co p hp hu).2 j (by omega)
    rw [E_Md_isEmpty_2, if_pos (by omega), S_Md_placeOf d (by omega) (by omega), bI_some, st_eq, wc_l _ _ (by omega) (by omega), e]
    by_cases h0 : pl ((p : Int) * 8 + i) = -1
    · rw [h0, show dec (kd p) (-1) = -1 from if_pos rfl, if_pos rfl, if_neg (fun q => q rfl), v_eq, wr_id (by omega) (by omega)]
    · rw [if_pos h0, if_t (by omega), if_neg (show ¬ i = -1 by omega)]
      rw [if_neg]
      obtain ⟨j, hj⟩ : ∃ j : Nat, i = (j : Int) := ⟨i.toNat, by omega⟩
      rw [hj] at h0 ⊢
      rcases h.kw.ft hp (k := j) (by omega) hu with q | q
      · exact absurd q h0
      · exact FT_dec q)
  refine Eq.trans key ?_
  rcases fd_spec (p := fun i => pl ((p : Int) * 8 + i) ≠ -1) (dp := fun _ => inferInstance) 8 0 with ⟨e1, e2⟩ | ⟨e1, e2, e3, _⟩
  · rw [e1, if_pos rfl, if_neg]
    rintro ⟨k, hk, q⟩
    exact e2 k (by omega) (by omega) q
  · rw [if_neg (by omega), if_pos]
    exact ⟨(fd (fun i => pl ((p : Int) * 8 + i) ≠ -1) (fun _ => inferInstance) 0 8).toNat, by omega, by rw [Int.toNat_of_nonneg (by omega)]; exact e3⟩
