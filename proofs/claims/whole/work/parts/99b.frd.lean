/-! TOLD: what letting go would free (of, frees, heaviest) -/
theorem LG_ext (r : Nat) (hr : r ≠ 6) : ∀ (n : Nat) (M N : am_M) (t : Int), (∀ k : Nat, k ≠ r → N k = M k) → (∀ x : Int, 0 ≤ x → x < 256 → N r x = M r x) → (LG r n N t).1 = (LG r n M t).1 ∧ (∀ k : Nat, k ≠ r → (LG r n N t).2 k = (LG r n M t).2 k) ∧ ∀ x : Int, 0 ≤ x → x < 256 → (LG r n N t).2 r x = (LG r n M t).2 r x
  | 0, M, N, t, h1, h2 => ⟨rfl, h1, h2⟩
  | n + 1, M, N, t, h1, h2 => by
    unfold LG
    by_cases ht : 0 ≤ t ∧ t < 256
    · have e := h2 t ht.1 ht.2
      rw [if_pos ht, if_pos ht, e]
      have hs1 : ∀ k : Nat, k ≠ r → am_set N r t (am_wr (M r t - 1)) k = am_set M r t (am_wr (M r t - 1)) k := fun k hk => by rw [set_ne _ _ _ hk, set_ne _ _ _ hk, h1 k hk]
      have hs2 : ∀ x : Int, 0 ≤ x → x < 256 → am_set N r t (am_wr (M r t - 1)) r x = am_set M r t (am_wr (M r t - 1)) r x := fun x x1 x2 => by
        rw [set_eq, set_eq]
        by_cases hx : x = t
        · rw [hx, up_eq, up_eq]
        · rw [up_ne _ _ hx, up_ne _ _ hx, h2 x x1 x2]
      split
      · split
        · exact ⟨rfl, hs1, hs2⟩
        · exact it_rel (σ := Int × am_M) (τ := Int × am_M) (fun _ s s' => s.1 = s'.1 ∧ (∀ k : Nat, k ≠ r → s.2 k = s'.2 k) ∧ ∀ x : Int, 0 ≤ x → x < 256 → s.2 r x = s'.2 r x) 8 0 _ _ ⟨rfl, hs1, hs2⟩ (fun i s s' _ _ hR => by
            obtain ⟨r1, r2, r3⟩ := hR
            obtain ⟨q1, q2, q3⟩ := LG_ext r hr n s'.2 s.2 (atS (s'.2 6) t i) r2 r3
            (try dsimp only)
            rw [r2 6 (Ne.symm hr), r1, q1]
            exact ⟨rfl, q2, q3⟩)
      · exact ⟨rfl, hs1, hs2⟩
    · rw [if_neg ht, if_neg ht]
      exact ⟨rfl, h1, h2⟩
/-- the counts when the volumes of a mask are let go -/
def fcS (m : Int) (pl tr : Int → Int) (n : Nat) (c : Int → Int) : Int → Int := itS (fun v c => if am_and (am_shr m v) 1 = 1 then (LGc pl 4 c (tr v)).2 else c) n 0 c
def frS (m : Int) (M : am_M) : Int := nz (M 4) 96 - nz (fcS m (M 6) (M 10) 12 (M 4)) 96
theorem and01 (x : Int) : am_and x 1 = 0 ∨ am_and x 1 = 1 := by rw [am_and1]; omega
theorem fb_sp (m : Int) {M : am_M} (hM : ∀ x, 0 ≤ M 4 x ∧ M 4 x ≤ 2292) : (fbS m M).1 = frS m M ∧ ∀ k : Nat, k ≠ 503 → (fbS m M).2 k = M k := by
  have h9 : (9 ^ 4 : Nat) = 6561 := by decide
  have key := it_rel (σ := Int × am_M) (τ := Int → Int) (b := fun v s => if am_and (am_shr m v) 1 = 0 then s else (am_wr (s.1 + (LG 503 4 s.2 (s.2 10 v)).1), (LG 503 4 s.2 (s.2 10 v)).2)) (b' := fun v c => if am_and (am_shr m v) 1 = 1 then (LGc (M 6) 4 c (M 10 v)).2 else c) (fun i s c => s.1 = nz (M 4) 96 - nz c 96 ∧ (∀ k : Nat, k ≠ 503 → s.2 k = M k) ∧ (∀ x : Int, 0 ≤ x → x < 256 → s.2 503 x = c x) ∧ ∀ x : Int, -6561 * i ≤ c x ∧ c x ≤ M 4 x) 12 0 (0, am_cp M 503 4 256) (M 4) ⟨by (try dsimp only); omega, fun k hk => cp_off _ _ hk, fun x x1 x2 => by
    show am_st M 503 (am_cpy (M 4) (M 503) 256) 503 x = M 4 x
    rw [st_eq]
    unfold am_cpy
    rw [if_pos ⟨x1, x2⟩], fun x => by have := hM x; omega⟩ (fun i s c i1 i2 hR => by
    obtain ⟨r1, r2, r3, r4⟩ := hR
    (try dsimp only)
    rcases and01 (am_shr m i) with h | h
    · rw [if_pos h, if_neg (by omega)]
      exact ⟨r1, r2, r3, fun x => by have := r4 x; omega⟩
    · rw [if_neg (by omega), if_pos h, r2 10 (by decide)]
      obtain ⟨q1, q2, q3⟩ := LG_ext 503 (by decide) 4 (am_st M 503 c) s.2 (M 10 i) (fun k hk => by rw [st_ne _ _ hk, r2 k hk]) (fun x x1 x2 => by rw [st_eq, r3 x x1 x2])
      have hc := LG_c 503 (by decide) 4 (by omega) (am_st M 503 c) (M 10 i) (fun x => by
        rw [h9, st_eq]
        have := r4 x
        have := hM x
        omega)
      rw [st_eq, st_ne _ _ (by decide), st_st] at hc
      rw [hc] at q1 q2 q3
      (try dsimp only at q1 q2 q3)
      have hz := LGc_nz (M 6) 4 c (M 10 i)
      have hb1 := nz_bd (M 4) 96
      have hb2 := nz_bd c 96
      have hb3 := nz_bd (LGc (M 6) 4 c (M 10 i)).2 96
      have hlow := LGc_low (M 6) 4 c (M 10 i)
      refine ⟨?_, fun k hk => by rw [q2 k hk, st_ne _ _ hk], fun x x1 x2 => by rw [q3 x x1 x2, st_eq], fun x => ?_⟩
      · (try dsimp only)
        rw [q1, r1, wr_id (by omega) (by omega)]
        omega
      · have h1 := hlow.1 x
        rw [h9] at h1
        have h2 := r4 x
        omega)
  obtain ⟨k1, k2, k3, k4⟩ := key
  exact ⟨k1, k2⟩
theorem SP.bd {M : am_M} {A c : Int → Int} {n : Int} (hJ : JX (am_st M 4 c) A n) (hP : SP M c) (x : Int) : 0 ≤ M 4 x ∧ M 4 x ≤ 2292 := by
  obtain ⟨u1, -, -⟩ := hJ.un
  by_cases h : 0 ≤ x ∧ x < 96
  · have := hP.2.1 x h.1 h.2
    omega
  · rw [hP.1 x h]; exact u1.bd x
theorem nz_wc (A c : Int → Int) : sm (fun b => if wc A c (5 + 2 * b) = 0 then 0 else 1) 96 = nz c 96 := by
  unfold nz
  refine sm_congr 96 (fun b hb => ?_)
  (try dsimp only)
  rw [wc_b _ _ (by omega)]
  by_cases h : 0 < c b
  · rw [if_neg (show ¬ c b < 0 by omega), if_neg (by omega), if_pos h]
  · rw [if_pos (by split <;> omega), if_neg h]
/-- the trunks when those of a mask below i are let go -/
def trS (m : Int) (tr : Int → Int) (i : Int) : Int → Int := fun v => if v < i ∧ am_and (am_shr m v) 1 = 1 then -1 else tr v
theorem trS_ge (m : Int) (tr : Int → Int) {i v : Int} (h : i ≤ v) : trS m tr i v = tr v := if_neg (fun q => by have := q.1; omega)
theorem trS_s (m : Int) (tr : Int → Int) {i w : Int} (h : w ≠ i) : trS m tr (i + 1) w = trS m tr i w := by
  unfold trS
  by_cases hq : w < i ∧ am_and (am_shr m w) 1 = 1
  · rw [if_pos hq, if_pos ⟨by omega, hq.2⟩]
  · rw [if_neg hq, if_neg (fun q => hq ⟨by omega, q.2⟩)]
theorem trS_1 (m : Int) (tr : Int → Int) {i : Int} (h : am_and (am_shr m i) 1 = 1) : trS m tr (i + 1) i = -1 := if_pos ⟨by omega, h⟩
theorem trS_0 (m : Int) (tr : Int → Int) {i : Int} (h : ¬ am_and (am_shr m i) 1 = 1) : trS m tr (i + 1) i = tr i := if_neg (fun q => h q.2)
theorem fr_ref (d : Nat) {M : am_M} {A c : Int → Int} {n : Int} (hR : M 505 = wc A (M 4)) (hJ : JX (am_st M 4 c) A n) (hP : SP M c) {m : Int} (hm : ∀ v : Int, 0 ≤ v → v < 12 → am_and (am_shr m v) 1 = 1 → thS M v) {N : am_M} (hN : RF M N) : ∃ N', am_m am_P (d + 8) j_Md_freed [am_r 6 504, am_i m] N = some (some (am_i (frS m M)), N') ∧ RF M N' := by
  have h9 : (9 ^ 4 : Nat) = 6561 := by decide
  obtain ⟨u1, u2, u3⟩ := hJ.un
  have hbd := SP.bd hJ hP
  obtain ⟨N1, b1, b2', b3, b4⟩ := R_begin (d + 6) hN
  have hX : am_m am_P (d + 8) j_Md_freed [am_r 6 504, am_i m] N = am_at am_P (d + 7) j_Md_freed 0 [am_r 6 504, am_i m, am_u, am_u] [] N := rfl
  have h5 : N1 505 = wc A (M 4) := (b2'.1 505 (by omega)).trans hR
  have hPp : ∀ p : Nat, p < 160 → M 4 ((p : Int) + 96) = c ((p : Int) + 96) := fun p hp => hP.1 _ (by omega)
  have hKW : KW (M 4) (M 5) (M 6) := u1.kw.mono (fun p hp h => by rw [← hPp p hp]; exact h)
  have hCO : CO A (M 4) (M 5) (M 6) := u1.co.mono (fun p hp h => by rw [← hPp p hp]; exact h)
  have hXC : XC TP (M 4) (M 6) (M 10) (fun _ => 0) := fun t ht => by
    have ht2 := ht.2
    have ht1 := ht.1
    have e := SP.cnt hJ hP (t := t) ⟨by omega, by omega⟩
    show M 4 t = rfP (M 4) (M 6) t + rfT (M 10) t + 0
    rw [hP.1 t (by omega), ← e]
    omega
  have key := lp_itP (σ := (Int → Int) × (Int → Int)) (F := fun i s => am_at am_P (d + 7) j_Md_freed 11 [am_r 6 504, am_i m, am_i (nz (M 4) 96), am_i i] [] (am_st N1 505 (wc s.1 s.2))) (b := fun v s => if am_and (am_shr m v) 1 = 1 then (am_up s.1 (1796 + 9 * v + 4) (-1), (LGc (M 6) 4 s.2 (M 10 v)).2) else s) (r := fun s => am_at am_P (d + 7) j_Md_freed 11 [am_r 6 504, am_i m, am_i (nz (M 4) 96), am_i 12] [] (am_st N1 505 (wc s.1 s.2))) (fun i s => KW s.2 (M 5) (M 6) ∧ XC TP s.2 (M 6) (trS m (M 10) i) (fun _ => 0) ∧ CO s.1 s.2 (M 5) (M 6) ∧ (∀ x : Int, -6561 * i ≤ s.2 x ∧ s.2 x ≤ M 4 x) ∧ (∀ v : Int, i ≤ v → s.1 (1796 + 9 * v + 4) = A (1796 + 9 * v + 4)) ∧ ∀ y : Int, (y < 2 ∨ 1904 ≤ y) → s.1 y = A y) 12 0 (A, M 4) ⟨hKW, by
      intro t ht
      have e := hXC t ht
      have e2 : rfT (trS m (M 10) 0) t = rfT (M 10) t := sm_congr 12 (fun v hv => by (try dsimp only); rw [trS_ge m (M 10) (by omega)])
      rw [e2]
      exact e, hCO, fun x => by have := hbd x; (try dsimp only); omega, fun v _ => rfl, fun y _ => rfl⟩ (fun s _ => rfl) (fun i s i1 i2 hs => by
      obtain ⟨s1, s2, s3, s4, s5, s6⟩ := hs
      (try dsimp only)
      obtain ⟨v, rfl⟩ : ∃ v : Nat, i = (v : Int) := ⟨i.toNat, by omega⟩
      have hv12 : v < 12 := by omega
      rw [E_Md_freed_11, if_pos (by omega)]
      by_cases h : am_and (am_shr m v) 1 = 1
      · rw [if_pos h, if_pos h]
        have hv := hm v (by omega) (by omega) h
        obtain ⟨w1, w2⟩ := u2 v hv12
        have hA4 : s.1 (1796 + 9 * (v : Int) + 4) = decT (M 10 v) := by rw [s5 v (Int.le_refl _)]; exact w2 hv.2.2
        have hXL : XC TP s.2 (M 6) (trS m (M 10) (v + 1)) (fun x => (fun _ => (0 : Int)) x + dl (M 10 v) x) := by
          intro t ht
          have e := s2 t ht
          have ht1 := ht.1
          have e2 : rfT (trS m (M 10) ((v : Int) + 1)) t = rfT (trS m (M 10) v) t + ((if (-1 : Int) = t then 1 else 0) - (if trS m (M 10) v v = t then 1 else 0)) := by
            rw [← rfT_up (trS m (M 10) v) hv12 (-1) t]
            refine sm_congr 12 (fun w hw => ?_)
            (try dsimp only)
            by_cases hwv : (w : Int) = v
            · rw [hwv, up_eq, trS_1 m (M 10) h]
            · rw [up_ne _ _ hwv, trS_s m (M 10) hwv]
          have e3 : trS m (M 10) v v = M 10 v := trS_ge m (M 10) (Int.le_refl _)
          (try dsimp only at e ⊢)
          rw [e2, e3, if_neg (by omega)]
          unfold dl
          by_cases hq : M 10 v = t
          · rw [if_pos hq, if_pos hq.symm]; omega
          · rw [if_neg hq, if_neg (fun q => hq q.symm)]; omega
        have hLX := LG_X (T := TP) (fun t h1 h2 => ⟨h1, h2⟩) (fun t h => ⟨by have := h.1; omega, h.2⟩) (kd := M 5) (pl := M 6) (tr := trS m (M 10) (v + 1)) 4 s.2 (M 10 v) (fun _ => 0) (fun _ => by omega) s1 hXL (by
          rcases w1 with q | ⟨q1, q2, q3⟩
          · exact Or.inl q
          · exact Or.inr (Or.inr ⟨q1, q2, by omega⟩))
        have hrun := S_Md_hangTrunk (d + 1) (A := s.1) (kd := M 5) (pl := M 6) (tr := trS m (M 10) (v + 1)) (c := s.2) (ex := fun _ => 0) (v := (v : Int)) (by omega) (x := -1) (w := M 10 v) (Or.inl rfl) hA4 (fun q => absurd rfl q) (by
          rcases w1 with q | ⟨q1, q2, q3⟩
          · exact Or.inl q
          · refine Or.inr ⟨q1, q2, q3, fun _ => Int.le_refl _, ?_, ?_, ?_, ?_⟩
            · rw [if_pos rfl]; exact s1
            · rw [if_pos rfl]; exact hXL
            · rw [if_pos rfl]; exact CO_up s3 (by omega) _
            · intro x
              rw [if_pos rfl, h9]
              have := s4 x
              have := hbd x
              omega) N1
        rw [if_pos rfl, show decT (-1) = -1 from if_pos rfl] at hrun
        rw [hrun, bV_some, v_eq, wr_id (by omega) (by omega)]
        refine ⟨rfl, s1.mono hLX.2, hLX.1, CO_up (s3.mono hLX.2) (by omega) _, fun x => ?_, fun w hw => by (try dsimp only); rw [up_ne _ _ (by omega)]; exact s5 w (by omega), fun y hy => by (try dsimp only); rw [up_ne _ _ (by omega)]; exact s6 y hy⟩
        have h1 := (LGc_low (M 6) 4 s.2 (M 10 v)).1 x
        rw [h9] at h1
        have h2 := s4 x
        (try dsimp only)
        omega
      · rw [if_neg h, if_neg h, v_eq, wr_id (by omega) (by omega)]
        refine ⟨rfl, s1, fun t ht => ?_, s3, fun x => by have := s4 x; omega, fun w hw => s5 w (by omega), s6⟩
        have e2 : rfT (trS m (M 10) ((v : Int) + 1)) t = rfT (trS m (M 10) v) t := by
          refine sm_congr 12 (fun w hw => ?_)
          (try dsimp only)
          by_cases hwv : (w : Int) = v
          · rw [hwv, trS_0 m (M 10) h, trS_ge m (M 10) (Int.le_refl _)]
          · rw [trS_s m (M 10) hwv]
        rw [e2]
        exact s2 t ht)
  have hfc := it_rel (σ := (Int → Int) × (Int → Int)) (τ := Int → Int) (b := fun v s => if am_and (am_shr m v) 1 = 1 then (am_up s.1 (1796 + 9 * v + 4) (-1), (LGc (M 6) 4 s.2 (M 10 v)).2) else s) (b' := fun v c => if am_and (am_shr m v) 1 = 1 then (LGc (M 6) 4 c (M 10 v)).2 else c) (fun _ s c => s.2 = c) 12 0 (A, M 4) (M 4) rfl (fun i s c _ _ h => by
    (try dsimp only)
    split
    · rw [← h]
    · exact h)
  generalize itS (fun v s => if am_and (am_shr m v) 1 = 1 then (am_up s.1 (1796 + 9 * v + 4) (-1), (LGc (M 6) 4 s.2 (M 10 v)).2) else s) 12 0 (A, M 4) = s at key hfc
  obtain ⟨k1, k2, k3, k4, k5, k6, k7⟩ := key
  (try dsimp only at hfc)
  have hfr : nz (M 4) 96 - nz s.2 96 = frS m M := by rw [hfc]; rfl
  have hz1 := nz_bd (M 4) 96
  have hz2 := nz_bd s.2 96
  obtain ⟨N', e1, e2, e3⟩ := R_back (d + 6) (A := A) (M := M) (M3 := M) (N1 := N1) (N2 := am_st N1 505 (wc s.1 s.2)) (R := wc s.1 s.2) b2' rfl (fun y hy => by rw [hR, wc_o _ _ (by omega)]) (fun k _ hk => st_ne _ _ hk) (st_eq _ _ _) (fun y hy => by rw [wc_o _ _ (by omega)]; exact k7 y hy)
  refine ⟨N', ?_, ?_, ?_, ?_⟩
  · rw [hX, E_Md_freed_0, b1, bV_some, S_Md_blocks (d + 5), bI_some, v_eq, v_eq, h5, nz_wc]
    have e0 : am_st N1 505 (wc A (M 4)) = N1 := by rw [← h5, st_self]
    rw [← e0]
    refine Eq.trans k1 ?_
    rw [E_Md_freed_11, if_neg (by omega), S_Md_blocks (d + 5), bI_some, v_eq, st_eq, nz_wc, wr_id (by omega) (by omega), e1, bV_some, hfr]
  · intro k hk
    by_cases hk5 : k = 505
    · rw [hk5]; exact e2
    · rw [e3 k hk5, st_ne _ _ hk5]
      rw [b3 k (by omega), hN.1 k hk]
  · rw [e3 504 (by decide), st_ne _ _ (by decide), b4 13 (by decide)]; exact hN.2.1
  · rw [e3 504 (by decide), st_ne _ _ (by decide), b4 16 (by decide)]; exact hN.2.2
theorem fr_cells (m : Int) {M N : am_M} (h : ∀ k : Nat, k ≠ 503 → N k = M k) : frS m N = frS m M := by
  unfold frS
  rw [h 4 (by decide), h 6 (by decide), h 10 (by decide)]
theorem shl_bit {v : Int} (hv : 0 ≤ v ∧ v < 12) {w : Int} (hw : 0 ≤ w ∧ w < 12) : am_and (am_shr (am_shl 1 v) w) 1 = 1 → w = v := by
  obtain ⟨i, rfl⟩ : ∃ i : Nat, v = (i : Int) := ⟨v.toNat, by omega⟩
  obtain ⟨j, rfl⟩ : ∃ j : Nat, w = (j : Int) := ⟨w.toNat, by omega⟩
  have : ∀ i : Nat, i < 12 → ∀ j : Nat, j < 12 → am_and (am_shr (am_shl 1 (i : Int)) (j : Int)) 1 = 1 → j = i := by decide +kernel
  intro h
  have := this i (by omega) j (by omega) h
  omega
theorem J_frees (d : Nat) {M : am_M} {n : Int} (hG : GR M n) {m : Int} (h32 : am_32 m) : AG M (n + 1) (am_m am_P (d + 20) j_Tv_frees [am_r 5 0, am_i m] M) (am_m am_P (d + 20) j_Md_frees [am_r 6 504, am_i m]) := by
  have hX : am_m am_P (d + 20) j_Tv_frees [am_r 5 0, am_i m] M = am_at am_P (d + 19) j_Tv_frees 0 [am_r 5 0, am_i m, am_u] [] M := rfl
  have hY : ∀ N, am_m am_P (d + 20) j_Md_frees [am_r 6 504, am_i m] N = am_at am_P (d + 19) j_Md_frees 0 [am_r 6 504, am_i m, am_u] [] N := fun _ => rfl
  obtain ⟨A, c, hR, hJ, hP⟩ := hG.sr
  obtain ⟨u1, u2, u3⟩ := hJ.un
  have hbit : ∀ v : Int, 0 ≤ v → v < 32 → am_and (am_ushr m v) 1 = am_and (am_shr m v) 1 := fun v h1 h2 => by
    obtain ⟨i, rfl⟩ : ∃ i : Nat, v = (i : Int) := ⟨v.toNat, by omega⟩
    exact am_ushr_and1 h32 (by omega)
  have hC : am_m am_P (d + 20) j_Tv_frees [am_r 5 0, am_i m] M = (fun z => if z = -1 then am_at am_P (d + 19) j_Tv_frees 2 [am_r 5 0, am_i m, am_i 32] [] M else some (some (am_i (-1)), M)) (fd (fun v => am_and (am_shr m v) 1 = 1 ∧ ¬ thS M v) (fun _ => inferInstance) 0 32) := by
    rw [hX, E_Tv_frees_0, v_eq]
    refine lp_fd (F := fun i => am_at am_P (d + 19) j_Tv_frees 2 [am_r 5 0, am_i m, am_i i] [] M) (r := fun z => if z = -1 then am_at am_P (d + 19) j_Tv_frees 2 [am_r 5 0, am_i m, am_i 32] [] M else some (some (am_i (-1)), M)) ?_ ?_
    · (try dsimp only)
      rw [if_pos rfl]
      rfl
    · intro i h1 h2
      (try dsimp only)
      rw [E_Tv_frees_2, if_pos (by omega), hbit i h1 (by omega), v_eq, wr_id (by omega) (by omega)]
      simp only [Nat.reduceAdd]
      by_cases hb : am_and (am_shr m i) 1 = 1
      · rw [if_pos hb, S_St_isThere, bI_some]
        by_cases hv : thS M i
        · rw [b2_t hv, if_neg (by decide), if_neg (fun q => q.2 hv), v_eq]
        · rw [b2_f hv, if_pos rfl, if_pos ⟨hb, hv⟩, if_neg (by omega)]
      · rw [if_neg hb, if_neg (fun q => hb q.1)]
  have hD : am_m am_P (d + 20) j_Md_frees [am_r 6 504, am_i m] M = (fun z => if z = -1 then am_at am_P (d + 19) j_Md_frees 2 [am_r 6 504, am_i m, am_i 32] [] M else some (some (am_i (-1)), M)) (fd (fun v => am_and (am_shr m v) 1 = 1 ∧ ¬ thS M v) (fun _ => inferInstance) 0 32) := by
    rw [hY, E_Md_frees_0, v_eq]
    refine lp_fd (F := fun i => am_at am_P (d + 19) j_Md_frees 2 [am_r 6 504, am_i m, am_i i] [] M) (r := fun z => if z = -1 then am_at am_P (d + 19) j_Md_frees 2 [am_r 6 504, am_i m, am_i 32] [] M else some (some (am_i (-1)), M)) ?_ ?_
    · (try dsimp only)
      rw [if_pos rfl]
      rfl
    · intro i h1 h2
      (try dsimp only)
      rw [E_Md_frees_2, if_pos (by omega), v_eq, wr_id (by omega) (by omega)]
      by_cases hb : am_and (am_shr m i) 1 = 1
      · rw [if_pos hb, R_isVol (d + 17) u3 hR, bI_some]
        by_cases hv : thS M i
        · rw [b2_t hv, if_neg (by decide), if_neg (fun q => q.2 hv), v_eq]
        · rw [b2_f hv, if_pos rfl, if_pos ⟨hb, hv⟩, if_neg (by omega)]
      · rw [if_neg hb, if_neg (fun q => hb q.1)]
  rcases fd_spec (p := fun v => am_and (am_shr m v) 1 = 1 ∧ ¬ thS M v) (dp := fun _ => inferInstance) 32 0 with ⟨e1, e2⟩ | ⟨e1, e2, e3, _⟩
  · have hm : ∀ v : Int, 0 ≤ v → v < 12 → am_and (am_shr m v) 1 = 1 → thS M v := fun v h1 h2 h3 => by
      by_cases hv : thS M v
      · exact hv
      · exact absurd ⟨h3, hv⟩ (e2 v h1 (by omega))
    obtain ⟨f1, f2⟩ := fb_sp m (SP.bd hJ hP)
    obtain ⟨hGN, _⟩ := RF.gr (n' := n) hG (by omega) (K := (fbS m M).2) (fun k hk => f2 k (by omega)) (RF_rfl _)
    have hrun : am_m am_P (d + 20) j_Tv_frees [am_r 5 0, am_i m] M = some (some (am_i (frS m M)), (fbS m M).2) := by
      rw [hC, e1]
      (try dsimp only)
      rw [if_pos rfl, E_Tv_frees_2, if_neg (by omega), S_Tv_freedBy (d + 12), bI_some, f1]
    -- the reference, on the class's memory
    obtain ⟨A', c', hR', hJ', hP'⟩ := hGN.sr
    obtain ⟨v1, v2, v3⟩ := hJ'.un
    have hth : ∀ v, thS (fbS m M).2 v ↔ thS M v := fun v => by unfold thS; rw [f2 7 (by decide)]
    have hm' : ∀ v : Int, 0 ≤ v → v < 12 → am_and (am_shr m v) 1 = 1 → thS (fbS m M).2 v := fun v h1 h2 h3 => (hth v).mpr (hm v h1 h2 h3)
    obtain ⟨N', g1, g2⟩ := fr_ref (d + 11) hR' hJ' hP' hm' (RF_rfl (fbS m M).2)
    rw [fr_cells m f2] at g1
    have hD' : am_m am_P (d + 20) j_Md_frees [am_r 6 504, am_i m] (fbS m M).2 = am_at am_P (d + 19) j_Md_frees 2 [am_r 6 504, am_i m, am_i 32] [] (fbS m M).2 := by
      generalize (fbS m M).2 = N at hR' hth v3
      rw [hY, E_Md_frees_0, v_eq]
      have k := lp_fd (F := fun i => am_at am_P (d + 19) j_Md_frees 2 [am_r 6 504, am_i m, am_i i] [] N) (p := fun v => am_and (am_shr m v) 1 = 1 ∧ ¬ thS M v) (dp := fun _ => inferInstance) (a := 0) (k := 32) (r := fun z => if z = -1 then am_at am_P (d + 19) j_Md_frees 2 [am_r 6 504, am_i m, am_i 32] [] N else some (some (am_i (-1)), N)) (by
        (try dsimp only)
        rw [if_pos rfl]
        rfl) (by
        intro i h1 h2
        (try dsimp only)
        rw [E_Md_frees_2, if_pos (by omega), v_eq, wr_id (by omega) (by omega)]
        by_cases hb : am_and (am_shr m i) 1 = 1
        · rw [if_pos hb, R_isVol (d + 17) v3 hR', bI_some]
          by_cases hv : thS M i
          · rw [b2_t ((hth i).mpr hv), if_neg (by decide), if_neg (fun q => q.2 hv), v_eq]
          · rw [b2_f (fun q => hv ((hth i).mp q)), if_pos rfl, if_pos ⟨hb, hv⟩, if_neg (by omega)]
        · rw [if_neg hb, if_neg (fun q => hb q.1)])
      rw [e1] at k
      (try dsimp only at k)
      rw [if_pos rfl] at k
      exact k
    obtain ⟨r1, r2⟩ := RF.gr (n' := n + 1) hG (by omega) (K := (fbS m M).2) (fun k hk => f2 k (by omega)) g2
    refine ⟨am_i (frS m M), (fbS m M).2, N', hrun, ?_, r1, r2⟩
    rw [hD', E_Md_frees_2, if_neg (by omega), g1, bI_some]
  · generalize fd (fun v => am_and (am_shr m v) 1 = 1 ∧ ¬ thS M v) (fun _ => inferInstance) 0 32 = z at e1 e2 hC hD
    (try dsimp only at hC hD)
    rw [if_neg (by omega)] at hC hD
    exact AG.same hG hC hD
theorem J_heaviest (d : Nat) {M : am_M} {n : Int} (hG : GR M n) : AG M (n + 1) (am_m am_P (d + 20) j_Tv_heaviest [am_r 5 0] M) (am_m am_P (d + 20) j_Md_heaviest [am_r 6 504]) := by
  have hX : am_m am_P (d + 20) j_Tv_heaviest [am_r 5 0] M = am_at am_P (d + 19) j_Tv_heaviest 0 [am_r 5 0, am_u, am_u, am_u, am_u] [] M := rfl
  have hY : ∀ N, am_m am_P (d + 20) j_Md_heaviest [am_r 6 504] N = am_at am_P (d + 19) j_Md_heaviest 0 [am_r 6 504, am_u, am_u, am_u] [] N := fun _ => rfl
  obtain ⟨A, c, hR, hJ, hP⟩ := hG.sr
  obtain ⟨u1, u2, u3⟩ := hJ.un
  have hbd := SP.bd hJ hP
  -- the class
  have hcl : ∀ (k i : Nat), i + k = 12 → ∀ (N : am_M) (s : Int × Int), (∀ q : Nat, q ≠ 503 → N q = M q) → ∃ N', (∀ q : Nat, q ≠ 503 → N' q = M q) ∧ am_at am_P (d + 19) j_Tv_heaviest 6 [am_r 5 0, am_i s.1, am_i s.2, am_i (i : Int), am_u] [] N = some (some (am_i (itS (fun v s => if thS M v ∧ s.2 < frS (am_shl 1 v) M then (v, frS (am_shl 1 v) M) else s) k i s).1), N') := by
    intro k
    induction k with
    | zero =>
      intro i hi N s hN
      refine ⟨N, hN, ?_⟩
      rw [E_Tv_heaviest_6, if_neg (by omega)]
      rfl
    | succ k ih =>
      intro i hi N s hN
      unfold itS
      have hth : thS N i ↔ thS M i := by unfold thS; rw [hN 7 (by decide)]
      rw [E_Tv_heaviest_6, if_pos (by omega)]
      simp only [Nat.reduceAdd]
      rw [S_St_isThere, bI_some, b2_iff hth, wr_id (z := (i : Int) + 1) (by omega) (by omega), show (i : Int) + 1 = ((i + 1 : Nat) : Int) by omega]
      by_cases hv : thS M i
      · obtain ⟨f1, f2⟩ := fb_sp (am_shl 1 i) (M := N) (fun x => by rw [hN 4 (by decide)]; exact hbd x)
        rw [fr_cells _ hN] at f1
        rw [b2_t hv, if_neg (by decide), S_Tv_freedBy (d + 12), bI_some, v_eq, f1]
        have hN2 : ∀ q : Nat, q ≠ 503 → (fbS (am_shl 1 i) N).2 q = M q := fun q hq => by rw [f2 q hq, hN q hq]
        by_cases hlt : s.2 < frS (am_shl 1 i) M
        · rw [if_pos hlt, if_pos ⟨hv, hlt⟩, v_eq, v_eq, v_eq]
          exact ih (i + 1) (by omega) _ (_, _) hN2
        · rw [if_neg hlt, if_neg (fun q => hlt q.2), v_eq]
          exact ih (i + 1) (by omega) _ s hN2
      · rw [b2_f hv, if_pos rfl, if_neg (fun q => hv q.1), v_eq]
        exact ih (i + 1) (by omega) N s hN
  obtain ⟨K, k1, k2⟩ := hcl 12 0 rfl M (-1, -1) (fun _ _ => rfl)
  obtain ⟨hGK, _⟩ := RF.gr (n' := n) hG (by omega) (K := K) (fun k hk => k1 k (by omega)) (RF_rfl _)
  obtain ⟨A', c', hR', hJ', hP'⟩ := hGK.sr
  obtain ⟨v1, v2, v3⟩ := hJ'.un
  have hthK : ∀ v, thS K v ↔ thS M v := fun v => by unfold thS; rw [k1 7 (by decide)]
  have hrf : ∀ (k i : Nat), i + k = 12 → ∀ (N : am_M) (s : Int × Int), RF K N → ∃ N', RF K N' ∧ am_at am_P (d + 19) j_Md_heaviest 6 [am_r 6 504, am_i s.1, am_i s.2, am_i (i : Int)] [] N = some (some (am_i (itS (fun v s => if thS M v ∧ s.2 < frS (am_shl 1 v) M then (v, frS (am_shl 1 v) M) else s) k i s).1), N') := by
    intro k
    induction k with
    | zero =>
      intro i hi N s hN
      refine ⟨N, hN, ?_⟩
      rw [E_Md_heaviest_6, if_neg (by omega)]
      rfl
    | succ k ih =>
      intro i hi N s hN
      unfold itS
      have hN5 : N 505 = wc A' (K 4) := (hN.1 505 (by omega)).trans hR'
      rw [E_Md_heaviest_6, if_pos (by omega), R_isVol (d + 17) v3 hN5, bI_some, b2_iff (hthK i), wr_id (z := (i : Int) + 1) (by omega) (by omega), show (i : Int) + 1 = ((i + 1 : Nat) : Int) by omega]
      by_cases hv : thS M i
      · have hm' : ∀ v : Int, 0 ≤ v → v < 12 → am_and (am_shr (am_shl 1 i) v) 1 = 1 → thS K v := fun v h1 h2 h3 => by
          have := shl_bit (v := (i : Int)) (by omega) ⟨h1, h2⟩ h3
          rw [this]; exact (hthK i).mpr hv
        obtain ⟨N1, g1, g2⟩ := fr_ref (d + 11) hR' hJ' hP' hm' hN
        obtain ⟨N2, g3, g4⟩ := fr_ref (d + 11) hR' hJ' hP' hm' g2
        rw [fr_cells _ k1] at g1 g3
        rw [b2_t hv, if_neg (by decide), g1, bI_some]
        by_cases hlt : s.2 < frS (am_shl 1 i) M
        · rw [if_pos hlt, if_pos ⟨hv, hlt⟩, v_eq, g3, bI_some, v_eq, v_eq]
          exact ih (i + 1) (by omega) N2 (_, _) g4
        · rw [if_neg hlt, if_neg (fun q => hlt q.2), v_eq]
          exact ih (i + 1) (by omega) N1 s g2
      · rw [b2_f hv, if_pos rfl, if_neg (fun q => hv q.1), v_eq]
        exact ih (i + 1) (by omega) N s hN
  obtain ⟨K2, k3, k4⟩ := hrf 12 0 rfl K (-1, -1) (RF_rfl K)
  obtain ⟨r1, r2⟩ := RF.gr (n' := n + 1) hG (by omega) (K := K) (fun k hk => k1 k (by omega)) k3
  refine ⟨am_i (itS (fun v s => if thS M v ∧ s.2 < frS (am_shl 1 v) M then (v, frS (am_shl 1 v) M) else s) 12 ((0 : Nat) : Int) ((-1 : Int), (-1 : Int))).1, K, K2, ?_, ?_, r1, r2⟩
  · rw [hX, E_Tv_heaviest_0, v_eq, v_eq, v_eq]
    exact k2
  · rw [hY, E_Md_heaviest_0, v_eq, v_eq, v_eq]
    exact k4
theorem J_of (d : Nat) {M : am_M} {n : Int} (hG : GR M n) (v w : Int) : AG M (n + 1) (am_m am_P (d + 20) j_Tv_of [am_r 5 0, am_i v, am_i w] M) (am_m am_P (d + 20) j_Md_of [am_r 6 504, am_i v, am_i w]) := by
  have hX : am_m am_P (d + 20) j_Tv_of [am_r 5 0, am_i v, am_i w] M = am_at am_P (d + 19) j_Tv_of 0 [am_r 5 0, am_i v, am_i w] [] M := rfl
  have hY : ∀ N, am_m am_P (d + 20) j_Md_of [am_r 6 504, am_i v, am_i w] N = am_at am_P (d + 19) j_Md_of 0 [am_r 6 504, am_i v, am_i w] [] N := fun _ => rfl
  obtain ⟨A, c, hR, hJ, hP⟩ := hG.sr
  obtain ⟨u1, u2, u3⟩ := hJ.un
  by_cases hv : thS M v
  rotate_left
  · refine AG.same hG (a := am_i (-1)) ?_ ?_
    · rw [hX, E_Tv_of_0]
      simp only [Nat.reduceAdd]
      rw [S_St_isThere, bI_some, b2_f hv, if_pos rfl]
    · rw [hY, E_Md_of_0, R_isVol (d + 17) u3 hR, bI_some, b2_f hv, if_pos rfl]
  have hvr : 0 ≤ v ∧ v < 12 := ⟨hv.1, hv.2.1⟩
  obtain ⟨q1, q2, q3, q4, q5, q6, q7, q8, q9, q10, q11⟩ := u3.vd hv
  have hs := (u3.2 v hv.1 hv.2.1).1
  have hC := hX
  rw [E_Tv_of_0] at hC
  simp only [Nat.reduceAdd] at hC
  rw [S_St_isThere, bI_some, b2_t hv, if_neg (by decide)] at hC
  have hD := fun (N : am_M) (h : N 505 = M 505) => hY N
  have hD : ∀ N : am_M, N 505 = wc A (M 4) → am_m am_P (d + 20) j_Md_of [am_r 6 504, am_i v, am_i w] N = _ := fun N hN => by
    rw [hY, E_Md_of_0, R_isVol (d + 17) u3 hN, bI_some, b2_t hv, if_neg (by decide)]
  have hg := fun (j : Int) (hj : 0 ≤ j ∧ j < 9) => R_got (d + 18) hvr hj hR
  by_cases w0 : w = 0
  · subst w0
    refine AG.same hG (a := am_i (M 7 v)) ?_ ?_
    · rw [hC, if_pos rfl, if_t hvr]
    · rw [hD M hR, if_pos rfl, hg 1 (by omega), bI_some, show 1796 + 9 * v + 1 = 1797 + 9 * v by omega, q1]
  by_cases w1 : w = 1
  · subst w1
    refine AG.same hG (a := am_i (M 8 v)) ?_ ?_
    · rw [hC, if_neg (by decide), if_pos rfl, if_t hvr]
    · rw [hD M hR, if_neg (by decide), if_pos rfl, hg 2 (by omega), bI_some, show 1796 + 9 * v + 2 = 1798 + 9 * v by omega, q2]
  by_cases w2 : w = 2
  · subst w2
    refine AG.same hG (a := am_i (M 9 v)) ?_ ?_
    · rw [hC, if_neg (by decide), if_neg (by decide), if_pos rfl, if_t hvr]
      rcases q9 with e | e
      · rw [if_pos e, e]
      · rw [if_neg (by omega), e]
    · rw [hD M hR, if_neg (by decide), if_neg (by decide), if_pos rfl, hg 3 (by omega), bI_some, show 1796 + 9 * v + 3 = 1799 + 9 * v by omega, q3]
  by_cases w3 : w = 3
  · subst w3
    refine AG.same hG (a := am_i (usS M v)) ?_ ?_
    · rw [hC, if_neg (by decide), if_neg (by decide), if_neg (by decide), if_pos rfl, S_St_usedOf (d + 13), bI_some]
    · rw [hD M hR, if_neg (by decide), if_neg (by decide), if_neg (by decide), if_pos rfl, A_used (d + 15) hR hJ hv, bI_some]
  by_cases w4 : w = 4
  · subst w4
    obtain ⟨y, hy⟩ : ∃ y : Nat, v = (y : Int) := ⟨v.toNat, by omega⟩
    subst hy
    have hr := u2 y (by omega)
    refine AG.same hG (a := am_i (decT (M 10 y))) ?_ ?_
    · rw [hC, if_neg (by decide), if_neg (by decide), if_neg (by decide), if_neg (by decide), if_pos rfl, if_t hvr, S_Tv_partNumber, bI_some]
      rcases hr.1 with e | ⟨e1, e2, _⟩
      · rw [e, if_neg (by omega)]; rfl
      · rw [if_pos ⟨e1, e2⟩, decT_part ⟨e1, e2⟩]
    · rw [hD M hR, if_neg (by decide), if_neg (by decide), if_neg (by decide), if_neg (by decide), if_pos rfl, hg 4 (by omega), bI_some, hr.2 hv.2.2]
  by_cases w5 : w = 5
  · subst w5
    obtain ⟨f1, f2⟩ := fb_sp (am_shl 1 v) (SP.bd hJ hP)
    obtain ⟨hGN, _⟩ := RF.gr (n' := n) hG (by omega) (K := (fbS (am_shl 1 v) M).2) (fun k hk => f2 k (by omega)) (RF_rfl _)
    obtain ⟨A', c', hR', hJ', hP'⟩ := hGN.sr
    have hm' : ∀ x : Int, 0 ≤ x → x < 12 → am_and (am_shr (am_shl 1 v) x) 1 = 1 → thS (fbS (am_shl 1 v) M).2 x := fun x h1 h2 h3 => by
      rw [shl_bit hvr ⟨h1, h2⟩ h3]
      unfold thS; rw [f2 7 (by decide)]; exact hv
    obtain ⟨N', g1, g2⟩ := fr_ref (d + 11) hR' hJ' hP' hm' (RF_rfl _)
    rw [fr_cells _ f2] at g1
    obtain ⟨r1, r2⟩ := RF.gr (n' := n + 1) hG (by omega) (K := (fbS (am_shl 1 v) M).2) (fun k hk => f2 k (by omega)) g2
    refine ⟨am_i (frS (am_shl 1 v) M), (fbS (am_shl 1 v) M).2, N', ?_, ?_, r1, r2⟩
    · rw [hC, if_neg (by decide), if_neg (by decide), if_neg (by decide), if_neg (by decide), if_neg (by decide), if_pos rfl, S_Tv_freedBy (d + 12), bI_some, f1]
    · rw [hD _ (by rw [f2 505 (by decide)]; exact hR), if_neg (by decide), if_neg (by decide), if_neg (by decide), if_neg (by decide), if_neg (by decide), if_pos rfl, g1, bI_some]
  by_cases w6 : w = 6
  · subst w6
    refine AG.same hG (a := am_i (M 11 v)) ?_ ?_
    · rw [hC, if_neg (by decide), if_neg (by decide), if_neg (by decide), if_neg (by decide), if_neg (by decide), if_neg (by decide), if_pos rfl, if_t hvr]
    · rw [hD M hR, if_neg (by decide), if_neg (by decide), if_neg (by decide), if_neg (by decide), if_neg (by decide), if_neg (by decide), if_pos rfl, hg 5 (by omega), bI_some, show 1796 + 9 * v + 5 = 1801 + 9 * v by omega, q4]
  by_cases w7 : w = 7
  · subst w7
    refine AG.same hG (a := am_i (M 12 v)) ?_ ?_
    · rw [hC, if_neg (by decide), if_neg (by decide), if_neg (by decide), if_neg (by decide), if_neg (by decide), if_neg (by decide), if_neg (by decide), if_pos rfl, if_t hvr]
    · rw [hD M hR, if_neg (by decide), if_neg (by decide), if_neg (by decide), if_neg (by decide), if_neg (by decide), if_neg (by decide), if_neg (by decide), if_pos rfl, hg 6 (by omega), bI_some, show 1796 + 9 * v + 6 = 1802 + 9 * v by omega, q5]
  by_cases w8 : w = 8
  · subst w8
    refine AG.same hG (a := am_i (M 13 v)) ?_ ?_
    · rw [hC, if_neg (by decide), if_neg (by decide), if_neg (by decide), if_neg (by decide), if_neg (by decide), if_neg (by decide), if_neg (by decide), if_neg (by decide), if_pos rfl, if_t hvr]
    · rw [hD M hR, if_neg (by decide), if_neg (by decide), if_neg (by decide), if_neg (by decide), if_neg (by decide), if_neg (by decide), if_neg (by decide), if_neg (by decide), if_pos rfl, hg 7 (by omega), bI_some, show 1796 + 9 * v + 7 = 1803 + 9 * v by omega, q6]
  by_cases w9 : w = 9
  · subst w9
    refine AG.same hG (a := am_i (M 14 v)) ?_ ?_
    · rw [hC, if_neg (by decide), if_neg (by decide), if_neg (by decide), if_neg (by decide), if_neg (by decide), if_neg (by decide), if_neg (by decide), if_neg (by decide), if_neg (by decide), if_pos rfl, if_t hvr]
    · rw [hD M hR, if_neg (by decide), if_neg (by decide), if_neg (by decide), if_neg (by decide), if_neg (by decide), if_neg (by decide), if_neg (by decide), if_neg (by decide), if_neg (by decide), if_pos rfl, hg 8 (by omega), bI_some, show 1796 + 9 * v + 8 = 1804 + 9 * v by omega, q7]
  by_cases w10 : w = 10
  · subst w10
    refine AG.same hG (a := am_i (naS M 12 v)) ?_ ?_
    · rw [hC, if_neg (by decide), if_neg (by decide), if_neg (by decide), if_neg (by decide), if_neg (by decide), if_neg (by decide), if_neg (by decide), if_neg (by decide), if_neg (by decide), if_neg (by decide), if_pos rfl, S_St_parentsAbove, bI_some]
    · rw [hD M hR, if_neg (by decide), if_neg (by decide), if_neg (by decide), if_neg (by decide), if_neg (by decide), if_neg (by decide), if_neg (by decide), if_neg (by decide), if_neg (by decide), if_neg (by decide), if_pos rfl, R_heightOf (d + 17) hR hJ hv, bI_some]
  by_cases w11 : w = 11
  · subst w11
    obtain ⟨N, hN1, hN2, hN3⟩ := S_Md_layRuns (d + 15) hR hJ hv (-1) (fun _ _ => True) trivial (fun _ _ _ _ _ _ => trivial)
    obtain ⟨r1, r2⟩ := RF.gr (n' := n + 1) hG (by omega) (fun k hk => rfl) (RF_LR hN2)
    have hrn : rnS M v 512 = rnS M v (M 7 v).toNat := by
      have := rn_eq M v (s := M 7 v) (by omega) (512 - M 7 v).toNat (fun e h1 h2 h3 => h3.1 (mp_sz hJ hv h1 (by omega)))
      rw [show M 7 v + ((512 - M 7 v).toNat : Int) = 512 by omega] at this
      exact this
    refine ⟨am_i (rnS M v (M 7 v).toNat), M, N, ?_, ?_, r1, r2⟩
    · rw [hC, if_neg (by decide), if_neg (by decide), if_neg (by decide), if_neg (by decide), if_neg (by decide), if_neg (by decide), if_neg (by decide), if_neg (by decide), if_neg (by decide), if_neg (by decide), if_neg (by decide), if_pos rfl, S_St_runsOf (d + 14) M hv hs.2.1, bI_some]
    · rw [hD M hR, if_neg (by decide), if_neg (by decide), if_neg (by decide), if_neg (by decide), if_neg (by decide), if_neg (by decide), if_neg (by decide), if_neg (by decide), if_neg (by decide), if_neg (by decide), if_neg (by decide), if_pos rfl, hN1, bI_some, hrn]
  · refine AG.same hG (a := am_i (-1)) ?_ ?_
    · rw [hC, if_neg w0, if_neg w1, if_neg w2, if_neg w3, if_neg w4, if_neg w5, if_neg w6, if_neg w7, if_neg w8, if_neg w9, if_neg w10, if_neg w11]
    · rw [hD M hR, if_neg w0, if_neg w1, if_neg w2, if_neg w3, if_neg w4, if_neg w5, if_neg w6, if_neg w7, if_neg w8, if_neg w9, if_neg w10, if_neg w11]
