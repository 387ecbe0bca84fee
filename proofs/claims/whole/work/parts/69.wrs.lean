/-! what the reference's count of places comes to; what is wrong, both sides -/
def lyV (s : (Int → Int) × (Int → Int)) (t : Int) : Int := if t < 96 then s.1 t else s.2 (t - 96)
theorem ly0_v {x : Int} {s : (Int → Int) × (Int → Int)} {t : Int} (ht : TA t) (hb : 0 ≤ lyV s t ∧ lyV s t ≤ 100000) : lyV (ly0 x s) t = lyV s t + (if x = t then 1 else 0) := by
  have ht1 := ht.1
  unfold ly0
  by_cases h0 : x < 0
  · rw [if_pos h0, if_neg (by omega)]; omega
  · rw [if_neg h0]
    unfold lyV at hb ⊢
    by_cases h1 : x < 96
    · rw [if_pos h1]
      (try dsimp only)
      by_cases h2 : t < 96
      · rw [if_pos h2] at hb ⊢
        rw [if_pos h2]
        by_cases e : x = t
        · rw [if_pos e, e, up_eq, wr_id (by omega) (by omega)]
        · rw [if_neg e, up_ne _ _ (fun q => e q.symm)]; omega
      · rw [if_neg h2, if_neg h2, if_neg (by omega)]; omega
    · rw [if_neg h1]
      (try dsimp only)
      by_cases h2 : t < 96
      · rw [if_pos h2, if_pos h2, if_neg (by omega)]; omega
      · rw [if_neg h2] at hb ⊢
        rw [if_neg h2]
        by_cases e : x = t
        · rw [if_pos e, e, up_eq, wr_id (by omega) (by omega)]
        · rw [if_neg e, up_ne _ _ (fun q => e (by omega))]; omega
theorem ly1_v {pl : Int → Int} {p : Int} {s : (Int → Int) × (Int → Int)} {t : Int} (ht : TA t) (hb : 0 ≤ lyV s t ∧ lyV s t ≤ 90000) : lyV (ly1 pl p s) t = lyV s t + tmP pl p t := by
  have key := it_inv (σ := (Int → Int) × (Int → Int)) (b := fun k s => ly0 (pl (p * 8 + k)) s) (fun i s' => ∃ j : Nat, i = (j : Int) ∧ lyV s' t = lyV s t + sm (fun k => if pl (p * 8 + k) = t then 1 else 0) j) 8 0 s ⟨0, rfl, by show _ = _ + (0 : Int); omega⟩ (fun i s' i1 i2 hN => by
    obtain ⟨j, rfl, h2⟩ := hN
    have hs := sm_bd (f := fun k => if pl (p * 8 + k) = t then 1 else 0) (c := 1) j (fun k _ => by (try dsimp only); split <;> omega)
    refine ⟨j + 1, by omega, ?_⟩
    rw [ly0_v ht (by rw [h2]; omega), h2]
    show _ = lyV s t + (sm (fun k => if pl (p * 8 + k) = t then 1 else 0) j + if pl (p * 8 + (j : Int)) = t then 1 else 0)
    omega)
  obtain ⟨j, hj, h2⟩ := key
  obtain rfl : j = 8 := by omega
  exact h2
theorem lyS_v {c pl tr : Int → Int} {s : (Int → Int) × (Int → Int)} {t : Int} (ht : TA t) : lyV (lyS c pl tr s) t = rfP c pl t + rfT tr t := by
  have ht1 := ht.1
  have ht2 := ht.2
  unfold lyS
  have k1 := it_inv (σ := (Int → Int) × (Int → Int)) (b := fun b s => (am_up s.1 b 0, s.2)) (fun i s' => ∀ b : Int, 0 ≤ b → b < i → s'.1 b = 0) 96 0 s (fun b h1 h2 => by omega) (fun i s' i1 i2 hs b h1 h2 => by
    (try dsimp only)
    by_cases e : b = i
    · rw [e, up_eq]
    · rw [up_ne _ _ e]; exact hs b h1 (by omega))
  generalize itS (fun (b : Int) (s : (Int → Int) × (Int → Int)) => (am_up s.1 b 0, s.2)) 96 0 s = s1 at k1 ⊢
  have k2 := it_inv (σ := (Int → Int) × (Int → Int)) (b := fun b s => (s.1, am_up s.2 b 0)) (fun i s' => s'.1 = s1.1 ∧ ∀ b : Int, 0 ≤ b → b < i → s'.2 b = 0) 160 0 s1 ⟨rfl, fun b h1 h2 => by omega⟩ (fun i s' i1 i2 hs => ⟨hs.1, fun b h1 h2 => by
    (try dsimp only)
    by_cases e : b = i
    · rw [e, up_eq]
    · rw [up_ne _ _ e]; exact hs.2 b h1 (by omega)⟩)
  generalize itS (fun (b : Int) (s : (Int → Int) × (Int → Int)) => (s.1, am_up s.2 b 0)) 160 0 s1 = s2 at k2 ⊢
  have z : lyV s2 t = 0 := by
    unfold lyV
    split
    · rw [k2.1]; exact k1 t ht1 (by omega)
    · exact k2.2 _ (by omega) (by omega)
  have hb : ∀ j : Nat, 0 ≤ sm (fun p => if c (p + 96) = 0 then 0 else sm (fun k => if pl (p * 8 + k) = t then 1 else 0) 8) j ∧ sm (fun p => if c (p + 96) = 0 then 0 else sm (fun k => if pl (p * 8 + k) = t then 1 else 0) 8) j ≤ (8 * j : Nat) := fun j => sm_bd j (fun p _ => by
    have h1 := tmP_le pl p t
    have h2 := tmP_nn pl p t
    unfold tmP at h1 h2
    (try dsimp only)
    split <;> omega)
  have k3 := it_inv (σ := (Int → Int) × (Int → Int)) (b := fun p s => if c (p + 96) = 0 then s else ly1 pl p s) (fun i s' => ∃ j : Nat, i = (j : Int) ∧ lyV s' t = sm (fun p => if c (p + 96) = 0 then 0 else sm (fun k => if pl (p * 8 + k) = t then 1 else 0) 8) j) 160 0 s2 ⟨0, rfl, z⟩ (fun i s' i1 i2 hN => by
    obtain ⟨j, rfl, h2⟩ := hN
    have hj := hb j
    refine ⟨j + 1, by omega, ?_⟩
    show _ = _ + (if c ((j : Int) + 96) = 0 then 0 else sm (fun k => if pl ((j : Int) * 8 + k) = t then 1 else 0) 8)
    by_cases h0 : c ((j : Int) + 96) = 0
    · rw [if_pos h0, if_pos h0, h2]; omega
    · rw [if_neg h0, if_neg h0, ly1_v ht (by rw [h2]; omega), h2]; rfl)
  generalize itS (fun p s => if c (p + 96) = 0 then s else ly1 pl p s) 160 0 s2 = s3 at k3 ⊢
  obtain ⟨j, hj, k3⟩ := k3
  obtain rfl : j = 160 := by omega
  have k3' : lyV s3 t = rfP c pl t := k3
  have k4 := it_inv (σ := (Int → Int) × (Int → Int)) (b := fun v s => ly0 (tr v) s) (fun i s' => ∃ j : Nat, i = (j : Int) ∧ lyV s' t = rfP c pl t + sm (fun v => if tr v = t then 1 else 0) j) 12 0 s3 ⟨0, rfl, by show _ = _ + (0 : Int); omega⟩ (fun i s' i1 i2 hN => by
    obtain ⟨j, rfl, h2⟩ := hN
    have hs := sm_bd (f := fun v => if tr v = t then 1 else 0) (c := 1) j (fun k _ => by (try dsimp only); split <;> omega)
    have := rfP_le c pl t
    have := rfP_nn c pl t
    refine ⟨j + 1, by omega, ?_⟩
    rw [ly0_v ht (by rw [h2]; omega), h2]
    show _ = rfP c pl t + (sm (fun v => if tr v = t then 1 else 0) j + if tr (j : Int) = t then 1 else 0)
    omega)
  obtain ⟨j, hj, k4⟩ := k4
  obtain rfl : j = 12 := by omega
  exact k4
/-- the first thing whose count is wrong -/
def wrS (M : am_M) (c : Int → Int) : Int := fd (fun b => ¬ M 4 b = c b) (fun _ => inferInstance) 0 96
theorem wr_m1 {M : am_M} {c : Int → Int} (h : ∀ x : Int, ¬ (0 ≤ x ∧ x < 96) → M 4 x = c x) : wrS M c = -1 ↔ M 4 = c := by
  unfold wrS
  rcases fd_spec (p := fun b => ¬ M 4 b = c b) (dp := fun _ => inferInstance) 96 0 with ⟨e1, e2⟩ | ⟨e1, e2, e3, _⟩
  · refine ⟨fun _ => ?_, fun _ => e1⟩
    funext t
    by_cases ht : 0 ≤ t ∧ t < 96
    · exact Classical.byContradiction (fun q => e2 t ht.1 (by omega) q)
    · exact h t ht
  · refine ⟨fun q => by omega, fun q => ?_⟩
    exact absurd (by rw [q]) e3
/-- places of the parts and blocks, behind the count -/
theorem SP.lay {M : am_M} {A : Int → Int} {n : Int} {c : Int → Int} (hJ : JX (am_st M 4 c) A n) {s : (Int → Int) × (Int → Int)} {t : Int} (ht : TA t) : lyV (lyS c (M 6) (M 10) s) t = c t := by
  have h := hJ.1.pi
  rw [st_eq, st_ne _ _ (by decide), st_ne _ _ (by decide), st_ne _ _ (by decide)] at h
  have := h.xc t ht
  (try dsimp only at this)
  rw [lyS_v ht]
  omega
/-- the state with the right counts, in its parts -/
theorem JX.un {M : am_M} {A : Int → Int} {n : Int} {c : Int → Int} (hJ : JX (am_st M 4 c) A n) : PI A c (M 5) (M 6) (M 10) (fun _ => 0) ∧ RV M A ∧ MV M A := by
  obtain ⟨h1, h2, _, h4, _⟩ := hJ.1
  rw [st_eq, st_ne _ _ (by decide), st_ne _ _ (by decide), st_ne _ _ (by decide)] at h1
  refine ⟨h1, fun v hv => ?_, ?_⟩
  · have := h2 v hv
    rw [st_ne _ _ (by decide), st_ne _ _ (by decide), st_ne _ _ (by decide)] at this
    exact this
  · unfold MV VD at h4 ⊢
    simp only [st_ne _ _ (show (1 : Nat) ≠ 4 by decide), st_ne _ _ (show (7 : Nat) ≠ 4 by decide), st_ne _ _ (show (8 : Nat) ≠ 4 by decide), st_ne _ _ (show (9 : Nat) ≠ 4 by decide), st_ne _ _ (show (10 : Nat) ≠ 4 by decide), st_ne _ _ (show (11 : Nat) ≠ 4 by decide), st_ne _ _ (show (12 : Nat) ≠ 4 by decide), st_ne _ _ (show (13 : Nat) ≠ 4 by decide), st_ne _ _ (show (14 : Nat) ≠ 4 by decide)] at h4
    exact h4
theorem S_Md_wrong (d : Nat) {M : am_M} {A : Int → Int} {n : Int} {c : Int → Int} (hJ : JX (am_st M 4 c) A n) (hP : SP M c) {N : am_M} (hN : N 505 = wc A (M 4)) : am_m am_P (d + 4) j_Md_wrong [am_r 6 504] N = some (some (am_i (wrS M c)), mem2 N (lyS c (M 6) (M 10) (N 508, N 509))) := by
  show am_at am_P (d + 3) j_Md_wrong 0 [am_r 6 504, am_u] [] N = _
  obtain ⟨u1, u2, u3⟩ := hJ.un
  have hl := fun t ht => SP.lay hJ (s := (N 508, N 509)) (t := t) ht
  rw [E_Md_wrong_0, S_Md_layPlaces d u1 u2 u3 (fun t ht => hP.1 t (by omega)) hN, bV_some, v_eq]
  generalize lyS c (M 6) (M 10) (N 508, N 509) = s at hl ⊢
  unfold wrS
  refine lp_fd (F := fun i => am_at am_P (d + 3) j_Md_wrong 6 [am_r 6 504, am_i i] [] (mem2 N s)) (r := fun i => some (some (am_i i), mem2 N s)) ?_ ?_
  · try dsimp only
    rw [E_Md_wrong_6, if_neg (by omega), v_eq]
    have key := lp_it (σ := Unit) (F := fun i _ => am_at am_P (d + 3) j_Md_wrong 30 [am_r 6 504, am_i i] [] (mem2 N s)) (b := fun _ u => u) (r := fun _ => some (some (am_i (-1)), mem2 N s)) 160 0 () (fun _ => by
      try dsimp only
      rw [E_Md_wrong_30, if_neg (by omega)]) (fun i _ h1 h2 => by
      try dsimp only
      have e : am_m am_P (d + 3) j_Md_isWrongPart [am_r 6 504, am_i i] (mem2 N s) = some (some (am_i 0), mem2 N s) := by
        show am_at am_P (d + 2) j_Md_isWrongPart 0 [am_r 6 504, am_i i] [] (mem2 N s) = _
        have hi : 0 ≤ i ∧ i < 160 := by omega
        have hcnt : mem2 N s 505 (197 + 10 * i) = c (i + 96) := by rw [mem2_o _ _ (by decide) (by decide), hN, wc_p _ _ hi, hP.1 _ (by omega)]
        rw [E_Md_isWrongPart_0, S_Md_partCount (d + 1) hi, bI_some, hcnt]
        simp only [if_ot, if_to]
        by_cases h0 : c (i + 96) = 0
        · rw [if_pos h0]
        · have := hl (i + 96) ⟨by omega, by omega⟩
          unfold lyV at this
          rw [if_neg (by omega), show i + 96 - 96 = i by omega] at this
          rw [if_neg h0, S_Md_partCount (d + 1) hi, bI_some, hcnt, if_t hi]
          simp only [Nat.reduceAdd]
          rw [mem2_9, this, if_pos rfl]
      rw [E_Md_wrong_30, if_pos (by omega), e, bI_some, if_pos rfl, v_eq, wr_id (by omega) (by omega)])
    exact key
  · intro i h1 h2
    try dsimp only
    have hi : 0 ≤ i ∧ i < 96 := by omega
    obtain ⟨p1, p2, p3⟩ := hP.2.1 i hi.1 hi.2
    have hcnt : mem2 N s 505 (5 + 2 * i) = M 4 i := by rw [mem2_o _ _ (by decide) (by decide), hN, wc_b _ _ hi, if_neg (by omega)]
    have hpl := hl i ⟨hi.1, by omega⟩
    unfold lyV at hpl
    rw [if_pos hi.2] at hpl
    have e : am_m am_P (d + 3) j_Md_isWrongBlock [am_r 6 504, am_i i] (mem2 N s) = some (some (am_i (b2 (¬ M 4 i = c i))), mem2 N s) := by
      show am_at am_P (d + 2) j_Md_isWrongBlock 0 [am_r 6 504, am_i i] [] (mem2 N s) = _
      rw [E_Md_isWrongBlock_0, S_Md_blockCount (d + 1) hi, bI_some, hcnt]
      simp only [if_ot, if_to]
      by_cases h0 : M 4 i = 0
      · rw [if_pos h0, b2_f (fun q => q (by rw [h0, p3.mp h0]))]
      · rw [if_neg h0, S_Md_blockCount (d + 1) hi, bI_some, hcnt, if_t hi]
        simp only [Nat.reduceAdd]
        rw [mem2_8, hpl]
        by_cases h3 : M 4 i = c i
        · rw [if_pos h3, b2_f (fun q => q h3)]
        · rw [if_neg h3, b2_t h3]
    rw [E_Md_wrong_6, if_pos (by omega), e, bI_some]
    simp only [b2_0]
    by_cases h3 : M 4 i = c i
    · rw [if_pos (fun q => q h3), if_neg (fun q => q h3), v_eq, wr_id (by omega) (by omega)]
    · rw [if_neg (fun q => q h3), if_pos h3]
