/-! LINEAGE AND RUNS: nearest, how many above, run -/
def rkS (M : am_M) (o : Int) : Int := sm (fun w => if thS M w ∧ M 14 w ≤ M 14 o then 1 else 0) 12
theorem sm_mo {f f' : Int → Int} : ∀ (n : Nat), (∀ i : Nat, i < n → f i ≤ f' i) → sm f n ≤ sm f' n
  | 0, _ => by simp [sm]
  | n + 1, h => by
    have h1 := sm_mo n (fun i hi => h i (by omega))
    have h2 := h n (by omega)
    unfold sm
    omega
theorem sm_lt1 {f f' : Int → Int} : ∀ (n : Nat) (j : Nat), j < n → (∀ i : Nat, i < n → f i ≤ f' i) → f j < f' j → sm f n < sm f' n
  | 0, _, h, _, _ => by omega
  | n + 1, j, h, h1, h2 => by
    have h3 := h1 n (by omega)
    unfold sm
    by_cases hj : j = n
    · subst hj
      have := sm_mo j (fun i hi => h1 i (by omega))
      omega
    · have := sm_lt1 n j (by omega) (fun i hi => h1 i (by omega)) h2
      omega
theorem rk_bd (M : am_M) (o : Int) : 0 ≤ rkS M o ∧ rkS M o ≤ 12 := by
  have := sm_bd (f := fun w => if thS M w ∧ M 14 w ≤ M 14 o then 1 else 0) (c := 1) 12 (fun k _ => by (try dsimp only); split <;> omega)
  unfold rkS
  omega
theorem rk_pos {M : am_M} {o : Int} (ho : thS M o) : 1 ≤ rkS M o := by
  obtain ⟨w, hw⟩ : ∃ w : Nat, o = (w : Int) := ⟨o.toNat, by have := ho.1; omega⟩
  subst hw
  have := sm_ge (f := fun x => if thS M x ∧ M 14 x ≤ M 14 w then 1 else 0) 12 w (by have := ho.2.1; omega) (fun k _ => by (try dsimp only); split <;> omega)
  (try dsimp only at this)
  rw [if_pos ⟨ho, Int.le_refl _⟩] at this
  exact this
theorem rk_lt {M : am_M} {o p : Int} (ho : thS M o) (hb : M 14 p < M 14 o) : rkS M p < rkS M o := by
  obtain ⟨w, hw⟩ : ∃ w : Nat, o = (w : Int) := ⟨o.toNat, by have := ho.1; omega⟩
  subst hw
  refine sm_lt1 12 w (by have := ho.2.1; omega) (fun k _ => ?_) ?_
  · (try dsimp only)
    by_cases h : thS M k ∧ M 14 k ≤ M 14 p
    · rw [if_pos h, if_pos ⟨h.1, by have := h.2; omega⟩]; omega
    · rw [if_neg h]; split <;> omega
  · (try dsimp only)
    rw [if_neg (by rintro ⟨_, q⟩; omega), if_pos ⟨ho, Int.le_refl _⟩]; omega
theorem pr_up {M : am_M} {A c : Int → Int} {n : Int} (hJ : JX (am_st M 4 c) A n) {o : Int} (ho : thS M o) : M 13 o = -1 ∨ (thS M (M 13 o) ∧ rkS M (M 13 o) < rkS M o) := by
  obtain ⟨w, hw⟩ : ∃ w : Nat, o = (w : Int) := ⟨o.toNat, by have := ho.1; omega⟩
  subst hw
  have := hJ.1.pr.2 w (by have := ho.2.1; omega)
  simp only [st_ne M c (show (7 : Nat) ≠ 4 by decide), st_ne M c (show (13 : Nat) ≠ 4 by decide), st_ne M c (show (14 : Nat) ≠ 4 by decide), th_st] at this
  rcases (this ho.2.2).2 with h | ⟨h, h'⟩
  · exact Or.inl h
  · exact Or.inr ⟨h, rk_lt ho h'⟩
theorem th_m1 (M : am_M) : ¬ thS M (-1) := fun h => by have := h.1; omega
theorem sa_m1 (M : am_M) (v : Int) (k : Nat) : saS M v k (-1) = 0 := by
  cases k with
  | zero => rfl
  | succ k => unfold saS; rw [if_neg (th_m1 M)]
theorem R_parent (d : Nat) {M : am_M} {A c : Int → Int} {n : Int} (hR : M 505 = wc A (M 4)) (hJ : JX (am_st M 4 c) A n) {o : Int} (ho : thS M o) : am_m am_P (d + 1) j_Md_get [am_r 6 504, am_i o, am_i 7] M = some (some (am_i (M 13 o)), M) := by
  obtain ⟨u1, u2, u3⟩ := hJ.un
  rw [R_got d ⟨ho.1, ho.2.1⟩ (by omega) hR, show 1796 + 9 * o + 7 = 1803 + 9 * o by omega, (MV.vd u3 ho).2.2.2.2.2.1]
theorem R_above (d : Nat) {M : am_M} {A c : Int → Int} {n : Int} (hR : M 505 = wc A (M 4)) (hJ : JX (am_st M 4 c) A n) {v : Int} (hv : 0 ≤ v) : ∀ (k : Nat) (o : Int), (o = -1 ∨ (thS M o ∧ rkS M o ≤ k)) → am_at am_P (d + 1) j_Md_isAbove 2 [am_r 6 504, am_i v, am_u, am_i o] [] M = some (some (am_i (saS M v k o)), M)
  | 0, o, h => by
    rcases h with h | ⟨h, h'⟩
    · subst h
      rw [E_Md_isAbove_2, if_pos rfl, if_neg (by omega), if_t (by decide), sa_m1]
    · have := rk_pos h; omega
  | k + 1, o, h => by
    rcases h with h | ⟨h, h'⟩
    · subst h
      rw [E_Md_isAbove_2, if_pos rfl, if_neg (by omega), if_t (by decide), sa_m1]
    · have h0 := h.1
      rw [E_Md_isAbove_2, if_neg (by omega)]
      unfold saS
      rw [if_pos h]
      by_cases ho : o = v
      · rw [if_pos ho, if_pos ho, if_pos ho, if_t (by decide)]
      · rw [if_neg ho, if_neg ho, R_parent d hR hJ h, bI_some, v_eq]
        refine R_above d hR hJ hv k _ ?_
        rcases pr_up hJ h with q | ⟨q, q'⟩
        · exact Or.inl q
        · exact Or.inr ⟨q, by omega⟩
theorem R_isAbove (d : Nat) {M : am_M} {A c : Int → Int} {n : Int} (hR : M 505 = wc A (M 4)) (hJ : JX (am_st M 4 c) A n) {v o : Int} (hv : 0 ≤ v) (ho : thS M o) : am_m am_P (d + 2) j_Md_isAbove [am_r 6 504, am_i v, am_i o] M = some (some (am_i (saS M v 12 o)), M) := by
  show am_at am_P (d + 1) j_Md_isAbove 0 [am_r 6 504, am_i v, am_i o, am_u] [] M = _
  rw [E_Md_isAbove_0, v_eq]
  exact R_above d hR hJ hv 12 o (Or.inr ⟨ho, (rk_bd M o).2⟩)
def nrS (M : am_M) (q : Int) : Nat → Int → Int
  | 0, _ => -1
  | n + 1, o => if thS M o then (if saS M o 12 q = 0 then nrS M q n (M 13 o) else o) else -1
theorem nr_m1 (M : am_M) (q : Int) (k : Nat) : nrS M q k (-1) = -1 := by
  cases k with
  | zero => rfl
  | succ k => unfold nrS; rw [if_neg (th_m1 M)]
theorem nr_cls (d : Nat) (M : am_M) (q : Int) : ∀ (k : Nat), k ≤ 12 → ∀ o : Int, am_at am_P (d + 2) j_Tv_nearest 29 [am_r 5 0, am_u, am_i q, am_i o, am_i (12 - (k : Int))] [] M = some (some (am_i (nrS M q k o)), M)
  | 0, _, o => by rw [E_Tv_nearest_29, if_neg (by omega)]; rfl
  | k + 1, hk, o => by
    unfold nrS
    rw [E_Tv_nearest_29, if_pos (by omega)]
    simp only [Nat.reduceAdd]
    rw [S_St_isThere, bI_some]
    by_cases ho : thS M o
    · rw [if_neg (by rw [b2_t ho]; omega), if_pos ho, S_St_isSelfOrAbove, bI_some]
      by_cases h : saS M o 12 q = 0
      · rw [if_pos h, if_pos h, if_t (by have := ho.1; have := ho.2.1; omega), v_eq, v_eq, wr_id (by omega) (by omega), show (12 : Int) - ((k + 1 : Nat) : Int) + 1 = 12 - (k : Int) by omega]
        exact nr_cls d M q k (by omega) _
      · rw [if_neg h, if_neg h]
    · rw [if_pos (b2_f ho), if_neg ho]
theorem nr_ref (d : Nat) {M : am_M} {A c : Int → Int} {n : Int} (hR : M 505 = wc A (M 4)) (hJ : JX (am_st M 4 c) A n) {q : Int} (hq : thS M q) : ∀ (k : Nat) (o : Int), (o = -1 ∨ (thS M o ∧ rkS M o ≤ k)) → am_at am_P (d + 2) j_Md_nearest 13 [am_r 6 504, am_u, am_i q, am_i o] [] M = some (some (am_i (nrS M q k o)), M)
  | 0, o, h => by
    rcases h with h | ⟨h, h'⟩
    · subst h
      rw [E_Md_nearest_13, if_pos rfl, nr_m1]
    · have := rk_pos h; omega
  | k + 1, o, h => by
    rcases h with h | ⟨h, h'⟩
    · subst h
      rw [E_Md_nearest_13, if_pos rfl, nr_m1]
    · have h0 := h.1
      rw [E_Md_nearest_13, if_neg (by omega), R_isAbove d hR hJ h0 hq, bI_some]
      unfold nrS
      rw [if_pos h]
      by_cases ho : saS M o 12 q = 0
      · rw [if_pos ho, if_pos ho, R_parent (d + 1) hR hJ h, bI_some, v_eq]
        refine nr_ref d hR hJ hq k _ ?_
        rcases pr_up hJ h with q | ⟨q, q'⟩
        · exact Or.inl q
        · exact Or.inr ⟨q, by omega⟩
      · rw [if_neg ho, if_neg ho]
theorem R_areVols (d : Nat) {M : am_M} {A c : Int → Int} (hM : MV M A) {N : am_M} (hN : N 505 = wc A c) (v w : Int) : am_m am_P (d + 3) j_Md_areVolumes [am_r 6 504, am_i v, am_i w] N = some (some (am_i (b2 (thS M v ∧ thS M w))), N) := by
  show am_at am_P (d + 2) j_Md_areVolumes 0 [am_r 6 504, am_i v, am_i w] [] N = _
  rw [E_Md_areVolumes_0, R_isVol d hM hN, bI_some]
  by_cases hv : thS M v
  · rw [b2_t hv, if_neg (by decide), R_isVol d hM hN, bI_some]
    by_cases hw : thS M w
    · rw [b2_t hw, if_neg (by decide), if_t (by decide), b2_t ⟨hv, hw⟩]
    · rw [b2_f hw, if_pos rfl, if_t (by decide), b2_f (fun q => hw q.2)]
  · rw [b2_f hv, if_pos rfl, if_t (by decide), b2_f (fun q => hv q.1)]
theorem J_nearest (d : Nat) {M : am_M} {n : Int} (hG : GR M n) (v w : Int) : AG M (n + 1) (am_m am_P (d + 20) j_Tv_nearest [am_r 5 0, am_i v, am_i w] M) (am_m am_P (d + 20) j_Md_nearest [am_r 6 504, am_i v, am_i w]) := by
  have hX : am_m am_P (d + 20) j_Tv_nearest [am_r 5 0, am_i v, am_i w] M = am_at am_P (d + 19) j_Tv_nearest 0 [am_r 5 0, am_i v, am_i w, am_u, am_u] [] M := rfl
  have hY : am_m am_P (d + 20) j_Md_nearest [am_r 6 504, am_i v, am_i w] M = am_at am_P (d + 19) j_Md_nearest 0 [am_r 6 504, am_i v, am_i w, am_u] [] M := rfl
  obtain ⟨A, c, hR, hJ, hP⟩ := hG.sr
  obtain ⟨u1, u2, u3⟩ := hJ.un
  by_cases hvw : thS M v ∧ thS M w
  · refine AG.same hG (a := am_i (nrS M w 12 v)) ?_ ?_
    · rw [hX, E_Tv_nearest_0]
      simp only [Nat.reduceAdd]
      rw [S_St_isThere, bI_some, b2_t hvw.1, if_neg (by decide), S_St_isThere, bI_some, b2_t hvw.2, if_neg (by decide), v_eq, v_eq]
      exact nr_cls (d + 17) M w 12 (by omega) v
    · rw [hY, E_Md_nearest_0, R_areVols (d + 16) u3 hR, bI_some, b2_t hvw, if_neg (by decide), v_eq]
      exact nr_ref (d + 17) hR hJ hvw.2 12 v (Or.inr ⟨hvw.1, (rk_bd M v).2⟩)
  · refine AG.same hG (a := am_i (-1)) ?_ ?_
    · rw [hX, E_Tv_nearest_0]
      simp only [Nat.reduceAdd]
      rw [S_St_isThere, bI_some]
      by_cases hv : thS M v
      · rw [b2_t hv, if_neg (by decide), S_St_isThere, bI_some, b2_f (fun q => hvw ⟨hv, q⟩), if_pos rfl]
      · rw [b2_f hv, if_pos rfl]
    · rw [hY, E_Md_nearest_0, R_areVols (d + 16) u3 hR, bI_some, b2_f hvw, if_pos rfl]
theorem na_m1 (M : am_M) (k : Nat) : naS M k (-1) = 0 := by
  cases k with
  | zero => rfl
  | succ k => unfold naS; rw [if_neg (th_m1 M)]
theorem R_height10 (d : Nat) {M : am_M} {A c : Int → Int} {n : Int} (hR : M 505 = wc A (M 4)) (hJ : JX (am_st M 4 c) A n) : ∀ (k : Nat) (o s : Int), (o = -1 ∨ (thS M o ∧ rkS M o ≤ k)) → 0 ≤ s → s + k ≤ 100 → am_at am_P (d + 1) j_Md_heightOf 10 [am_r 6 504, am_u, am_i s, am_i o] [] M = some (some (am_i (s + (if thS M o then 1 else 0) + naS M k o)), M)
  | 0, o, s, h, h1, h2 => by
    rcases h with h | ⟨h, h'⟩
    · subst h
      rw [E_Md_heightOf_10, if_pos rfl, na_m1, if_neg (th_m1 M), Int.add_zero, Int.add_zero]
    · have := rk_pos h; omega
  | k + 1, o, s, h, h1, h2 => by
    rcases h with h | ⟨h, h'⟩
    · subst h
      rw [E_Md_heightOf_10, if_pos rfl, na_m1, if_neg (th_m1 M), Int.add_zero, Int.add_zero]
    · have h0 := h.1
      rw [E_Md_heightOf_10, if_neg (by omega), v_eq, R_parent d hR hJ h, bI_some, v_eq, wr_id (by omega) (by omega)]
      unfold naS
      rw [if_pos h, if_pos h, R_height10 d hR hJ k (M 13 o) (s + 1) ?_ (by omega) (by omega), Int.add_assoc (s + 1)]
      rcases pr_up hJ h with q | ⟨q, q'⟩
      · exact Or.inl q
      · exact Or.inr ⟨q, by omega⟩
theorem R_heightOf (d : Nat) {M : am_M} {A c : Int → Int} {n : Int} (hR : M 505 = wc A (M 4)) (hJ : JX (am_st M 4 c) A n) {o : Int} (ho : thS M o) : am_m am_P (d + 2) j_Md_heightOf [am_r 6 504, am_i o] M = some (some (am_i (naS M 12 o)), M) := by
  show am_at am_P (d + 1) j_Md_heightOf 0 [am_r 6 504, am_i o, am_u, am_u] [] M = _
  rw [E_Md_heightOf_0, v_eq, R_parent d hR hJ ho, bI_some, v_eq, R_height10 d hR hJ 11 (M 13 o) 0 ?_ (by omega) (by omega), Int.zero_add]
  · show _ = some (some (am_i (if thS M o then (if thS M (M 13 o) then 1 else 0) + naS M 11 (M 13 o) else 0)), M)
    rw [if_pos ho]
  · have := (rk_bd M o).2
    rcases pr_up hJ ho with q | ⟨q, q'⟩
    · exact Or.inl q
    · exact Or.inr ⟨q, by omega⟩
