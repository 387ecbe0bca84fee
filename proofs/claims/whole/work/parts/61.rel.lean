/-! THE VOLUMES, both sides; how many are mapped; what must be so behind a change -/
def VD (M : am_M) (A : Int → Int) (v : Int) : Prop := A (1797 + 9 * v) = M 7 v ∧ A (1798 + 9 * v) = M 8 v ∧ A (1799 + 9 * v) = M 9 v ∧ A (1801 + 9 * v) = M 11 v ∧ A (1802 + 9 * v) = M 12 v ∧ A (1803 + 9 * v) = M 13 v ∧ A (1804 + 9 * v) = M 14 v ∧ (0 ≤ M 8 v ∧ M 8 v ≤ 512) ∧ (M 9 v = 0 ∨ M 9 v = 1) ∧ (0 ≤ M 11 v ∧ M 11 v ≤ 96) ∧ (0 ≤ M 12 v ∧ M 12 v ≤ 9)
def MV (M : am_M) (A : Int → Int) : Prop := (A 2 = M 1 9 ∧ A 3 = M 1 10 ∧ (M 1 9 = 0 ∨ M 1 9 = 1)) ∧ ∀ v : Int, 0 ≤ v → v < 12 → (0 ≤ M 7 v ∧ M 7 v ≤ 512 ∧ (A (1796 + 9 * v) = 1 ↔ 0 < M 7 v) ∧ (M 7 v = 0 → M 10 v = -1)) ∧ (0 < M 7 v → VD M A v)
theorem MV.th {M : am_M} {A : Int → Int} (h : MV M A) (c : Int → Int) (v : Int) : thR (wc A c) v ↔ thS M v := by
  unfold thR thS
  constructor
  · rintro ⟨a, b, e⟩
    rw [wc_o _ _ (by omega)] at e
    exact ⟨a, b, (h.2 v a b).1.2.2.1.mp e⟩
  · rintro ⟨a, b, e⟩
    rw [wc_o _ _ (by omega)]
    exact ⟨a, b, (h.2 v a b).1.2.2.1.mpr e⟩
theorem MV.vd {M : am_M} {A : Int → Int} (h : MV M A) {v : Int} (hv : thS M v) : VD M A v := (h.2 v hv.1 hv.2.1).2 hv.2.2
theorem b2_iff {p q : Prop} [Decidable p] [Decidable q] (h : p ↔ q) : b2 p = b2 q := by
  unfold b2
  by_cases hp : p
  · rw [if_pos hp, if_pos (h.mp hp)]
  · rw [if_neg hp, if_neg (fun r => hp (h.mpr r))]
theorem R_isVolume (d : Nat) {M : am_M} {A : Int → Int} (h : MV M A) (v : Int) (c : Int → Int) (N : am_M) : am_m am_P (d + 2) j_Md_isVolume [am_r 6 504, am_i v] (am_st N 505 (wc A c)) = some (some (am_i (b2 (thS M v))), am_st N 505 (wc A c)) := by
  rw [S_Md_isVolume, st_eq, b2_iff (h.th c v)]
theorem R_get (d : Nat) {v w : Int} (hv : 0 ≤ v ∧ v < 12) (hw : 0 ≤ w ∧ w < 9) (A c : Int → Int) (N : am_M) : am_m am_P (d + 1) j_Md_get [am_r 6 504, am_i v, am_i w] (am_st N 505 (wc A c)) = some (some (am_i (A (1796 + 9 * v + w))), am_st N 505 (wc A c)) := by
  rw [S_Md_get d hv hw, st_eq, wc_o _ _ (by omega)]
theorem sm_add (f : Int → Int) (m : Nat) : ∀ n : Nat, sm f (m + n) = sm f m + sm (fun k => f ((m : Int) + k)) n
  | 0 => by show sm f m = sm f m + 0; omega
  | n + 1 => by
    have e : sm f (m + (n + 1)) = sm f (m + n) + f ((m + n : Nat) : Int) := rfl
    have e2 : sm (fun k => f ((m : Int) + k)) (n + 1) = sm (fun k => f ((m : Int) + k)) n + f ((m : Int) + (n : Int)) := rfl
    rw [e, e2, sm_add f m n, show ((m + n : Nat) : Int) = (m : Int) + n by omega]
    omega
theorem sm_8 (f : Int → Int) : ∀ n : Nat, sm f (8 * n) = sm (fun i => sm (fun k => f (8 * i + k)) 8) n
  | 0 => rfl
  | n + 1 => by
    have e : sm (fun i => sm (fun k => f (8 * i + k)) 8) (n + 1) = sm (fun i => sm (fun k => f (8 * i + k)) 8) n + sm (fun k => f (8 * (n : Int) + k)) 8 := rfl
    rw [e, show 8 * (n + 1) = 8 * n + 8 by omega, sm_add, sm_8 f n, show ((8 * n : Nat) : Int) = 8 * (n : Int) by omega]
theorem mu_0 (pl : Int → Int) (t : Int) : mu pl 0 t = sm (fun k => if atS pl t k = -1 then 0 else 1) 8 := by
  unfold mu
  split
  · next e => rw [e]; exact (sm_zero 8 (fun i _ => by (try dsimp only); rw [at_m1, if_pos rfl])).symm
  · rfl
theorem mu_m1 (pl : Int → Int) : ∀ n : Nat, mu pl n (-1) = 0
  | 0 => if_pos rfl
  | n + 1 => if_pos rfl
theorem mu_s (pl : Int → Int) (n : Nat) (t : Int) : mu pl (n + 1) t = sm (fun k => mu pl n (atS pl t k)) 8 := by
  conv => lhs; unfold mu
  split
  · next e => rw [e]; exact (sm_zero 8 (fun i _ => by (try dsimp only); rw [at_m1, mu_m1])).symm
  · rfl
/-- what is mapped, as a sum over the addresses -/
theorem mu_um (pl tr : Int → Int) (v : Int) : mu pl 2 (tr v) = sm (fun a => if ct pl tr v a = -1 then 0 else 1) 512 := by
  have e1 := sm_8 (fun a => if ct pl tr v a = -1 then 0 else 1) 64
  have e2 := sm_8 (fun i => sm (fun k => (fun a => if ct pl tr v a = -1 then 0 else 1) (8 * i + k)) 8) 8
  rw [show 8 * 64 = 512 from rfl] at e1
  rw [show 8 * 8 = 64 from rfl] at e2
  rw [e1, e2, mu_s]
  refine sm_congr 8 (fun i hi => ?_)
  (try dsimp only)
  rw [mu_s]
  refine sm_congr 8 (fun j hj => ?_)
  (try dsimp only)
  rw [mu_0]
  refine sm_congr 8 (fun k hk => ?_)
  (try dsimp only)
  unfold ct
  rw [plc_0 (by omega) (by omega), plc_1 (by omega) (by omega), plc_2 (by omega) (by omega)]
  rw [show (8 * (8 * (i : Int) + j) + k) % 8 = k by omega, show (8 * (8 * (i : Int) + j) + k) / 8 % 8 = j by omega, show (8 * (8 * (i : Int) + j) + k) / 64 % 8 = i by omega]
theorem us_um {M : am_M} {v : Int} (hv : thS M v) : usS M v = umS M v := by
  unfold usS umS
  rw [if_pos hv, mu_um]
  exact sm_congr 512 (fun a _ => by (try dsimp only); rw [blk_ct hv])
theorem nz_ref {M : am_M} (A : Int → Int) (hc : ∀ x, 0 ≤ M 4 x) : sm (fun b => if wc A (M 4) (5 + 2 * b) = 0 then 0 else 1) 96 = nz (M 4) 96 := by
  unfold nz
  refine sm_congr 96 (fun b hb => ?_)
  (try dsimp only)
  have := hc b
  rw [wc_b _ _ (by omega), if_neg (show ¬ M 4 b < 0 by omega)]
  by_cases h : M 4 b = 0
  · rw [if_pos h, if_neg (by omega)]
  · rw [if_neg h, if_pos (by omega)]
theorem hf_bd {M : am_M} {A : Int → Int} (h : MV M A) (v : Int) : 0 ≤ hfS M v ∧ hfS M v ≤ 96 := by
  unfold hfS
  split
  · next q =>
    obtain ⟨-, -, -, -, -, -, -, -, -, v1, -⟩ := h.vd q
    have := usS_bd M v
    split <;> omega
  · omega
theorem S_Md_reserves (d : Nat) {M : am_M} {A ex c' : Int → Int} (h : PI A (M 4) (M 5) (M 6) (M 10) ex) (hV : RV M A) (hM : MV M A) (N : am_M) : am_m am_P (d + 5) j_Md_reserves [am_r 6 504] (am_st N 505 (wc A c')) = some (some (am_i (sm (hfS M) 12)), am_st N 505 (wc A c')) := by
  show am_at am_P (d + 4) j_Md_reserves 0 [am_r 6 504, am_u, am_u, am_u] [] (am_st N 505 (wc A c')) = _
  rw [E_Md_reserves_0, v_eq, v_eq]
  refine lp_sum (F := fun s i => am_at am_P (d + 4) j_Md_reserves 4 [am_r 6 504, am_i s, am_i i, am_u] [] (am_st N 505 (wc A c'))) (f := hfS M) (n := 12) ?_ ?_
  · try dsimp only
    rw [E_Md_reserves_4, if_neg (by omega)]
  · intro i hi
    try dsimp only
    have hb := sm_bd (f := hfS M) (c := 96) i (fun k _ => hf_bd hM k)
    rw [E_Md_reserves_4, if_pos (by omega), R_isVolume (d + 2) hM, bI_some]
    generalize sm (hfS M) i = s at hb ⊢
    unfold hfS
    by_cases hv : thS M i
    · obtain ⟨-, -, -, v0, -, -, -, -, -, v1, -⟩ := hM.vd hv
      have hu := usS_bd M i
      rw [if_neg (by rw [b2_t hv]; omega), R_get (d + 3) (by omega) (by omega), bI_some, S_Md_usedOf d h hV hv, bI_some, ← us_um hv, show 1796 + 9 * (i : Int) + 5 = 1801 + 9 * i by omega, v0, v_eq, wr_id (by omega) (by omega), if_pos hv]
      by_cases h0 : M 11 i - usS M i < 0
      · rw [if_pos h0, if_neg (by omega), v_eq, v_eq, wr_id (by omega) (by omega), wr_id (by omega) (by omega)]
      · rw [if_neg h0]
        by_cases h1 : (0 : Int) < M 11 i - usS M i
        · rw [if_pos h1, v_eq, v_eq, wr_id (by omega) (by omega), wr_id (by omega) (by omega)]
        · rw [if_neg h1, v_eq, v_eq, wr_id (by omega) (by omega), wr_id (by omega) (by omega), show M 11 i - usS M i = 0 by omega]
    · rw [if_pos (b2_f hv), if_neg hv, v_eq, if_neg (by omega), v_eq, v_eq, wr_id (by omega) (by omega), wr_id (by omega) (by omega)]
theorem S_Md_isRight (d : Nat) {M : am_M} {A ex : Int → Int} (h : PI A (M 4) (M 5) (M 6) (M 10) ex) (hV : RV M A) (hM : MV M A) {v : Nat} (hv : thS M v) {N : am_M} (hN : N 504 2 = 0) : am_m am_P (d + 6) j_Md_isRight [am_r 6 504, am_i v] (am_st N 505 (wc A (M 4))) = some (some (am_i (b2 (usS M v ≤ M 8 v ∧ sm (hfS M) 12 ≤ 96 - nz (M 4) 96))), am_st N 505 (wc A (M 4))) := by
  show am_at am_P (d + 5) j_Md_isRight 0 [am_r 6 504, am_i v] [] (am_st N 505 (wc A (M 4))) = _
  have hb := sm_bd (f := hfS M) (c := 96) 12 (fun k _ => hf_bd hM k)
  have hn := nz_bd (M 4) 96
  have hv12 : v < 12 := by have := hv.2.1; omega
  obtain ⟨-, v0, -⟩ := hM.vd hv
  rw [E_Md_isRight_0, st_ne _ _ (by decide), if_pos hN, S_Md_usedOf (d + 1) h hV hv, bI_some, R_get (d + 4) (by omega) (by omega), bI_some, show 1796 + 9 * (v : Int) + 2 = 1798 + 9 * v by omega, v0, ← us_um hv]
  simp only [if_ot, if_to]
  by_cases h1 : M 8 v < usS M v
  · rw [if_pos h1, b2_f (fun q => by have := q.1; omega)]
  · rw [if_neg h1, S_Md_blocks (d + 3), bI_some, st_eq, nz_ref A (fun x => (h.bd x).1), S_Md_reserves d h hV hM, bI_some, wr_id (by omega) (by omega)]
    by_cases h2 : 96 - nz (M 4) 96 < sm (hfS M) 12
    · rw [if_pos h2, b2_f (fun q => by have := q.2; omega)]
    · rw [if_neg h2, b2_t ⟨by omega, by omega⟩]
theorem S_Md_isRight_s (d : Nat) (v : Int) {N : am_M} (hN : N 504 2 = 1) : am_m am_P (d + 1) j_Md_isRight [am_r 6 504, am_i v] N = some (some (am_i 0), N) := by
  show am_at am_P d j_Md_isRight 0 [am_r 6 504, am_i v] [] N = _
  rw [E_Md_isRight_0, if_neg (by omega)]
  simp only [if_ot, if_to]
