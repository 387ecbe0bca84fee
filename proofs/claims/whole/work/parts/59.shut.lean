/-! SHUT: class and reference -/
def SH (A ex : Int → Int) (M : am_M) (v : Int) (N M' : am_M) (X : Option am_O) : Prop :=
  ∃ A' : Int → Int, X = some (none, am_st N 505 (wc A' (M' 4))) ∧ PI A' (M' 4) (M' 5) (M' 6) (M' 10) ex ∧ RV M' A' ∧ (∀ k : Nat, k ≠ 4 → k ≠ 6 → k ≠ 10 → M' k = M k) ∧ (∀ w : Int, w ≠ v → M' 10 w = M 10 w) ∧ (∀ y : Int, (y < 196 ∨ 1796 ≤ y) → y ≠ 1796 + 9 * v + 4 → A' y = A y) ∧ (∀ x : Int, M 4 x = 0 → M' 4 x = 0) ∧ (∀ w : Nat, w < 12 → ∀ b : Int, ct (M' 6) (M' 10) w b = ct (M 6) (M 10) w b)
theorem thg_ok {M : am_M} {A ex : Int → Int} (hV : RV M A) (h : PI A (M 4) (M 5) (M 6) (M 10) ex) {v : Nat} (hv : thS M v) (a : Int) {l : Int} (hl : 1 ≤ l ∧ l ≤ 3) : thgS M v a l = -1 ∨ (96 ≤ thgS M v a l ∧ thgS M v a l < 256 ∧ M 4 (thgS M v a l) ≠ 0 ∧ M 5 (thgS M v a l - 96) = l - 1) := by
  have hv12 : v < 12 := by have := hv.2.1; omega
  rcases (show l = 1 ∨ l = 2 ∨ l = 3 by omega) with rfl | rfl | rfl
  · rw [thg_1 hv]; exact lf_ok hV h hv12 a
  · rw [thg_2 hv]; exact tw_ok hV h hv12 a
  · rw [thg_3 hv]; exact hV.tr h hv12
theorem thg_at {M : am_M} {v : Int} (hv : thS M v) (a : Int) {l : Int} (hl : 0 ≤ l ∧ l ≤ 2) : thgS M v a l = atS (M 6) (thgS M v a (l + 1)) (plc a l) := by
  rcases (show l = 0 ∨ l = 1 ∨ l = 2 by omega) with rfl | rfl | rfl
  · rw [show (0 : Int) + 1 = 1 from rfl, thg_0 hv, thg_1 hv]; rfl
  · rw [show (1 : Int) + 1 = 2 from rfl, thg_1 hv, thg_2 hv]; rfl
  · rw [show (2 : Int) + 1 = 3 from rfl, thg_2 hv, thg_3 hv]; rfl
theorem fl_pos (M : am_M) {p : Nat} (hp : p < 160) : 0 < flS M ((p : Int) + 96) ↔ ∃ k : Nat, k < 8 ∧ M 6 ((p : Int) * 8 + k) ≠ -1 := by
  have ea : ∀ k : Nat, k < 8 → atS (M 6) ((p : Int) + 96) k = M 6 ((p : Int) * 8 + k) := fun k hk => by rw [at_in ⟨by omega, by omega⟩ ⟨by omega, by omega⟩, show (p : Int) + 96 - 96 = p by omega]
  constructor
  · intro h
    apply Classical.byContradiction
    intro hn
    have : flS M ((p : Int) + 96) = 0 := sm_zero 8 (fun k hk => by
      (try dsimp only)
      rw [ea k hk, if_pos (Classical.byContradiction (fun q => hn ⟨k, hk, q⟩))])
    omega
  · rintro ⟨k, hk, q⟩
    have := sm_ge (f := fun k => if atS (M 6) ((p : Int) + 96) k = -1 then 0 else 1) 8 k hk (fun i _ => by (try dsimp only); split <;> omega)
    (try dsimp only at this)
    rw [ea k hk, if_neg q] at this
    exact this
theorem emp_at {M : am_M} {p : Nat} (hp : p < 160) (h : ¬ ∃ k : Nat, k < 8 ∧ M 6 ((p : Int) * 8 + k) ≠ -1) (i : Int) : atS (M 6) ((p : Int) + 96) i = -1 := by
  by_cases hi : 0 ≤ i ∧ i < 8
  · rw [at_in ⟨by omega, by omega⟩ hi, show (p : Int) + 96 - 96 = p by omega]
    exact Classical.byContradiction (fun q => h ⟨i.toNat, by omega, by rw [Int.toNat_of_nonneg hi.1]; exact q⟩)
  · exact at_out hi
theorem shut_lv (d : Nat) {ex : Int → Int} {v : Nat} {a : Int} (ha : 0 ≤ a ∧ a < 512) (N : am_M) : ∀ (n : Nat), n ≤ 3 → ∀ (M : am_M) (A : Int → Int), PI A (M 4) (M 5) (M 6) (M 10) ex → RV M A → thS M v →
    SH A ex M v N (shS v a n M) (am_at am_P (d + 6) j_Md_shut 2 [am_r 6 504, am_i v, am_i a, am_i (3 - (n : Int)), am_u, am_u] [] (am_st N 505 (wc A (M 4))))
  | 0, _, M, A, h, hV, hv => by
    rw [E_Md_shut_2, if_pos (by omega)]
    exact ⟨A, rfl, h, hV, fun _ _ _ _ => rfl, fun _ _ => rfl, fun _ _ _ => rfl, fun _ h => h, fun _ _ _ => rfl⟩
  | n + 1, hn, M, A, h, hV, hv => by
    have ih := shut_lv d (ex := ex) (v := v) ha N n (by omega)
    have hv12 : v < 12 := by have := hv.2.1; omega
    have same : SH A ex M v N M (some (none, am_st N 505 (wc A (M 4)))) := ⟨A, rfl, h, hV, fun _ _ _ _ => rfl, fun _ _ => rfl, fun _ _ _ => rfl, fun _ h => h, fun _ _ _ => rfl⟩
    have e1 : (3 : Int) - ((n + 1 : Nat) : Int) + 1 = 3 - n := by omega
    rw [E_Md_shut_2, if_neg (by omega), S_Md_partAt (d + 4) h hV hv ha (by omega), bI_some, v_eq, e1]
    unfold shS
    rcases thg_ok hV h hv a (l := 3 - (n : Int)) (by omega) with e | ⟨t1, t2, t3, t4⟩
    · rw [e, show decT (-1) = -1 from if_pos rfl, if_pos rfl, if_pos (Or.inl rfl)]
      exact same
    · obtain ⟨t, ht⟩ : ∃ t : Nat, thgS M v a (3 - (n : Int)) = (t : Int) + 96 := ⟨(thgS M v a (3 - (n : Int)) - 96).toNat, by omega⟩
      have ht160 : t < 160 := by omega
      rw [decT_part ⟨t1, t2⟩, if_neg (show ¬ thgS M v a (3 - (n : Int)) - 96 = -1 by omega), show thgS M v a (3 - (n : Int)) - 96 = (t : Int) by omega, S_Md_isEmpty (d + 4) h ht160 (by rw [← ht]; exact t3), bI_some, ht]
      by_cases hf : ∃ k : Nat, k < 8 ∧ M 6 ((t : Int) * 8 + k) ≠ -1
      · rw [if_pos hf, if_pos rfl, if_pos (Or.inr ((fl_pos M ht160).mpr hf))]
        exact same
      · rw [if_neg hf, if_neg (show ¬ (1 : Int) = 0 by decide), if_neg (fun q => q.elim (fun q => by omega) (fun q => hf ((fl_pos M ht160).mp q)))]
        have hemp := emp_at ht160 hf
        by_cases h0 : n = 0
        · subst h0
          rw [if_pos rfl, if_pos (by omega)]
          have hT : M 10 v = (t : Int) + 96 := by rw [← thg_3 hv a]; exact ht
          obtain ⟨g1, g2⟩ := trunk_hang h hv12 (x := -1) (Or.inl rfl) (hV v hv12).1 ((hV v hv12).2 hv.2.2) d N
          rw [show decT (-1) = -1 from if_pos rfl] at g1 g2
          have hp := hgTS_pure M hv (-1) (fun y => by have := h.bd y; omega)
          have e4 : hgTS M v (-1) 4 = (LGc (M 6) 4 (rs (M 4) (-1)) (M 10 v)).2 := by rw [hp, st_eq]
          have e10 : hgTS M v (-1) 10 = am_up (M 10) v (-1) := by rw [hp, st_ne _ _ (by decide), st_eq]
          have eo : ∀ k : Nat, k ≠ 4 → k ≠ 10 → hgTS M v (-1) k = M k := fun k h4 h10 => by rw [hp, st_ne _ _ h4, st_ne _ _ h10]
          rw [g1, bV_some]
          have hs0 : shS v a 0 (hgTS M v (-1)) = hgTS M v (-1) := rfl
          rw [hs0]
          generalize hgTS M v (-1) = M' at e4 e10 eo ⊢
          refine ⟨am_up A (1796 + 9 * (v : Int) + 4) (-1), by rw [e4], ?_, ?_, fun k h4 _ h10 => eo k h4 h10, ?_, ?_, ?_, ?_⟩
          · rw [e4, e10, eo 5 (by decide) (by decide), eo 6 (by decide) (by decide)]; exact g2
          · intro w hw
            obtain ⟨v1, v2⟩ := hV w hw
            rw [e10, eo 5 (by decide) (by decide), eo 7 (by decide) (by decide)]
            by_cases ew : w = v
            · subst ew
              rw [up_eq, up_eq]
              exact ⟨Or.inl rfl, fun _ => rfl⟩
            · rw [up_ne _ _ (by omega), up_ne _ _ (by omega)]
              exact ⟨v1, v2⟩
          · intro w hw; rw [e10, up_ne _ _ hw]
          · intro y _ hy; rw [up_ne _ _ hy]
          · intro x hx; rw [e4] ; rw [rs_m1] at g2 ⊢; exact LGc_z hx (g2.bd x).1
          · intro w hw b
            rw [e10, eo 6 (by decide) (by decide)]
            by_cases ew : w = v
            · subst ew
              unfold ct
              rw [up_eq, hT, hemp, at_m1, at_m1, at_m1]
            · unfold ct
              rw [up_ne _ _ (by omega)]
        · have hat := thg_at hv a (l := 3 - (n : Int)) (by omega)
          rw [show (3 : Int) - n + 1 = 4 - n by omega] at hat
          rw [if_neg h0, if_neg (by omega), wr_id (by omega) (by omega), S_Md_partAt (d + 4) h hV hv ha (by omega), bI_some, v_eq, show (3 : Int) - n + 1 = 4 - n by omega, S_Md_stepIn (d + 5) ha (by omega), bI_some]
          rcases thg_ok hV h hv a (l := 4 - (n : Int)) (by omega) with e | ⟨u1, u2, u3, u4⟩
          · rw [e, at_m1] at hat; omega
          · have h8 := plc_8 a (3 - (n : Int))
            obtain ⟨p, hp⟩ : ∃ p : Nat, thgS M v a (4 - (n : Int)) = (p : Int) + 96 := ⟨(thgS M v a (4 - (n : Int)) - 96).toNat, by omega⟩
            obtain ⟨k, hk⟩ : ∃ k : Nat, plc a (3 - (n : Int)) = (k : Int) := ⟨(plc a (3 - (n : Int))).toNat, by omega⟩
            have hp160 : p < 160 := by omega
            have hk8 : k < 8 := by omega
            have hu : M 4 ((p : Int) + 96) ≠ 0 := by rw [← hp]; exact u3
            have hkd : M 5 p = 3 - n := by rw [show thgS M v a (4 - (n : Int)) - 96 = (p : Int) by omega] at u4; omega
            have hwas : M 6 ((p : Int) * 8 + k) = (t : Int) + 96 := by
              rw [hk, hp, at_in ⟨by omega, by omega⟩ ⟨by omega, by omega⟩, show (p : Int) + 96 - 96 = p by omega] at hat
              rw [← hat]; exact ht
            obtain ⟨g1, g2, g3⟩ := empty_hang h hp160 hk8 hu
            rw [hwas] at g1 g2 g3
            rw [hp, hk, show decT ((p : Int) + 96) = (p : Int) by rw [decT_part ⟨by omega, by omega⟩]; omega, S_Md_letPlace (d + 5) (by omega) (by omega), bV_some]
            unfold am_set
            rw [st_eq, st_st, wc_upN _ _ (by omega) (by omega), S_Md_letGoPart d ht160 g2, bV_some, v_eq]
            have e4 : hangS M ((p : Int) + 96) k (-1) 4 = (LGc (am_up (M 6) ((p : Int) * 8 + k) (-1)) 4 (M 4) ((t : Int) + 96)).2 := by rw [g1, st_eq]
            have e6 : hangS M ((p : Int) + 96) k (-1) 6 = am_up (M 6) ((p : Int) * 8 + k) (-1) := by rw [g1, st_ne _ _ (by decide), st_eq]
            have eo : ∀ r : Nat, r ≠ 4 → r ≠ 6 → hangS M ((p : Int) + 96) k (-1) r = M r := fun r h4 h6 => by rw [g1, st_ne _ _ h4, st_ne _ _ h6]
            have ecm := fun (w : Nat) (hw : w < 12) (b : Int) => emp_ct hV h (p := p) (k := k) hk8 (by omega) (by rw [hwas]; exact hemp) hw b
            rw [← e4]
            generalize hangS M ((p : Int) + 96) k (-1) = M' at e4 e6 eo ⊢
            rw [← e6] at ecm
            have hz : ∀ x : Int, M 4 x = 0 → M' 4 x = 0 := fun x hx => by rw [e4]; exact LGc_z hx (g3.bd x).1
            obtain ⟨A', r1, r2, r3, r4, r5, r6, r7, r8⟩ := ih M' (am_up A (198 + 10 * (p : Int) + k) (-1)) (by
              rw [e4, e6, eo 5 (by decide) (by decide), eo 10 (by decide) (by decide)]; exact g3) (by
              intro w hw
              obtain ⟨v1, v2⟩ := hV w hw
              rw [eo 10 (by decide) (by decide), eo 5 (by decide) (by decide), eo 7 (by decide) (by decide), up_ne _ _ (by omega)]
              exact ⟨v1, v2⟩) ⟨hv.1, hv.2.1, by rw [eo 7 (by decide) (by decide)]; exact hv.2.2⟩
            refine ⟨A', r1, r2, r3, fun k h4 h6 h10 => by rw [r4 k h4 h6 h10, eo k h4 h6], fun w hw => by rw [r5 w hw, eo 10 (by decide) (by decide)], fun y hy hyv => by rw [r6 y hy hyv, up_ne _ _ (by omega)], fun x hx => r7 x (hz x hx), fun w hw b => ?_⟩
            rw [r8 w hw b, ← ecm w hw b, eo 10 (by decide) (by decide)]
theorem shut_both (d : Nat) {ex : Int → Int} {v : Nat} {a : Int} (ha : 0 ≤ a ∧ a < 512) (N : am_M) {M : am_M} {A : Int → Int} (h : PI A (M 4) (M 5) (M 6) (M 10) ex) (hV : RV M A) (hv : thS M v) :
    SH A ex M v N (shS v a 3 M) (am_m am_P (d + 7) j_Md_shut [am_r 6 504, am_i v, am_i a] (am_st N 505 (wc A (M 4)))) := by
  have hX : am_m am_P (d + 7) j_Md_shut [am_r 6 504, am_i v, am_i a] (am_st N 505 (wc A (M 4))) = am_at am_P (d + 6) j_Md_shut 0 [am_r 6 504, am_i v, am_i a, am_u, am_u, am_u] [] (am_st N 505 (wc A (M 4))) := rfl
  rw [hX, E_Md_shut_0, v_eq]
  exact shut_lv d ha N 3 (by omega) M A h hV hv
