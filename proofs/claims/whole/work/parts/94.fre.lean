/-! LET GO: a volume -/
theorem nz_up (c : Int → Int) {b : Nat} (hb : b < 96) (x : Int) : nz (am_up c b x) 96 = nz c 96 + ((if 0 < x then 1 else 0) - (if 0 < c b then 1 else 0)) := by
  unfold nz
  have := sm_one (f := fun b => if 0 < c b then 1 else 0) (f' := fun y => if 0 < am_up c b x y then 1 else 0) 96 b hb (fun i _ hi => by (try dsimp only); rw [up_ne _ _ (by omega)])
  (try dsimp only at this)
  rw [up_eq] at this
  exact this
theorem nz_upP (c : Int → Int) {t : Int} (ht : 96 ≤ t) (x : Int) : nz (am_up c t x) 96 = nz c 96 := by
  unfold nz
  exact sm_congr 96 (fun b hb => by (try dsimp only); rw [up_ne _ _ (by omega)])
/-- what is told as freed is how many blocks are fewer -/
theorem LGc_nz (pl : Int → Int) : ∀ (n : Nat) (c : Int → Int) (t : Int), (LGc pl n c t).1 + nz (LGc pl n c t).2 96 = nz c 96
  | 0, c, t => by show (0 : Int) + nz c 96 = nz c 96; omega
  | n + 1, c, t => by
    unfold LGc
    split
    · next ht =>
      have h1 : t < 96 → nz (am_up c t (c t - 1)) 96 = nz c 96 + ((if 0 < c t - 1 then 1 else 0) - (if 0 < c t then 1 else 0)) := fun h => by
        obtain ⟨b, hb⟩ : ∃ b : Nat, t = (b : Int) := ⟨t.toNat, by omega⟩
        subst hb
        exact nz_up c (by omega) _
      split
      · next h0 =>
        split
        · next hb =>
          have := h1 hb
          rw [if_neg (by omega), if_pos (by omega)] at this
          show (1 : Int) + nz (am_up c t (c t - 1)) 96 = nz c 96
          omega
        · next hb =>
          have e := nz_upP c (t := t) (by omega) (c t - 1)
          exact it_inv (σ := Int × (Int → Int)) (b := fun k s => (s.1 + (LGc pl n s.2 (atS pl t k)).1, (LGc pl n s.2 (atS pl t k)).2)) (fun _ s => s.1 + nz s.2 96 = nz c 96) 8 0 _ (by (try dsimp only); omega) (fun i s _ _ hs => by
            have := LGc_nz pl n s.2 (atS pl t i)
            (try dsimp only)
            omega)
      · next h0 =>
        show (0 : Int) + nz (am_up c t (c t - 1)) 96 = nz c 96
        by_cases hb : t < 96
        · have := h1 hb
          by_cases h2 : 0 < c t
          · rw [if_pos (by omega), if_pos h2] at this; omega
          · rw [if_neg (by omega), if_neg h2] at this; omega
        · rw [nz_upP c (by omega)]; omega
    · show (0 : Int) + nz c 96 = nz c 96; omega
theorem ch_sp (v : Int) (hv : 0 ≤ v ∧ v < 12) (M : am_M) (hp : M 13 v ≠ v) : (∀ k : Nat, k ≠ 13 → chS v M k = M k) ∧ ∀ w : Int, chS v M 13 w = if (0 ≤ w ∧ w < 12) ∧ 0 < M 7 w ∧ M 13 w = v then M 13 v else M 13 w := by
  have key := it_inv (σ := am_M) (b := fun w N => if 0 < N 7 w ∧ N 13 w = v then am_set N 13 w (N 13 v) else N) (fun i N => ∃ j : Nat, i = (j : Int) ∧ (∀ k : Nat, k ≠ 13 → N k = M k) ∧ ∀ w : Int, N 13 w = if (0 ≤ w ∧ w < j) ∧ 0 < M 7 w ∧ M 13 w = v then M 13 v else M 13 w) 12 0 M ⟨0, rfl, fun _ _ => rfl, fun w => by rw [if_neg (fun q => by have := q.1; omega)]⟩ (fun i N i1 i2 hN => by
    obtain ⟨j, rfl, h1, h2⟩ := hN
    have e13v : N 13 v = M 13 v := by
      rw [h2 v, if_neg (fun q => hp q.2.2)]
    have e13j : N 13 j = M 13 j := by rw [h2 j, if_neg (fun q => by have := q.1; omega)]
    have hnext : ∀ w : Int, w ≠ (j : Int) → ((if (0 ≤ w ∧ w < j) ∧ 0 < M 7 w ∧ M 13 w = v then M 13 v else M 13 w) = if (0 ≤ w ∧ w < ((j + 1 : Nat) : Int)) ∧ 0 < M 7 w ∧ M 13 w = v then M 13 v else M 13 w) := fun w hw => by
      by_cases h : (0 ≤ w ∧ w < j) ∧ 0 < M 7 w ∧ M 13 w = v
      · rw [if_pos h, if_pos ⟨by have := h.1; omega, h.2⟩]
      · rw [if_neg h, if_neg (fun q => h ⟨by have := q.1; omega, q.2⟩)]
    rw [h1 7 (by decide), e13j, e13v]
    by_cases h : 0 < M 7 j ∧ M 13 j = v
    · rw [if_pos h]
      refine ⟨j + 1, by omega, fun k hk => by rw [set_ne _ _ _ hk, h1 k hk], fun w => ?_⟩
      rw [set_eq]
      by_cases e : w = (j : Int)
      · rw [e, up_eq, if_pos ⟨by omega, h⟩]
      · rw [up_ne _ _ e, h2 w, hnext w e]
    · rw [if_neg h]
      refine ⟨j + 1, by omega, h1, fun w => ?_⟩
      rw [h2 w]
      by_cases e : w = (j : Int)
      · rw [e, if_neg (fun q => by have := q.1; omega), if_neg (fun q => h q.2)]
      · exact hnext w e)
  obtain ⟨j, hj, h1, h2⟩ := key
  have : j = 12 := by omega
  subst this
  exact ⟨h1, h2⟩
theorem rv_J {M : am_M} {A : Int → Int} {n : Int} (h : JX M A n) {v : Nat} (hv : thS M v) : ∃ A2 : Int → Int, JX (rvS M v).2 A2 n ∧ (∀ y : Int, (y < 2 ∨ 1904 ≤ y) → A2 y = A y) ∧ (∀ k : Nat, k ≠ 4 → k ≠ 7 → k ≠ 10 → k ≠ 13 → (rvS M v).2 k = M k) ∧ (rvS M v).1 = nz (M 4) 96 - nz ((rvS M v).2 4) 96 ∧ ∀ (d : Nat) (N : am_M), am_m am_P (d + 8) j_Md_freeNow [am_r 6 504, am_i v] (am_st N 505 (wc A (M 4))) = some (none, am_st N 505 (wc A2 ((rvS M v).2 4))) := by
  have hv12 : v < 12 := by have := hv.2.1; omega
  have hvr : 0 ≤ (v : Int) ∧ (v : Int) < 12 := by omega
  obtain ⟨pr1, pr2⟩ := h.1.pr
  have hpv := pr2 v hv12 hv.2.2
  have hpne : M 13 v ≠ (v : Int) := fun e => by
    rcases hpv.2 with q | ⟨_, q⟩
    · omega
    · rw [e] at q; omega
  have hLG := LG_c 4 (by decide) 4 (by omega) M (M 10 v) (fun x => by
    have e : (9 ^ 4 : Nat) = 6561 := by decide
    rw [e]
    have := h.1.pi.bd x
    omega)
  have key := fun d N => trunk_hang h.1.pi hv12 (x := -1) (Or.inl rfl) (h.1.rv v hv12).1 ((h.1.rv v hv12).2 hv.2.2) d N
  have hPI := (key 0 M).2
  have hrun := fun d N => (key d N).1
  rw [rs_m1, show decT (-1) = -1 from if_pos rfl] at hPI
  simp only [rs_m1, show decT (-1) = -1 from if_pos rfl] at hrun
  obtain ⟨L, hL⟩ : ∃ L, L = (LGc (M 6) 4 (M 4) (M 10 v)).2 := ⟨_, rfl⟩
  rw [← hL] at hPI
  simp only [← hL] at hrun
  have hnzL := LGc_nz (M 6) 4 (M 4) (M 10 v)
  rw [← hL] at hnzL
  have hp' : (am_st M 4 L) 13 v ≠ (v : Int) := by rw [st_ne _ _ (by decide)]; exact hpne
  obtain ⟨s1, s2⟩ := ch_sp v hvr (am_st M 4 L) hp'
  have hrv1 : (rvS M v).1 = (LGc (M 6) 4 (M 4) (M 10 v)).1 := by unfold rvS; rw [hLG]
  have hrv2 : (rvS M v).2 = am_set (am_set (chS v (am_st M 4 L)) 10 v (-1)) 7 v 0 := by unfold rvS; rw [hLG, hL]
  have m4 : (rvS M v).2 4 = L := by rw [hrv2, set_ne _ _ _ (by decide), set_ne _ _ _ (by decide), s1 4 (by decide), st_eq]
  have m7 : (rvS M v).2 7 = am_up (M 7) v 0 := by rw [hrv2, set_eq, set_ne _ _ _ (by decide), s1 7 (by decide), st_ne _ _ (by decide)]
  have m10 : (rvS M v).2 10 = am_up (M 10) v (-1) := by rw [hrv2, set_ne _ _ _ (by decide), set_eq, s1 10 (by decide), st_ne _ _ (by decide)]
  have m13 : ∀ w : Int, (rvS M v).2 13 w = if (0 ≤ w ∧ w < 12) ∧ 0 < M 7 w ∧ M 13 w = v then M 13 v else M 13 w := fun w => by
    rw [hrv2, set_ne _ _ _ (by decide), set_ne _ _ _ (by decide), s2 w, st_ne _ _ (by decide), st_ne _ _ (by decide)]
  have mo : ∀ k : Nat, k ≠ 4 → k ≠ 7 → k ≠ 10 → k ≠ 13 → (rvS M v).2 k = M k := fun k k4 k7 k10 k13 => by rw [hrv2, set_ne _ _ _ k7, set_ne _ _ _ k10, s1 k k13, st_ne _ _ k4]
  generalize (rvS M v).2 = M2 at m4 m7 m10 m13 mo
  -- the row
  obtain ⟨A2, hA2⟩ : ∃ A2 : Int → Int, A2 = fun y => if 1796 + 9 * (v : Int) ≤ y ∧ y < 1805 + 9 * (v : Int) then 0 else if 1796 ≤ y ∧ y < 1904 ∧ (y - 1796) % 9 = 7 ∧ 0 < M 7 ((y - 1796) / 9) ∧ M 13 ((y - 1796) / 9) = v then M 13 v else A y := ⟨_, rfl⟩
  have a_v : ∀ y : Int, 1796 + 9 * (v : Int) ≤ y → y < 1805 + 9 * (v : Int) → A2 y = 0 := fun y h1 h2 => by rw [hA2]; exact if_pos ⟨h1, h2⟩
  have a_p : ∀ w : Int, 0 ≤ w → w < 12 → w ≠ v → A2 (1803 + 9 * w) = if 0 < M 7 w ∧ M 13 w = v then M 13 v else A (1803 + 9 * w) := fun w h1 h2 h3 => by
    rw [hA2]
    (try dsimp only)
    rw [if_neg (by omega), show (1803 + 9 * w - 1796) / 9 = w by omega]
    by_cases hq : 0 < M 7 w ∧ M 13 w = v
    · rw [if_pos ⟨by omega, by omega, by omega, hq⟩, if_pos hq]
    · rw [if_neg (fun r => hq r.2.2.2), if_neg hq]
  have a_o : ∀ y : Int, ¬ (1796 + 9 * (v : Int) ≤ y ∧ y < 1805 + 9 * (v : Int)) → (y < 1796 ∨ 1904 ≤ y ∨ (y - 1796) % 9 ≠ 7) → A2 y = A y := fun y h1 h2 => by
    rw [hA2]
    (try dsimp only)
    rw [if_neg h1, if_neg (fun r => by have := r.2.2.1; omega)]
  have hth : ∀ z : Int, thS M2 z ↔ (thS M z ∧ z ≠ v) := fun z => by
    unfold thS
    rw [m7]
    by_cases e : z = v
    · rw [e, up_eq]; exact ⟨fun q => by omega, fun q => absurd rfl q.2⟩
    · rw [up_ne _ _ e]; exact ⟨fun q => ⟨q, e⟩, fun q => q.1⟩
  have hct : ∀ z : Int, z ≠ v → ∀ b, ct (M2 6) (M2 10) z b = ct (M 6) (M 10) z b := fun z hz b => by
    unfold ct
    rw [mo 6 (by decide) (by decide) (by decide) (by decide), m10, up_ne _ _ hz]
  have hus : ∀ z : Int, z ≠ v → usS M2 z = usS M z := fun z hz => by
    unfold usS
    by_cases ht : thS M z
    · rw [if_pos ht, if_pos ((hth z).mpr ⟨ht, hz⟩), mu_um, mu_um]
      exact sm_congr 512 (fun a _ => by (try dsimp only); rw [hct z hz])
    · rw [if_neg ht, if_neg (fun q => ht ((hth z).mp q).1)]
  have hz0 : ∀ x : Int, M 4 x = 0 → L x = 0 := fun x hx => by rw [hL]; exact LGc_z hx (by rw [← hL]; exact (hPI.bd x).1)
  refine ⟨A2, ⟨⟨?_, ?_, ?_, ?_, ?_, ?_⟩, ?_, ?_⟩, fun y hy => a_o y (by omega) (by omega), mo, ?_, ?_⟩
  · rw [m4, m10, mo 5 (by decide) (by decide) (by decide) (by decide), mo 6 (by decide) (by decide) (by decide) (by decide)]
    refine ⟨hPI.1, hPI.2.1, hPI.2.2.1, fun p hp h0 => ?_, hPI.2.2.2.2⟩
    obtain ⟨q1, q2⟩ := hPI.co p hp h0
    rw [up_ne _ _ (by omega)] at q1
    rw [a_o _ (by omega) (by omega)]
    refine ⟨q1, fun k hk => ?_⟩
    have := q2 k hk
    rw [up_ne _ _ (by omega)] at this
    rw [a_o _ (by omega) (by omega)]
    exact this
  · intro z hz
    obtain ⟨v1, v2⟩ := h.1.rv z hz
    rw [m10, mo 5 (by decide) (by decide) (by decide) (by decide), m7]
    by_cases e : z = v
    · subst e
      rw [up_eq, up_eq]
      exact ⟨Or.inl rfl, fun q => by omega⟩
    · rw [up_ne _ _ (by omega), up_ne _ _ (by omega), a_o _ (by omega) (by omega)]
      exact ⟨v1, v2⟩
  · exact RB_mono h.1.rb (mo 3 (by decide) (by decide) (by decide) (by decide)) (fun y _ hy => a_o y (by omega) (by omega)) (fun x _ _ hx => by rw [m4]; exact hz0 x hx)
  · obtain ⟨⟨t1, t2, t3⟩, t4⟩ := h.1.mv
    refine ⟨⟨by rw [a_o 2 (by omega) (by omega), mo 1 (by decide) (by decide) (by decide) (by decide)]; exact t1, by rw [a_o 3 (by omega) (by omega), mo 1 (by decide) (by decide) (by decide) (by decide)]; exact t2, by rw [mo 1 (by decide) (by decide) (by decide) (by decide)]; exact t3⟩, fun z z0 z12 => ?_⟩
    obtain ⟨⟨k1, k2, k3, k4⟩, k5⟩ := t4 z z0 z12
    by_cases e : z = v
    · subst e
      rw [m7, m10, up_eq, up_eq, a_v _ (by omega) (by omega)]
      exact ⟨⟨by omega, by omega, ⟨fun q => by omega, fun q => by omega⟩, fun _ => rfl⟩, fun q => by omega⟩
    · rw [m7, m10, up_ne _ _ e, up_ne _ _ e, a_o _ (by omega) (by omega)]
      refine ⟨⟨k1, k2, k3, k4⟩, fun h7 => ?_⟩
      obtain ⟨v1, v2, v3, v4, v5, v6, v7, v8, v9, v10, v11⟩ := k5 h7
      have e13 : A2 (1803 + 9 * z) = M2 13 z := by
        rw [a_p z z0 z12 e, m13 z]
        by_cases hq : 0 < M 7 z ∧ M 13 z = v
        · rw [if_pos hq, if_pos ⟨⟨z0, z12⟩, hq⟩]
        · rw [if_neg hq, if_neg (fun r => hq r.2)]; exact v6
      unfold VD
      rw [m7, up_ne _ _ e, mo 8 (by decide) (by decide) (by decide) (by decide), mo 9 (by decide) (by decide) (by decide) (by decide), mo 11 (by decide) (by decide) (by decide) (by decide), mo 12 (by decide) (by decide) (by decide) (by decide), mo 14 (by decide) (by decide) (by decide) (by decide)]
      exact ⟨(a_o _ (by omega) (by omega)).trans v1, (a_o _ (by omega) (by omega)).trans v2, (a_o _ (by omega) (by omega)).trans v3, (a_o _ (by omega) (by omega)).trans v4, (a_o _ (by omega) (by omega)).trans v5, e13, (a_o _ (by omega) (by omega)).trans v7, v8, v9, v10, v11⟩
  · refine ⟨by rw [mo 1 (by decide) (by decide) (by decide) (by decide)]; exact pr1, fun z hz h7 => ?_⟩
    obtain ⟨hzt, hzv⟩ := (hth z).mp ⟨by omega, by omega, h7⟩
    obtain ⟨q1, q2⟩ := pr2 z hz hzt.2.2
    rw [mo 1 (by decide) (by decide) (by decide) (by decide), mo 14 (by decide) (by decide) (by decide) (by decide), m13 z]
    refine ⟨q1, ?_⟩
    by_cases hq : (0 ≤ (z : Int) ∧ (z : Int) < 12) ∧ 0 < M 7 z ∧ M 13 z = v
    · rw [if_pos hq]
      rcases hpv.2 with e | ⟨e1, e2⟩
      · exact Or.inl e
      · refine Or.inr ⟨(hth _).mpr ⟨e1, hpne⟩, ?_⟩
        rcases q2 with e | ⟨_, e4⟩
        · have := hq.2.2; omega
        · rw [hq.2.2] at e4; omega
    · rw [if_neg hq]
      rcases q2 with e | ⟨e1, e2⟩
      · exact Or.inl e
      · exact Or.inr ⟨(hth _).mpr ⟨e1, fun e => hq ⟨by omega, hzt.2.2, e⟩⟩, e2⟩
  · intro z hz h7 a a1 a2
    obtain ⟨hzt, hzv⟩ := (hth z).mp ⟨by omega, by omega, h7⟩
    rw [m7, up_ne _ _ hzv] at h7 a1
    rw [hct z hzv]
    exact h.1.ci z hz h7 a a1 a2
  · intro z hz
    obtain ⟨hzt, hzv⟩ := (hth z).mp hz
    rw [hus z hzv, mo 8 (by decide) (by decide) (by decide) (by decide)]
    exact h.2.1 z hzt
  · have hle : ∀ k : Nat, k ≤ 12 → sm (hfS M2) k ≤ sm (hfS M) k := by
      intro k
      induction k with
      | zero => intro _; exact Int.le_refl _
      | succ k ih =>
        intro hk
        have h1 := ih (by omega)
        have h2 : hfS M2 k ≤ hfS M k := by
          by_cases e : k = v
          · subst e
            have : hfS M2 k = 0 := if_neg (fun q => ((hth k).mp q).2 rfl)
            rw [this]
            exact (hf_bd h.1.mv k).1
          · have hkv : (k : Int) ≠ v := by omega
            unfold hfS
            by_cases ht : thS M k
            · rw [if_pos ht, if_pos ((hth k).mpr ⟨ht, hkv⟩), hus k hkv, mo 11 (by decide) (by decide) (by decide) (by decide)]
              exact Int.le_refl _
            · rw [if_neg ht, if_neg (fun q => ht ((hth k).mp q).1)]
              exact Int.le_refl _
        show sm (hfS M2) k + hfS M2 k ≤ sm (hfS M) k + hfS M k
        omega
    have h0 := ((LGc_low (M 6) 4 (M 4) (M 10 v)).2).1
    have h3 := h.2.2
    have h4 := hle 12 (by omega)
    rw [m4]
    omega
  · rw [hrv1, m4]; omega
  · intro d N
    show am_at am_P (d + 7) j_Md_freeNow 0 [am_r 6 504, am_i (v : Int), am_u] [] (am_st N 505 (wc A (M 4))) = _
    rw [E_Md_freeNow_0, hrun (d + 1) N, bV_some, v_eq, m4]
    have hs : ∀ (B : Int → Int) (j x : Int), 1796 ≤ j → am_set (am_st N 505 (wc B L)) 505 j x = am_st N 505 (wc (am_up B j x) L) := fun B j x hj => by
      unfold am_set
      rw [st_eq, st_st, wc_upN _ _ (by omega) (by omega)]
    -- children
    have hch : ∀ (k i : Nat), i + k = 12 → ∀ B : Int → Int, (∀ w : Int, 0 ≤ w → w < 12 → B (1796 + 9 * w) = A (1796 + 9 * w)) → B (1803 + 9 * (v : Int)) = M 13 v → (∀ w : Int, 0 ≤ w → w < i → w ≠ v → B (1803 + 9 * w) = A2 (1803 + 9 * w)) → (∀ w : Int, i ≤ w → w < 12 → B (1803 + 9 * w) = A (1803 + 9 * w)) → (∀ y : Int, ¬ (1796 + 9 * (v : Int) ≤ y ∧ y < 1805 + 9 * (v : Int)) → (y < 1796 ∨ 1904 ≤ y ∨ (y - 1796) % 9 ≠ 7) → B y = A y) → ∃ B' : Int → Int, am_at am_P (d + 7) j_Md_freeNow 8 [am_r 6 504, am_i (v : Int), am_i (i : Int)] [] (am_st N 505 (wc B L)) = am_at am_P (d + 7) j_Md_freeNow 55 [am_r 6 504, am_i (v : Int), am_i 0] [] (am_st N 505 (wc B' L)) ∧ (∀ w : Int, 0 ≤ w → w < 12 → w ≠ v → B' (1803 + 9 * w) = A2 (1803 + 9 * w)) ∧ (∀ y : Int, ¬ (1796 + 9 * (v : Int) ≤ y ∧ y < 1805 + 9 * (v : Int)) → (y < 1796 ∨ 1904 ≤ y ∨ (y - 1796) % 9 ≠ 7) → B' y = A y) := by
      intro k
      induction k with
      | zero =>
        intro i hi B g1 g2 g3 g4 g5
        refine ⟨B, ?_, fun w w1 w2 w3 => g3 w w1 (by omega) w3, g5⟩
        rw [E_Md_freeNow_8, if_neg (by omega), v_eq]
      | succ k ih =>
        intro i hi B g1 g2 g3 g4 g5
        have hir : 0 ≤ (i : Int) ∧ (i : Int) < 12 := by omega
        have hvol : thR (wc B L) i ↔ thS M i := by
          unfold thR thS
          rw [wc_o _ _ (by omega), g1 i hir.1 hir.2]
          have := (h.1.mv.2 i hir.1 hir.2).1.2.2.1
          exact ⟨fun q => ⟨q.1, q.2.1, this.mp q.2.2⟩, fun q => ⟨q.1, q.2.1, this.mpr q.2.2⟩⟩
        have hA13 : thS M i → A (1803 + 9 * (i : Int)) = M 13 i := fun q => (h.1.mv.vd q).2.2.2.2.2.1
        rw [E_Md_freeNow_8, if_pos hir.2, S_Md_isVolume (d + 5), bI_some, st_eq, b2_iff hvol]
        by_cases ht : thS M i
        · rw [b2_t ht, if_neg (by decide), R_get (d + 6) hir (by omega), bI_some, show 1796 + 9 * (i : Int) + 7 = 1803 + 9 * i by omega, g4 i (by omega) hir.2, hA13 ht]
          by_cases h13 : M 13 i = v
          · have hiv : (i : Int) ≠ v := fun e => hpne (by rw [← e]; rw [← e] at h13; exact h13)
            rw [if_pos h13, R_get (d + 6) hvr (by omega), bI_some, show 1796 + 9 * (v : Int) + 7 = 1803 + 9 * v by omega, g2, S_Md_let (d + 6) hir (by omega), bV_some, hs _ _ _ (by omega), v_eq, wr_id (by omega) (by omega), show 1796 + 9 * (i : Int) + 7 = 1803 + 9 * i by omega, show (i : Int) + 1 = ((i + 1 : Nat) : Int) by omega]
            refine ih (i + 1) (by omega) _ (fun w w1 w2 => by rw [up_ne _ _ (by omega)]; exact g1 w w1 w2) (by rw [up_ne _ _ (by omega)]; exact g2) (fun w w1 w2 w3 => ?_) (fun w w1 w2 => by rw [up_ne _ _ (by omega)]; exact g4 w (by omega) w2) (fun y y1 y2 => by rw [up_ne _ _ (by omega)]; exact g5 y y1 y2)
            by_cases e : w = (i : Int)
            · rw [e, up_eq, a_p i hir.1 hir.2 hiv, if_pos ⟨ht.2.2, h13⟩]
            · rw [up_ne _ _ (by omega)]; exact g3 w w1 (by omega) w3
          · rw [if_neg h13, v_eq, wr_id (by omega) (by omega), show (i : Int) + 1 = ((i + 1 : Nat) : Int) by omega]
            refine ih (i + 1) (by omega) B g1 g2 (fun w w1 w2 w3 => ?_) (fun w w1 w2 => g4 w (by omega) w2) g5
            by_cases e : w = (i : Int)
            · rw [e, g4 i (by omega) hir.2, a_p i hir.1 hir.2 (by omega), if_neg (fun q => h13 q.2)]
            · exact g3 w w1 (by omega) w3
        · rw [b2_f ht, if_pos rfl, v_eq, wr_id (by omega) (by omega), show (i : Int) + 1 = ((i + 1 : Nat) : Int) by omega]
          refine ih (i + 1) (by omega) B g1 g2 (fun w w1 w2 w3 => ?_) (fun w w1 w2 => g4 w (by omega) w2) g5
          by_cases e : w = (i : Int)
          · rw [e, g4 i (by omega) hir.2, a_p i hir.1 hir.2 (by omega), if_neg (fun q => ht ⟨hir.1, hir.2, q.1⟩)]
          · exact g3 w w1 (by omega) w3
    obtain ⟨B', r1, r2, r3⟩ := hch 12 0 (by omega) (am_up A (1796 + 9 * (v : Int) + 4) (-1)) (fun w w1 w2 => up_ne _ _ (by omega)) (by rw [up_ne _ _ (by omega)]; exact (h.1.mv.vd hv).2.2.2.2.2.1) (fun w w1 w2 => by omega) (fun w w1 w2 => up_ne _ _ (by omega)) (fun y y1 y2 => up_ne _ _ (by omega))
    rw [show ((0 : Nat) : Int) = 0 from rfl] at r1
    rw [r1]
    -- the row of the volume
    have hcl : ∀ (k i : Nat), i + k = 9 → ∀ B : Int → Int, (∀ y : Int, ¬ (1796 + 9 * (v : Int) ≤ y ∧ y < 1805 + 9 * (v : Int)) → B y = B' y) → (∀ j : Int, 0 ≤ j → j < i → B (1796 + 9 * (v : Int) + j) = 0) → ∃ B2 : Int → Int, am_at am_P (d + 7) j_Md_freeNow 55 [am_r 6 504, am_i (v : Int), am_i (i : Int)] [] (am_st N 505 (wc B L)) = some (none, am_st N 505 (wc B2 L)) ∧ (∀ y : Int, ¬ (1796 + 9 * (v : Int) ≤ y ∧ y < 1805 + 9 * (v : Int)) → B2 y = B' y) ∧ (∀ j : Int, 0 ≤ j → j < 9 → B2 (1796 + 9 * (v : Int) + j) = 0) := by
      intro k
      induction k with
      | zero =>
        intro i hi B g1 g2
        refine ⟨B, ?_, g1, fun j j1 j2 => g2 j j1 (by omega)⟩
        rw [E_Md_freeNow_55, if_neg (by omega)]
      | succ k ih =>
        intro i hi B g1 g2
        rw [E_Md_freeNow_55, if_pos (by omega), S_Md_let (d + 6) hvr (by omega), bV_some, hs _ _ _ (by omega), v_eq, wr_id (by omega) (by omega), show (i : Int) + 1 = ((i + 1 : Nat) : Int) by omega]
        refine ih (i + 1) (by omega) _ (fun y hy => by rw [up_ne _ _ (by omega)]; exact g1 y hy) (fun j j1 j2 => ?_)
        by_cases e : j = (i : Int)
        · rw [e, up_eq]
        · rw [up_ne _ _ (by omega)]; exact g2 j j1 (by omega)
    obtain ⟨B2, q1, q2, q3⟩ := hcl 9 0 (by omega) B' (fun _ _ => rfl) (fun j j1 j2 => by omega)
    rw [show ((0 : Nat) : Int) = 0 from rfl] at q1
    rw [q1]
    have : B2 = A2 := by
      funext y
      by_cases hy : 1796 + 9 * (v : Int) ≤ y ∧ y < 1805 + 9 * (v : Int)
      · have := q3 (y - (1796 + 9 * (v : Int))) (by omega) (by omega)
        rw [show 1796 + 9 * (v : Int) + (y - (1796 + 9 * (v : Int))) = y by omega] at this
        rw [this, a_v y hy.1 hy.2]
      · rw [q2 y hy]
        by_cases hy2 : y < 1796 ∨ 1904 ≤ y ∨ (y - 1796) % 9 ≠ 7
        · rw [r3 y hy hy2, a_o y hy hy2]
        · obtain ⟨w, hw⟩ : ∃ w : Int, y = 1803 + 9 * w := ⟨(y - 1796) / 9, by omega⟩
          subst hw
          exact r2 w (by omega) (by omega) (by omega)
    rw [this]
