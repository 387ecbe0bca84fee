/-! TOLD: differs, walked, changed; and send -/
theorem lp_rl {F : Int → am_M → Option am_O} {b : Int → am_M → am_M} {r : am_M → Option am_O} (R : Int → am_M → am_M → Prop) : ∀ (n : Nat) (a : Int) (M N : am_M), R a M N → (∀ N, F (a + n) N = r N) → (∀ (i : Int) (M N : am_M), a ≤ i → i < a + n → R i M N → ∃ N', F i N = F (i + 1) N' ∧ R (i + 1) (b i M) N') → ∃ N', F a N = r N' ∧ R (a + n) (itS b n a M) N'
  | 0, a, M, N, h0, hend, _ => ⟨N, by simpa using hend N, by simpa [itS] using h0⟩
  | n + 1, a, M, N, h0, hend, hstep => by
    obtain ⟨N1, h1, h2⟩ := hstep a M N (by omega) (by omega) h0
    have e : a + 1 + (n : Int) = a + ((n + 1 : Nat) : Int) := by omega
    obtain ⟨N2, h3, h4⟩ := lp_rl (F := F) (b := b) (r := r) R n (a + 1) (b a M) N1 h2 (fun N => by rw [e]; exact hend N) (fun i M N h3 h4 => hstep i M N (by omega) (by omega))
    rw [e] at h4
    exact ⟨N2, h1.trans h3, h4⟩
/-- the class's difference and the reference's as they are walked -/
def DR (M0 N0 M N : am_M) (x w : Int) : Prop := (∀ k : Nat, k ≠ 501 → k ≠ 502 → M k = M0 k) ∧ (∀ k : Nat, k ≠ 504 → k ≠ 512 → N k = N0 k) ∧ (∀ j : Int, j ≠ 9 → j ≠ 10 → N 504 j = N0 504 j) ∧ N 504 9 = M 501 1 ∧ (0 ≤ M 501 1 ∧ M 501 1 ≤ x) ∧ N 504 10 = M 501 2 ∧ (0 ≤ M 501 2 ∧ M 501 2 ≤ w) ∧ ∀ i : Int, 0 ≤ i → i < M 501 1 → N 512 i = M 502 i ∧ 0 ≤ M 502 i ∧ M 502 i < 512
theorem DR.mono {M0 N0 M N : am_M} {x w x' w' : Int} (h : DR M0 N0 M N x w) (hx : x ≤ x') (hw : w ≤ w') : DR M0 N0 M N x' w' := by
  obtain ⟨h1, h2, h3, h4, h5, h6, h7, h8⟩ := h
  exact ⟨h1, h2, h3, h4, ⟨h5.1, by omega⟩, h6, ⟨h7.1, by omega⟩, h8⟩
theorem DR.walk {M0 N0 M N : am_M} {x w : Int} (h : DR M0 N0 M N x w) (hw : w < 1000) : DR M0 N0 (am_set M 501 2 (am_wr (M 501 2 + 1))) (am_set N 504 10 (am_wr (N 504 10 + 1))) x (w + 1) := by
  obtain ⟨h1, h2, h3, h4, h5, h6, h7, h8⟩ := h
  have e1 : am_set M 501 2 (am_wr (M 501 2 + 1)) 501 1 = M 501 1 := by rw [set_eq, up_ne _ _ (by decide)]
  have e2 : am_set M 501 2 (am_wr (M 501 2 + 1)) 501 2 = M 501 2 + 1 := by rw [set_eq, up_eq, wr_id (by omega) (by omega)]
  refine ⟨fun k k1 k2 => by rw [set_ne _ _ _ k1]; exact h1 k k1 k2, fun k k1 k2 => by rw [set_ne _ _ _ k1]; exact h2 k k1 k2, fun j j1 j2 => by rw [set_eq, up_ne _ _ j2]; exact h3 j j1 j2, ?_, ?_, ?_, ?_, ?_⟩
  · rw [e1, set_eq, up_ne _ _ (by decide)]; exact h4
  · rw [e1]; exact h5
  · rw [e2, set_eq, up_eq, h6, wr_id (by omega) (by omega)]
  · rw [e2]; omega
  · rw [e1, set_ne _ _ _ (by decide), set_ne _ _ _ (by decide)]; exact h8
theorem DR.note {M0 N0 M N : am_M} {x w a : Int} (h : DR M0 N0 M N x w) (hx : x < 512) (ha : 0 ≤ a ∧ a < 512) : DR M0 N0 (ntS M a) (am_set (am_set N 512 (N 504 9) a) 504 9 (am_wr (am_set N 512 (N 504 9) a 504 9 + 1))) (x + 1) w := by
  obtain ⟨h1, h2, h3, h4, h5, h6, h7, h8⟩ := h
  unfold ntS
  rw [if_pos ⟨h5.1, by omega⟩]
  have e1 : am_set (am_set M 502 (M 501 1) a) 501 1 (am_wr (M 501 1 + 1)) 501 1 = M 501 1 + 1 := by rw [set_eq, up_eq, wr_id (by omega) (by omega)]
  have e2 : am_set (am_set M 502 (M 501 1) a) 501 1 (am_wr (M 501 1 + 1)) 501 2 = M 501 2 := by rw [set_eq, up_ne _ _ (by decide), set_ne _ _ _ (by decide)]
  have e3 : am_set (am_set M 502 (M 501 1) a) 501 1 (am_wr (M 501 1 + 1)) 502 = am_up (M 502) (M 501 1) a := by rw [set_ne _ _ _ (by decide), set_eq]
  refine ⟨fun k k1 k2 => by rw [set_ne _ _ _ k1, set_ne _ _ _ k2]; exact h1 k k1 k2, fun k k1 k2 => by rw [set_ne _ _ _ k1, set_ne _ _ _ k2]; exact h2 k k1 k2, fun j j1 j2 => by rw [set_eq, up_ne _ _ j1, set_ne _ _ _ (by decide)]; exact h3 j j1 j2, ?_, ?_, ?_, ?_, ?_⟩
  · rw [e1, set_eq, up_eq, set_ne _ _ _ (by decide), h4, wr_id (by omega) (by omega)]
  · rw [e1]; omega
  · rw [e2, set_eq, up_ne _ _ (by decide), set_ne _ _ _ (by decide)]; exact h6
  · rw [e2]; exact h7
  · rw [e1, e3, set_ne _ _ _ (by decide), set_eq, h4]
    intro i i1 i2
    by_cases hi : i = M 501 1
    · rw [hi, up_eq, up_eq]; exact ⟨rfl, ha⟩
    · rw [up_ne _ _ hi, up_ne _ _ hi]; exact h8 i i1 (by omega)
/-- a part of kind m that is used, or none -/
abbrev OKP (c kd : Int → Int) (m t : Int) : Prop := t = -1 ∨ (96 ≤ t ∧ t < 256 ∧ c t ≠ 0 ∧ kd (t - 96) = m)
theorem decT_inj {c kd : Int → Int} {m s t : Int} (hs : OKP c kd m s) (ht : OKP c kd m t) (h : decT s = decT t) : s = t := by
  unfold decT at h
  rcases hs with rfl | ⟨a, b, _⟩
  · rcases ht with rfl | ⟨a, b, _⟩
    · rfl
    · rw [if_pos rfl, if_neg (by omega)] at h; omega
  · rcases ht with rfl | ⟨a, b, _⟩
    · rw [if_pos rfl, if_neg (by omega)] at h; omega
    · rw [if_neg (by omega), if_neg (by omega)] at h; omega
theorem PI.okk {A c kd pl tr ex : Int → Int} (h : PI A c kd pl tr ex) {m t : Int} (hm : 1 ≤ m) (ht : OKP c kd m t) (k : Int) : OKP c kd (m - 1) (atS pl t k) := by
  rcases ht with rfl | ht
  · exact Or.inl (at_m1 _ _)
  · rcases h.kid ht k with e | ⟨e, _⟩ | ⟨_, e⟩
    · exact Or.inl e
    · omega
    · exact Or.inr e
theorem R_placeIn (d : Nat) {A c c' kd pl tr ex : Int → Int} (h : PI A c kd pl tr ex) {m t k : Int} (ht : OKP c kd m t) (hk : 0 ≤ k ∧ k < 8) {N : am_M} (hN : N 505 = wc A c') : am_m am_P (d + 2) j_Md_placeIn [am_r 6 504, am_i (decT t), am_i k] N = some (some (am_i (dec m (atS pl t k))), N) := by
  show am_at am_P (d + 1) j_Md_placeIn 0 [am_r 6 504, am_i (decT t), am_i k] [] N = _
  rw [E_Md_placeIn_0]
  rcases ht with rfl | ⟨h1, h2, h3, h4⟩
  · rw [if_pos (show decT (-1) = -1 from rfl), at_m1]; rfl
  · obtain ⟨p, hp⟩ : ∃ p : Nat, t = (p : Int) + 96 := ⟨(t - 96).toNat, by omega⟩
    obtain ⟨j, hj⟩ : ∃ j : Nat, k = (j : Int) := ⟨k.toNat, by omega⟩
    subst hp hj
    rw [decT_part ⟨h1, h2⟩, if_neg (by omega), S_Md_placeOf d (by omega) hk, bI_some, hN, wc_l _ _ (by omega) hk, at_in ⟨h1, h2⟩ hk, show (p : Int) + 96 - 96 = p by omega, (h.co p (by omega) h3).2 j (by omega)]
    rw [show (p : Int) + 96 - 96 = p by omega] at h4
    rw [h4]
theorem wk_s (n : Nat) (M : am_M) (s t a : Int) : wkS (n + 1) M s t a = if s = t then M else itS (fun k N => if n = 0 then (if atS (N 6) s k = atS (N 6) t k then N else ntS N (am_wr (a + am_shl k (am_wr (3 * (n : Int)))))) else wkS n N (atS (N 6) s k) (atS (N 6) t k) (am_wr (a + am_shl k (am_wr (3 * (n : Int)))))) 8 0 (am_set M 501 2 (am_wr (M 501 2 + 1))) := rfl
theorem dr_leaf (d : Nat) {A c c' kd pl tr ex : Int → Int} (h : PI A c kd pl tr ex) {M0 N0 : am_M} (h6 : M0 6 = pl) (hN : N0 505 = wc A c') {s t a : Int} (hs : OKP c kd 0 s) (ht : OKP c kd 0 t) (ha : 0 ≤ a ∧ a + 8 ≤ 512) {M N : am_M} {x w : Int} (hx : x + 8 ≤ 512) (hw : w < 1000) (hD : DR M0 N0 M N x w) : ∃ N', am_m am_P (d + 3) j_Md_walkLeaves [am_r 6 504, am_i (decT s), am_i (decT t), am_i a] N = some (none, N') ∧ DR M0 N0 (wkS 1 M s t a) N' (x + 8) (w + 1) := by
  show ∃ N', am_at am_P (d + 2) j_Md_walkLeaves 0 [am_r 6 504, am_i (decT s), am_i (decT t), am_i a, am_u] [] N = some (none, N') ∧ _
  rw [E_Md_walkLeaves_0, show wkS 1 M s t a = _ from wk_s 0 M s t a]
  by_cases hst : s = t
  · rw [if_pos (by rw [hst]), if_pos hst]
    exact ⟨N, rfl, hD.mono (by omega) (by omega)⟩
  · rw [if_neg (fun e => hst (decT_inj hs ht e)), if_neg hst, w_eq, v_eq]
    have hD1 := hD.walk hw
    generalize am_set M 501 2 (am_wr (M 501 2 + 1)) = M1 at hD1 ⊢
    generalize am_set N 504 10 (am_wr (N 504 10 + 1)) = N1 at hD1 ⊢
    refine lp_rl (F := fun k N => am_at am_P (d + 2) j_Md_walkLeaves 19 [am_r 6 504, am_i (decT s), am_i (decT t), am_i a, am_i k] [] N) (r := fun N => some (none, N)) (R := fun i M N => DR M0 N0 M N (x + i) (w + 1)) 8 0 M1 N1 (by rw [Int.add_zero]; exact hD1) (fun N => ?_) (fun k M2 N2 k1 k2 hD2 => ?_)
    · (try dsimp only)
      rw [E_Md_walkLeaves_19, if_neg (by omega)]
    · (try dsimp only at hD2)
      (try dsimp only)
      have hN2 : N2 505 = wc A c' := by rw [hD2.2.1 505 (by decide) (by decide)]; exact hN
      have hM2 : M2 6 = pl := by rw [hD2.1 6 (by decide) (by decide)]; exact h6
      obtain ⟨j, hj⟩ : ∃ j : Nat, k = (j : Int) := ⟨k.toNat, by omega⟩
      have esh : am_wr (a + am_shl k (am_wr (3 * ((0 : Nat) : Int)))) = a + k := by
        rw [show am_wr (3 * ((0 : Nat) : Int)) = ((0 : Nat) : Int) from rfl, hj, am_shl_eq (by omega) (by omega), wr_id (by omega) (by omega)]
        omega
      have hD2b := hD2.2.2.2.2.1
      rw [E_Md_walkLeaves_19, if_pos (by omega), R_placeIn d h hs ⟨k1, by omega⟩ hN2, bI_some, R_placeIn d h ht ⟨k1, by omega⟩ hN2, bI_some, dec_0, dec_0, hM2, if_pos rfl, esh]
      by_cases he : atS pl s k = atS pl t k
      · rw [if_pos he, if_pos he, v_eq, wr_id (by omega) (by omega)]
        exact ⟨N2, rfl, hD2.mono (by omega) (by omega)⟩
      · rw [if_neg he, if_neg he, if_t (by rw [hD2.2.2.2.1]; omega), w_eq, w_eq, v_eq, wr_id (z := k + 1) (by omega) (by omega), wr_id (z := a + k) (by omega) (by omega)]
        simp only [Nat.reduceAdd]
        refine ⟨_, rfl, ?_⟩
        have := hD2.note (a := a + k) (by omega) (by omega)
        rw [show x + k + 1 = x + (k + 1) by omega] at this
        exact this
theorem dr_twig (d : Nat) {A c c' kd pl tr ex : Int → Int} (h : PI A c kd pl tr ex) {M0 N0 : am_M} (h6 : M0 6 = pl) (hN : N0 505 = wc A c') {s t a : Int} (hs : OKP c kd 1 s) (ht : OKP c kd 1 t) (ha : 0 ≤ a ∧ a + 64 ≤ 512) {M N : am_M} {x w : Int} (hx : x + 64 ≤ 512) (hw : w < 900) (hD : DR M0 N0 M N x w) : ∃ N', am_m am_P (d + 4) j_Md_walkTwigs [am_r 6 504, am_i (decT s), am_i (decT t), am_i a] N = some (none, N') ∧ DR M0 N0 (wkS 2 M s t a) N' (x + 64) (w + 9) := by
  show ∃ N', am_at am_P (d + 3) j_Md_walkTwigs 0 [am_r 6 504, am_i (decT s), am_i (decT t), am_i a, am_u] [] N = some (none, N') ∧ _
  rw [E_Md_walkTwigs_0, show wkS 2 M s t a = _ from wk_s 1 M s t a]
  by_cases hst : s = t
  · rw [if_pos (by rw [hst]), if_pos hst]
    exact ⟨N, rfl, hD.mono (by omega) (by omega)⟩
  · rw [if_neg (fun e => hst (decT_inj hs ht e)), if_neg hst, w_eq, v_eq]
    have hD1 := hD.walk (by omega)
    generalize am_set M 501 2 (am_wr (M 501 2 + 1)) = M1 at hD1 ⊢
    generalize am_set N 504 10 (am_wr (N 504 10 + 1)) = N1 at hD1 ⊢
    obtain ⟨N2, g1, g2⟩ := lp_rl (F := fun k N => am_at am_P (d + 3) j_Md_walkTwigs 19 [am_r 6 504, am_i (decT s), am_i (decT t), am_i a, am_i k] [] N) (b := fun k N => if (1 : Nat) = 0 then (if atS (N 6) s k = atS (N 6) t k then N else ntS N (am_wr (a + am_shl k (am_wr (3 * ((1 : Nat) : Int)))))) else wkS 1 N (atS (N 6) s k) (atS (N 6) t k) (am_wr (a + am_shl k (am_wr (3 * ((1 : Nat) : Int)))))) (r := fun N => some (none, N)) (R := fun i M N => DR M0 N0 M N (x + 8 * i) (w + 1 + i)) 8 0 M1 N1 (by rw [show x + 8 * 0 = x by omega, Int.add_zero]; exact hD1) (fun N => by
      (try dsimp only)
      rw [E_Md_walkTwigs_19, if_neg (by omega)]) (fun k M2 N2 k1 k2 hD2 => by
      (try dsimp only at hD2)
      (try dsimp only)
      have hN2 : N2 505 = wc A c' := by rw [hD2.2.1 505 (by decide) (by decide)]; exact hN
      have hM2 : M2 6 = pl := by rw [hD2.1 6 (by decide) (by decide)]; exact h6
      obtain ⟨j, hj⟩ : ∃ j : Nat, k = (j : Int) := ⟨k.toNat, by omega⟩
      have esh : am_wr (a + am_shl k (am_wr (3 * ((1 : Nat) : Int)))) = a + 8 * k := by
        rw [show am_wr (3 * ((1 : Nat) : Int)) = ((3 : Nat) : Int) from rfl, hj, am_shl_eq (by omega) (by omega), wr_id (by omega) (by omega)]
        omega
      rw [E_Md_walkTwigs_19, if_pos (by omega), R_placeIn (d + 1) h hs ⟨k1, by omega⟩ hN2, bI_some, R_placeIn (d + 1) h ht ⟨k1, by omega⟩ hN2, bI_some, dec_T (by omega), dec_T (by omega), hM2, if_neg (by decide), esh, wr_id (z := 8 * k) (by omega) (by omega), wr_id (z := a + 8 * k) (by omega) (by omega)]
      obtain ⟨N3, f1, f2⟩ := dr_leaf d h h6 hN (h.okk (by omega) hs k) (h.okk (by omega) ht k) (a := a + 8 * k) (by omega) (by omega) (by omega) hD2
      rw [f1, bV_some, v_eq, wr_id (by omega) (by omega)]
      exact ⟨N3, rfl, f2.mono (by omega) (by omega)⟩)
    exact ⟨N2, g1, DR.mono g2 (by omega) (by omega)⟩
theorem dr_look (d : Nat) {A c c' : Int → Int} {n : Int} {M : am_M} (hJ : JX (am_st M 4 c) A n) {v w : Int} (hv : thS M v) (hw : thS M w) {N : am_M} (hN : N 505 = wc A c') : ∃ N', am_m am_P (d + 6) j_Md_layDifference [am_r 6 504, am_i v, am_i w] N = some (none, N') ∧ DR M N (lkdS M v w) N' 512 73 := by
  obtain ⟨u1, u2, u3⟩ := hJ.un
  have hok : ∀ v : Int, thS M v → OKP c (M 5) 2 (M 10 v) ∧ A (1796 + 9 * v + 4) = decT (M 10 v) := by
    intro v hv
    obtain ⟨z, hz⟩ : ∃ z : Nat, v = (z : Int) := ⟨v.toNat, by have := hv.1; omega⟩
    subst hz
    have h12 := hv.2.1
    refine ⟨?_, (u2 z (by omega)).2 hv.2.2⟩
    have := hJ.1.rv.tr hJ.1.pi (w := z) (by omega)
    rw [st_eq, st_ne _ _ (by decide), st_ne _ _ (by decide)] at this
    exact this
  obtain ⟨o1, p1⟩ := hok v hv
  obtain ⟨o2, p2⟩ := hok w hw
  show ∃ N', am_at am_P (d + 5) j_Md_layDifference 0 [am_r 6 504, am_i v, am_i w, am_u, am_u, am_u] [] N = some (none, N') ∧ _
  rw [E_Md_layDifference_0, R_got (d + 4) ⟨hv.1, hv.2.1⟩ (by omega) hN, bI_some, v_eq, R_got (d + 4) ⟨hw.1, hw.2.1⟩ (by omega) hN, bI_some, v_eq, w_eq, w_eq, p1, p2]
  have hD : DR M N (am_set (am_set M 501 1 0) 501 2 0) (am_set (am_set N 504 9 0) 504 10 0) 0 0 := by
    have e1 : am_set (am_set M 501 1 0) 501 2 0 501 1 = 0 := by rw [set_eq, up_ne _ _ (by decide), set_eq, up_eq]
    have e2 : am_set (am_set M 501 1 0) 501 2 0 501 2 = 0 := by rw [set_eq, up_eq]
    refine ⟨fun k k1 k2 => by rw [set_ne _ _ _ k1, set_ne _ _ _ k1], fun k k1 k2 => by rw [set_ne _ _ _ k1, set_ne _ _ _ k1], fun j j1 j2 => by rw [set_eq, up_ne _ _ j2, set_eq, up_ne _ _ j1], ?_, ?_, ?_, ?_, ?_⟩
    · rw [e1, set_eq, up_ne _ _ (by decide), set_eq, up_eq]
    · rw [e1]; omega
    · rw [e2, set_eq, up_eq]
    · rw [e2]; omega
    · rw [e1]; intro i i1 i2; omega
  rw [show lkdS M v w = _ from wk_s 2 _ _ _ _]
  generalize M 10 v = s at o1 ⊢
  generalize M 10 w = t at o2 ⊢
  generalize am_set (am_set M 501 1 0) 501 2 0 = M1 at hD ⊢
  generalize am_set (am_set N 504 9 0) 504 10 0 = N1 at hD ⊢
  by_cases hst : s = t
  · rw [if_pos (by rw [hst]), if_pos hst]
    exact ⟨_, rfl, hD.mono (by omega) (by omega)⟩
  · rw [if_neg (fun e => hst (decT_inj o1 o2 e)), if_neg hst, w_eq, v_eq]
    have hD1 := hD.walk (by omega)
    generalize am_set M1 501 2 (am_wr (M1 501 2 + 1)) = M2 at hD1 ⊢
    generalize am_set N1 504 10 (am_wr (N1 504 10 + 1)) = N2 at hD1 ⊢
    obtain ⟨N3, g1, g2⟩ := lp_rl (F := fun k N => am_at am_P (d + 5) j_Md_layDifference 45 [am_r 6 504, am_u, am_u, am_i (decT s), am_i (decT t), am_i k] [] N) (b := fun k N => if (2 : Nat) = 0 then (if atS (N 6) s k = atS (N 6) t k then N else ntS N (am_wr (0 + am_shl k (am_wr (3 * ((2 : Nat) : Int)))))) else wkS 2 N (atS (N 6) s k) (atS (N 6) t k) (am_wr (0 + am_shl k (am_wr (3 * ((2 : Nat) : Int)))))) (r := fun N => some (none, N)) (R := fun i M' N' => DR M N M' N' (64 * i) (1 + 9 * i)) 8 0 M2 N2 (by exact hD1) (fun N => by
      (try dsimp only)
      rw [E_Md_layDifference_45, if_neg (by omega)]) (fun k M3 N3 k1 k2 hD2 => by
      (try dsimp only at hD2)
      (try dsimp only)
      have hN2 : N3 505 = wc A c' := by rw [hD2.2.1 505 (by decide) (by decide)]; exact hN
      have hM2 : M3 6 = M 6 := hD2.1 6 (by decide) (by decide)
      obtain ⟨j, hj⟩ : ∃ j : Nat, k = (j : Int) := ⟨k.toNat, by omega⟩
      have esh : am_wr (0 + am_shl k (am_wr (3 * ((2 : Nat) : Int)))) = 64 * k := by
        rw [show am_wr (3 * ((2 : Nat) : Int)) = ((6 : Nat) : Int) from rfl, hj, am_shl_eq (by omega) (by omega), wr_id (by omega) (by omega)]
        omega
      rw [E_Md_layDifference_45, if_pos (by omega), R_placeIn (d + 3) u1 o1 ⟨k1, by omega⟩ hN2, bI_some, R_placeIn (d + 3) u1 o2 ⟨k1, by omega⟩ hN2, bI_some, dec_T (by omega), dec_T (by omega), hM2, if_neg (by decide), esh, wr_id (z := 64 * k) (by omega) (by omega)]
      obtain ⟨N4, f1, f2⟩ := dr_twig (d + 1) u1 rfl hN (u1.okk (by omega) o1 k) (u1.okk (by omega) o2 k) (a := 64 * k) (by omega) (by omega) (by omega) hD2
      rw [f1, bV_some, v_eq, wr_id (by omega) (by omega)]
      exact ⟨N4, rfl, f2.mono (by omega) (by omega)⟩)
    exact ⟨N3, g1, DR.mono g2 (by omega) (by omega)⟩
