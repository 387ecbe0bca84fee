/-! SOUND; A STEP KEPT ahead of the change: class and reference -/
theorem snd_both (d e : Nat) {M : am_M} {n : Int} (hG : GR M n) :
    (∃ M', am_m am_P (d + 5) j_Tv_isSound [am_r 5 0] M = some (some (am_i 0), M') ∧ (∀ k : Nat, k ≠ 503 → M' k = M k) ∧ ∀ N : am_M, N 505 = M 505 → ∃ (w : Int) (N' : am_M), am_m am_P (e + 4) j_Md_wrong [am_r 6 504] N = some (some (am_i w), N') ∧ w ≠ -1 ∧ RF N N') ∨
    (∃ (M' : am_M) (A : Int → Int), am_m am_P (d + 5) j_Tv_isSound [am_r 5 0] M = some (some (am_i 1), M') ∧ (∀ k : Nat, k ≠ 503 → M' k = M k) ∧ GR M' n ∧ M' 505 = wc A (M' 4) ∧ JX M' A n ∧ ∀ N : am_M, N 505 = M 505 → ∃ N', am_m am_P (e + 4) j_Md_wrong [am_r 6 504] N = some (some (am_i (-1)), N') ∧ RF N N') := by
  obtain ⟨A, c, hR, hJ, hP⟩ := hG.sr
  obtain ⟨s1, s2, s3⟩ := sd_sp hJ hP
  have hro := fun N (hN : N 505 = M 505) => S_Md_wrong e hJ hP (N := N) (hN.trans hR)
  have hw := wr_m1 hP.1
  rw [S_Tv_sound]
  rcases s1 with h | h
  · refine Or.inl ⟨(sdS M).2, by rw [h], s3, fun N hN => ⟨_, _, hro N hN, fun q => ?_, RF.mem2 _ _⟩⟩
    have := s2.mpr (hw.mp q)
    omega
  · have hc : M 4 = c := s2.mp h
    have hJM : JX M A n := by rw [← hc, st_self] at hJ; exact hJ
    have e4 : (sdS M).2 4 = M 4 := s3 4 (by decide)
    refine Or.inr ⟨(sdS M).2, A, by rw [h], s3, hG.same (Int.le_refl _) (fun k hk => s3 k (by omega)) (s3 505 (by decide)) (s3 506 (by decide)) (by rw [s3 504 (by decide)]) (by rw [s3 504 (by decide)]) (fun k k1 k2 => s3 k (by omega)), by rw [s3 505 (by decide), e4]; exact hR, hJM.congr (Int.le_refl _) (EQ_of (fun k k1 k2 => s3 k (by omega))) (fun x hx => by rw [e4]; exact hJM.1.pi.zo x hx) (fun _ _ _ => rfl), fun N hN => ⟨_, ?_, RF.mem2 N (lyS c (M 6) (M 10) (N 508, N 509))⟩⟩
    have := hro N hN
    rw [hw.mpr hc] at this
    exact this
/-- the class keeps the step behind its change, the reference ahead of its own -/
theorem keep_fin (d : Nat) {M : am_M} {n : Int} (hG : GR M n) {A : Int → Int} (hR : M 505 = wc A (M 4)) {q : Nat} (hq : M 0 1 = (q : Int)) {M2 : am_M} (hM2 : ∀ k : Nat, (k = 0 ∨ 15 ≤ k) → k ≠ 503 → M2 k = csS q 1 M k) :
    am_m am_P (d + 3) j_Tv_begin [am_r 5 0] M = some (none, csS q 1 M) ∧ am_m am_P (d + 2) j_Tv_keepStep [am_r 5 0] M2 = some (none, ksS M2) ∧ (∀ k : Nat, (1 ≤ k ∧ k ≤ 14) → ksS M2 k = M2 k) ∧ (∀ k : Nat, 495 ≤ k → k ≠ 503 → ksS M2 k = M k) ∧
    ∀ N : am_M, RF (ksS M2) N → ∃ (N1 N2 : am_M) (A1 : Int → Int), (∀ e : Nat, am_m am_P (e + 1) j_Md_begin [am_r 6 504] N = some (none, N1)) ∧ (∀ e : Nat, am_m am_P (e + 2) j_Md_keep [am_r 6 504] N1 = some (none, N2)) ∧ N1 504 2 = 0 ∧ N2 504 2 = 0 ∧ N2 505 = wc A1 (M 4) ∧ (∀ y : Int, 2 ≤ y → y < 1904 → A1 y = A y) ∧
      ∀ (N3 : am_M) (A3 : Int → Int), N3 505 = wc A3 (M2 4) → (∀ y : Int, (y < 2 ∨ 1904 ≤ y) → A3 y = A1 y) → (∀ k : Nat, (k ≤ 503 ∨ k = 506 ∨ 513 ≤ k) → N3 k = N2 k) → N3 504 13 = N2 504 13 → N3 504 16 = N2 504 16 → SR M2 A3 (n + 1) → GR N3 (n + 1) ∧ ∀ k : Nat, 517 ≤ k → N3 k = M k := by
  have hqB : isB (q : Int) := by rw [← hq]; exact hG.1.1.1
  have hqr := isB_rng hqB
  have hoff : ∀ k : Nat, (k = 0 ∨ 15 ≤ k) → (k < q ∨ q + 13 < k) → k ≠ 503 → M2 k = M k := fun k k1 k2 k3 => by rw [hM2 k k1 k3, cs_off _ _ _ k2]
  have h20 : M2 0 = M 0 := hoff 0 (by omega) (by omega) (by omega)
  have h29 : M2 29 = M 29 := hoff 29 (by omega) (by omega) (by omega)
  have h30 : M2 30 = M 30 := hoff 30 (by omega) (by omega) (by omega)
  have hks := ks_spec (M := M2) (by unfold BQ; rw [h20, h30]; exact hG.1.1) (by rw [h29]; exact hG.1.2.1.1)
  have hk : ∀ k : Nat, 495 ≤ k → k ≠ 503 → ksS M2 k = M k := fun k hk hk' => by rw [hks.1 k (by omega) (by omega) (by omega), hoff k (by omega) (by omega) hk']
  refine ⟨S_Tv_begin d M hq (by omega) hG.2.fl, S_Tv_keepStep d M2 (by rw [h29]; exact hG.1.2.1.1.1), fun k hk' => hks.1 k (by omega) (by omega) (by omega), hk, fun N hN => ?_⟩
  obtain ⟨N1, b1, b2, b3, b4⟩ := R_begin 0 hN
  have hbg : ∀ e : Nat, am_m am_P (e + 1) j_Md_begin [am_r 6 504] N = some (none, N1) := fun e => by
    rw [S_Md_begin] at b1 ⊢
    exact b1
  have h5 : N1 505 = M 505 := by rw [b2.1 505 (by omega), hk 505 (by omega) (by omega)]
  have c1 := hG.1.2.1
  have hkp : ∃ N2, (∀ e : Nat, am_m am_P (e + 2) j_Md_keep [am_r 6 504] N1 = some (none, N2)) ∧ (∀ k : Nat, k ≠ 505 → N2 k = N1 k) ∧ N2 505 0 = kpS (N1 505) + 1 ∧ N2 505 1 = kpF (N1 505) ∧ (∀ y : Int, 2 ≤ y → y < 1904 → N2 505 y = N1 505 y) ∧ (∀ k : Int, 0 ≤ k → k < 1902 → N2 505 (1904 + 1902 * ((kpF (N1 505) + kpS (N1 505)) % 16) + k) = N1 507 k) ∧ (∀ j k : Int, 0 ≤ j → j < 16 → j ≠ (kpF (N1 505) + kpS (N1 505)) % 16 → 0 ≤ k → k < 1902 → N2 505 (1904 + 1902 * j + k) = N1 505 (1904 + 1902 * j + k)) := by
    obtain ⟨R, p1, p2, p3, p4, p5, p6⟩ := S_Md_keep N1 (by rw [h5, c1.2.1]; exact c1.1) (by rw [h5]; exact c1.2.2.1)
    refine ⟨am_st N1 505 R, p1, fun k hk => st_ne _ _ hk, ?_⟩
    rw [st_eq]; exact ⟨p2, p3, p4, p5, p6⟩
  obtain ⟨N2, k1, k2, k3, k4, k5, k6, k7⟩ := hkp
  rw [h5] at k3 k4 k5 k6 k7
  refine ⟨N1, N2, fun y => if 2 ≤ y ∧ y < 1904 then A y else N2 505 y, hbg, k1, b2.2.2, by rw [k2 504 (by decide)]; exact b2.2.2, ?_, fun y y1 y2 => if_pos ⟨y1, y2⟩, fun N3 A3 a1 a2 a3 a4 a5 a6 => ?_⟩
  · funext y
    by_cases hy : 2 ≤ y ∧ y < 1904
    · rw [k5 y hy.1 hy.2, hR]
      exact (wc_congr (fun y h1 h2 => if_pos ⟨h1, h2⟩) (fun _ _ => rfl) hy.1 hy.2).symm
    · rw [wc_o _ _ (by omega)]
      (try dsimp only)
      rw [if_neg hy]
  · have hrow : ∀ y : Int, (y < 2 ∨ 1904 ≤ y) → N3 505 y = N2 505 y := fun y hy => by
      rw [a1, wc_o _ _ (by omega), a2 y hy]
      (try dsimp only)
      rw [if_neg (by omega)]
    have hN3 : ∀ k : Nat, (k ≤ 503 ∨ k = 506 ∨ 513 ≤ k) → N3 k = N k := fun k hk' => by rw [a3 k hk', k2 k (by omega), b3 k hk']
    have hgx : GX N3 (n + 1) := by
      refine GX.kept hG (show n ≤ n + 1 by omega) hq (M2 := M2) (fun k hk' _ => hM2 k hk' (by omega)) (fun k hk' => by rw [hN3 k (by omega), hN.1 k (by omega)]) ?_ ?_ ?_
      · rw [a1]; exact SS.of a6
      · refine ⟨by rw [hrow 0 (by omega)]; exact k3, by rw [hrow 1 (by omega)]; exact k4, fun k x1 x2 => ?_, fun j k j1 j2 j3 x1 x2 => ?_⟩
        · rw [hrow _ (by omega), k6 k x1 x2, b2.2.1 k x1 x2, hk 505 (by omega) (by omega)]
        · rw [hrow _ (by omega), k7 j k j1 j2 j3 x1 x2]
      · rw [hN3 506 (by omega), hN.1 506 (by omega), hk 506 (by omega) (by omega)]
    have hall : ∀ k : Nat, (495 ≤ k ∧ k ≤ 500 ∨ 513 ≤ k) → N3 k = M k := fun k hk' => by rw [hN3 k (by omega), hN.1 k (by omega), hk k (by omega) (by omega)]
    exact ⟨hgx.gr (hG.1.2.2.2.2.2.2.at (fun k k1 k2 => hall k (by omega)) (by rw [a4, k2 504 (by decide), b4 13 (by decide), hN.2.1, hk 504 (by omega) (by omega)]) (by rw [a5, k2 504 (by decide), b4 16 (by decide), hN.2.2, hk 504 (by omega) (by omega)]) (fun k k1 k2 => hall k (by omega))), fun k hk' => hall k (by omega)⟩
