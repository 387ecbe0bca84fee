/-! OPENING one level below a part in use: class and reference together -/
theorem PI.trunk {A c kd pl tr ex : Int → Int} (h : PI A c kd pl tr ex) {v : Nat} (hv : v < 12) (hx : TA (tr v)) : 0 < c (tr v) := by
  have h1 := h.xc _ hx
  have h2 := rfP_nn c pl (tr v)
  have h3 := (h.e0 (tr v)).1
  have h4 : (1 : Int) ≤ rfT tr (tr v) := by
    have := sm_ge (f := fun w => if tr w = tr v then 1 else 0) 12 v hv (fun i _ => by (try dsimp only); split <;> omega)
    (try dsimp only at this)
    rw [if_pos rfl] at this
    exact this
  omega
/-- the trunks: kinds, and what the reference has of them -/
def RV (M : am_M) (A : Int → Int) : Prop := ∀ v : Nat, v < 12 → (M 10 v = -1 ∨ (96 ≤ M 10 v ∧ M 10 v < 256 ∧ M 5 (M 10 v - 96) = 2)) ∧ (0 < M 7 v → A (1796 + 9 * (v : Int) + 4) = decT (M 10 v))
theorem lvl_old {M : am_M} {A ex : Int → Int} (h : PI A (M 4) (M 5) (M 6) (M 10) ex) {kp t : Int} (hkp : 0 ≤ kp ∧ kp ≤ 2) (ht : 96 ≤ t ∧ t < 256 ∧ M 4 t ≠ 0 ∧ M 5 (t - 96) = kp) (h1 : cntS (M 4) t = 1) (d : Nat) (N : am_M) :
    ownS M t kp = (t, M) ∧ am_m am_P (d + 4) j_Md_own [am_r 6 504, am_i kp, am_i (decT t)] (am_st N 505 (wc A (M 4))) = some (some (am_i (decT t)), am_st N 505 (wc A (M 4))) := by
  refine ⟨?_, ?_⟩
  · unfold ownS
    rw [if_pos h1]
  · rw [S_Md_own d h hkp (Or.inr ht), if_pos h1]
theorem lvl_none {M : am_M} {A ex : Int → Int} (h : PI A (M 4) (M 5) (M 6) (M 10) ex) {kp t : Int} (hkp : 0 ≤ kp ∧ kp ≤ 2) (ht : t = -1 ∨ (96 ≤ t ∧ t < 256 ∧ M 4 t ≠ 0 ∧ M 5 (t - 96) = kp)) (h1 : cntS (M 4) t ≠ 1) (hf : frC (M 4) = -1) (d : Nat) (N : am_M) :
    ownS M t kp = (-1, M) ∧ am_m am_P (d + 4) j_Md_own [am_r 6 504, am_i kp, am_i (decT t)] (am_st N 505 (wc A (M 4))) = some (some (am_i (-1)), am_set (am_st N 505 (wc A (M 4))) 504 2 1) := by
  refine ⟨?_, ?_⟩
  · rw [ownS_pure M A t kp (fun y => by have := h.bd y; omega), if_neg h1, if_pos hf]
  · rw [S_Md_own d h hkp ht, if_neg h1, if_pos hf]
/-- a fresh part below p: both sides, and all that holds behind it -/
theorem lvl_fresh {M : am_M} {A ex : Int → Int} (h : PI A (M 4) (M 5) (M 6) (M 10) ex) (hV : RV M A) {q p k : Nat} (hq : frC (M 4) = q) (hp : p < 160) (hk : k < 8) (hc0 : M 4 ((p : Int) + 96) ≠ 0) {kp : Int} (hkp : 0 ≤ kp ∧ kp ≤ 1) (hkd : M 5 p = kp + 1) (hn : cntS (M 4) (M 6 ((p : Int) * 8 + k)) ≠ 1) (hw : M 6 ((p : Int) * 8 + k) = -1 ∨ (96 ≤ M 6 ((p : Int) * 8 + k) ∧ M 6 ((p : Int) * 8 + k) < 256 ∧ M 4 (M 6 ((p : Int) * 8 + k)) ≠ 0 ∧ M 5 (M 6 ((p : Int) * 8 + k) - 96) = kp)) (d : Nat) (N : am_M) :
    ∃ (M' : am_M) (A' R : Int → Int), q < 160 ∧ (ownS M (M 6 ((p : Int) * 8 + k)) kp).1 = (q : Int) + 96 ∧ hangS (ownS M (M 6 ((p : Int) * 8 + k)) kp).2 ((p : Int) + 96) k ((q : Int) + 96) = M' ∧
      am_m am_P (d + 8) j_Md_own [am_r 6 504, am_i kp, am_i (decT (M 6 ((p : Int) * 8 + k)))] (am_st N 505 (wc A (M 4))) = some (some (am_i q), am_st N 505 R) ∧
      R (198 + 10 * (p : Int) + k) = decT (M 6 ((p : Int) * 8 + k)) ∧ (q : Int) ≠ decT (M 6 ((p : Int) * 8 + k)) ∧
      am_m am_P (d + 8) j_Md_hang [am_r 6 504, am_i p, am_i k, am_i q] (am_st N 505 R) = some (none, am_st N 505 (wc A' (M' 4))) ∧
      PI A' (M' 4) (M' 5) (M' 6) (M' 10) ex ∧ RV M' A' ∧ M' 6 ((p : Int) * 8 + k) = (q : Int) + 96 ∧ M' 5 q = kp ∧ (∀ r : Nat, r ≠ 4 → r ≠ 5 → r ≠ 6 → M' r = M r) ∧
      (∀ r j : Nat, r < 160 → M 4 ((r : Int) + 96) ≠ 0 → j < 8 → ¬ (r = p ∧ j = k) → M' 6 ((r : Int) * 8 + j) = M 6 ((r : Int) * 8 + j)) ∧ (∀ r : Nat, r < 160 → M 4 ((r : Int) + 96) ≠ 0 → M' 5 r = M 5 r) ∧ (∀ y : Int, (y < 196 ∨ 1796 ≤ y) → A' y = A y) ∧ (∀ x : Int, x < 96 → M 4 x = 0 → M' 4 x = 0) := by
  have hq2 : 0 ≤ (q : Int) ∧ (q : Int) < 160 ∧ M 4 ((q : Int) + 96) = 0 := by
    rcases frC_in (M 4) with e | e
    · omega
    · rw [hq] at e; exact e
  have hqn : q < 160 := by omega
  generalize hs : nwS kp (M 6 ((p : Int) * 8 + k)) q A (M 4) (M 6) = s
  obtain ⟨f1, ew, hbd, f4⟩ := fresh_hang h hqn hq2.2.2 hp hk hc0 hkp hkd hs hw d N
  obtain ⟨o1, o2⟩ := open_fresh h hq hp hk hc0 hkp hkd hs hn hw
  have hN := nw_NI (kp := kp) h hqn hq2.2.2 (t := M 6 ((p : Int) * 8 + k)) (by
    rcases hw with h | ⟨h1, h2, h3, -⟩
    · exact Or.inl h
    · exact Or.inr ⟨h1, h2, h3⟩)
  rw [hs] at hN
  obtain ⟨j, -, hu, -, -, hpl, hAo, -, -, -⟩ := hN
  have hpq : p ≠ q := fun e => hc0 (by rw [e]; exact hq2.2.2)
  refine ⟨_, am_up s.1 (198 + 10 * (p : Int) + k) q, wc s.1 s.2.1, hqn, o1, o2, ?_, ?_, ?_, ?_, ?_, ?_, ?_, ?_, ?_, ?_, ?_, ?_, ?_⟩
  · have := S_Md_own (d + 4) h (show 0 ≤ kp ∧ kp ≤ 2 by omega) hw N
    rw [if_neg hn, if_neg (by omega), hq, hs] at this
    exact this
  · rw [wc_l _ _ (by omega) (by omega), hAo _ (by omega), (h.co p hp hc0).2 k hk, hkd]
    unfold dec decT
    by_cases hm : M 6 ((p : Int) * 8 + k) = -1
    · rw [if_pos hm, if_pos hm]
    · rw [if_neg hm, if_neg hm, if_neg (by omega)]
  · rcases hw with e | ⟨e1, e2, e3, -⟩
    · rw [e, show decT (-1) = -1 from if_pos rfl]; omega
    · rw [decT_part ⟨e1, e2⟩]
      intro e
      apply e3
      rw [show M 6 ((p : Int) * 8 + k) = (q : Int) + 96 by omega]
      exact hq2.2.2
  · rw [m546_4]; exact f1
  · rw [m546_4, m546_5, m546_6, m546_o _ _ _ _ (r := 10) (by decide) (by decide) (by decide)]
    exact f4
  · intro v hv
    obtain ⟨v1, v2⟩ := hV v hv
    rw [m546_o _ _ _ _ (r := 10) (by decide) (by decide) (by decide), m546_o _ _ _ _ (r := 7) (by decide) (by decide) (by decide), m546_5]
    refine ⟨?_, fun h7 => ?_⟩
    · rcases v1 with e | ⟨e1, e2, e3⟩
      · exact Or.inl e
      · refine Or.inr ⟨e1, e2, ?_⟩
        rw [up_ne _ _ (fun e => by
          have := h.trunk hv ⟨by omega, e2⟩
          rw [show M 10 v = (q : Int) + 96 by omega, hq2.2.2] at this
          omega)]
        exact e3
    · rw [up_ne _ _ (by omega), hAo _ (by omega)]
      exact v2 h7
  · rw [m546_6, up_eq]
  · rw [m546_5, up_eq]
  · exact fun r h4 h5 h6 => m546_o _ _ _ _ h4 h5 h6
  · intro r i hr hr0 hi hne
    have hrq : r ≠ q := fun e => hr0 (by rw [e]; exact hq2.2.2)
    rw [m546_6, up_ne _ _ (by omega)]
    exact hpl r i hrq hi
  · intro r hr hr0
    have hrq : r ≠ q := fun e => hr0 (by rw [e]; exact hq2.2.2)
    rw [m546_5, up_ne _ _ (by omega)]
  · intro y hy
    rw [up_ne _ _ (by omega), hAo _ (by omega)]
  · intro x hx hx0
    have hsx := nw_use (kp := kp) h hqn hq2.2.2 (t := M 6 ((p : Int) * 8 + k)) (by
      rcases hw with h | ⟨h1, h2, h3, -⟩
      · exact Or.inl h
      · exact Or.inr ⟨h1, h2, h3⟩) hx0
    rw [hs] at hsx
    rw [m546_4]
    exact LGc_z (rs_z hx hsx) (f4.bd x).1
