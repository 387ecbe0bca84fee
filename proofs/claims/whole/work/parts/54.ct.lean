/-! WHAT IS MAPPED: contents, and that opening leaves them -/
def ct (pl tr : Int → Int) (v a : Int) : Int := atS pl (atS pl (atS pl (tr v) (plc a 2)) (plc a 1)) (plc a 0)
theorem bk_ct (M : am_M) (v a : Int) : bkS M v a = ct (M 6) (M 10) v a := rfl
/-- the same view of two things, n levels deep -/
def VE (pl pl' : Int → Int) : Nat → Int → Int → Prop
  | 0, t, t' => t = t'
  | n + 1, t, t' => ∀ k : Int, VE pl pl' n (atS pl t k) (atS pl' t' k)
theorem VE_ct {pl pl' tr tr' : Int → Int} {v : Int} (h : VE pl pl' 3 (tr v) (tr' v)) (a : Int) : ct pl' tr' v a = ct pl tr v a := (h (plc a 2) (plc a 1) (plc a 0)).symm
theorem VE_m1 (pl pl' : Int → Int) : ∀ n : Nat, VE pl pl' n (-1) (-1)
  | 0 => rfl
  | n + 1 => fun k => by rw [at_m1, at_m1]; exact VE_m1 pl pl' n
theorem at_out {pl : Int → Int} {t k : Int} (h : ¬ (0 ≤ k ∧ k < 8)) : atS pl t k = -1 := if_neg (fun q => h q.2.2)
/-- what is in a place of a part in use -/
theorem PI.kid {A c kd pl tr ex : Int → Int} (h : PI A c kd pl tr ex) {t : Int} {n : Int} (ht : 96 ≤ t ∧ t < 256 ∧ c t ≠ 0 ∧ kd (t - 96) = n) (k : Int) : atS pl t k = -1 ∨ (n = 0 ∧ 0 ≤ atS pl t k ∧ atS pl t k < 96 ∧ c (atS pl t k) ≠ 0) ∨ (1 ≤ n ∧ 96 ≤ atS pl t k ∧ atS pl t k < 256 ∧ c (atS pl t k) ≠ 0 ∧ kd (atS pl t k - 96) = n - 1) := by
  by_cases hk : 0 ≤ k ∧ k < 8
  · obtain ⟨p, hp⟩ : ∃ p : Nat, t = (p : Int) + 96 := ⟨(t - 96).toNat, by omega⟩
    obtain ⟨j, hj⟩ : ∃ j : Nat, k = (j : Int) := ⟨k.toNat, by omega⟩
    subst hp hj
    rw [at_in ⟨ht.1, ht.2.1⟩ hk, show (p : Int) + 96 - 96 = p by omega]
    have h4 := ht.2.2.2
    rw [show (p : Int) + 96 - 96 = p by omega] at h4
    have hc := h.child (p := p) (k := j) (by omega) (by omega) ht.2.2.1
    rcases (h.kw p (by omega) ht.2.2.1).2 j (by omega) with e | ⟨e1, e2, e3⟩ | ⟨e1, e2, e3, e4⟩
    · exact Or.inl e
    · have := hc ⟨by omega, by omega⟩
      exact Or.inr (Or.inl ⟨by omega, e2, e3, by omega⟩)
    · have := hc ⟨by omega, by omega⟩
      exact Or.inr (Or.inr ⟨by omega, e2, e3, by omega, by omega⟩)
  · exact Or.inl (at_out hk)
theorem VE_cp {A c kd pl pl' tr ex : Int → Int} (h : PI A c kd pl tr ex) {q : Nat} {kp w : Int} (hq160 : q < 160) (hpl : ∀ r j : Nat, r < 160 → c ((r : Int) + 96) ≠ 0 → j < 8 → pl' ((r : Int) * 8 + j) = pl ((r : Int) * 8 + j) ∨ (kd r = kp + 1 ∧ pl' ((r : Int) * 8 + j) = (q : Int) + 96 ∧ pl ((r : Int) * 8 + j) = w)) (hq : ∀ j : Nat, j < 8 → pl' ((q : Int) * 8 + j) = atS pl w j) (hkp : 0 ≤ kp) (hw : w = -1 ∨ (96 ≤ w ∧ w < 256 ∧ c w ≠ 0 ∧ kd (w - 96) = kp)) :
    ∀ (n : Nat) (t : Int), (t = -1 ∨ n = 0 ∨ (96 ≤ t ∧ t < 256 ∧ c t ≠ 0 ∧ kd (t - 96) = (n : Int) - 1)) → VE pl pl' n t t
  | 0, t, _ => rfl
  | 1, t, ht => fun k => by
    show atS pl t k = atS pl' t k
    rcases ht with rfl | e | ⟨t1, t2, t3, t4⟩
    · rw [at_m1, at_m1]
    · omega
    · by_cases hk : 0 ≤ k ∧ k < 8
      · obtain ⟨r, hr⟩ : ∃ r : Nat, t = (r : Int) + 96 := ⟨(t - 96).toNat, by omega⟩
        obtain ⟨j, hj⟩ : ∃ j : Nat, k = (j : Int) := ⟨k.toNat, by omega⟩
        subst hr hj
        rw [at_in ⟨t1, t2⟩ hk, at_in ⟨t1, t2⟩ hk]
        rw [show (r : Int) + 96 - 96 = r by omega] at t4 ⊢
        rcases hpl r j (by omega) t3 (by omega) with e | ⟨e, -⟩
        · exact e.symm
        · omega
      · rw [at_out hk, at_out hk]
  | n + 2, t, ht => fun k => by
    have ih1 := VE_cp h hq160 hpl hq hkp hw (n + 1)
    have ih0 := VE_cp h hq160 hpl hq hkp hw n
    rcases ht with rfl | e | ⟨t1, t2, t3, t4⟩
    · rw [at_m1, at_m1]; exact ih1 _ (Or.inl rfl)
    · omega
    · by_cases hk : 0 ≤ k ∧ k < 8
      · have hkid := h.kid (n := (n : Int) + 1) ⟨t1, t2, t3, by omega⟩ k
        have hok : atS pl t k = -1 ∨ n + 1 = 0 ∨ (96 ≤ atS pl t k ∧ atS pl t k < 256 ∧ c (atS pl t k) ≠ 0 ∧ kd (atS pl t k - 96) = ((n + 1 : Nat) : Int) - 1) := by
          rcases hkid with e | ⟨e, -⟩ | ⟨_, e1, e2, e3, e4⟩
          · exact Or.inl e
          · omega
          · exact Or.inr (Or.inr ⟨e1, e2, e3, by omega⟩)
        obtain ⟨r, hr⟩ : ∃ r : Nat, t = (r : Int) + 96 := ⟨(t - 96).toNat, by omega⟩
        obtain ⟨j, hj⟩ : ∃ j : Nat, k = (j : Int) := ⟨k.toNat, by omega⟩
        subst hr hj
        have ea : ∀ f : Int → Int, atS f ((r : Int) + 96) j = f ((r : Int) * 8 + j) := fun f => by rw [at_in ⟨t1, t2⟩ hk, show (r : Int) + 96 - 96 = r by omega]
        rw [show (r : Int) + 96 - 96 = r by omega] at t4
        rcases hpl r j (by omega) t3 (by omega) with e | ⟨e1, e2, e3⟩
        · rw [ea pl', e, ← ea pl]
          exact ih1 _ hok
        · rw [ea pl', e2, ea pl, e3]
          intro i
          have eq : atS pl' ((q : Int) + 96) i = atS pl w i := by
            by_cases hi : 0 ≤ i ∧ i < 8
            · obtain ⟨m, hm⟩ : ∃ m : Nat, i = (m : Int) := ⟨i.toNat, by omega⟩
              rw [at_in ⟨by omega, by omega⟩ hi, show (q : Int) + 96 - 96 = q by omega, hm, hq m (by omega)]
            · rw [at_out hi, at_out hi]
          rw [eq]
          refine ih0 _ ?_
          rcases hw with rfl | hw
          · exact Or.inl (at_m1 _ _)
          · rcases h.kid (n := kp) hw i with e | ⟨e, -⟩ | ⟨_, e1', e2', e3', e4'⟩
            · exact Or.inl e
            · exact Or.inr (Or.inl (by omega))
            · exact Or.inr (Or.inr ⟨e1', e2', e3', by omega⟩)
      · rw [at_out hk, at_out hk]; exact VE_m1 _ _ _
theorem nw_cnt {A c kd pl tr ex : Int → Int} (h : PI A c kd pl tr ex) {q : Nat} (hq : q < 160) (hz : c ((q : Int) + 96) = 0) {kp t : Int} (ht : t = -1 ∨ (96 ≤ t ∧ t < 256 ∧ c t ≠ 0)) {x : Int} (hx : TA x) : (nwS kp t q A c pl).2.1 x = c x + hdP pl t 8 x := by
  obtain ⟨j, hj, hu, hle, ho, hpl, hA, hA0, hd, hX⟩ := nw_NI (kp := kp) h hq hz ht
  obtain rfl : j = 8 := by omega
  have h1 := hX x hx
  have h2 := h.xc x hx
  (try dsimp only at h1)
  rw [rfP_c (fun p hp => hu p hp) x] at h1
  omega
theorem LGc_dec {pl c : Int → Int} {w : Int} (hw : TA w) (h : c w ≠ 1) (n : Nat) : (LGc pl (n + 1) c w).2 = am_up c w (c w - 1) := by
  unfold LGc; rw [if_pos hw, if_neg (by omega)]
theorem hdP_nn (pl : Int → Int) (t : Int) (k : Nat) (x : Int) : 0 ≤ hdP pl t k x := sm_nn k (fun i _ => by (try dsimp only); split <;> omega)
/-- counts behind a fresh part like t: its own is one, those of higher parts stay -/
theorem fresh_cnt {M : am_M} {A ex : Int → Int} (h : PI A (M 4) (M 5) (M 6) (M 10) ex) {q : Nat} (hq : frC (M 4) = q) {kp t : Int} (ht : t = -1 ∨ (96 ≤ t ∧ t < 256 ∧ M 4 t ≠ 0 ∧ M 5 (t - 96) = kp)) (hn : cntS (M 4) t ≠ 1) (pl' : Int → Int) :
    (LGc pl' 4 (rs (nwS kp t q A (M 4) (M 6)).2.1 ((q : Int) + 96)) t).2 ((q : Int) + 96) = 1 ∧ ∀ x : Int, 96 ≤ x → x < 256 → M 4 x ≠ 0 → kp < M 5 (x - 96) → (LGc pl' 4 (rs (nwS kp t q A (M 4) (M 6)).2.1 ((q : Int) + 96)) t).2 x = M 4 x := by
  have hq2 : 0 ≤ (q : Int) ∧ (q : Int) < 160 ∧ M 4 ((q : Int) + 96) = 0 := by
    rcases frC_in (M 4) with e | e
    · omega
    · rw [hq] at e; exact e
  have hqn : q < 160 := by omega
  have ht' : t = -1 ∨ (96 ≤ t ∧ t < 256 ∧ M 4 t ≠ 0) := by
    rcases ht with e | ⟨e1, e2, e3, _⟩
    · exact Or.inl e
    · exact Or.inr ⟨e1, e2, e3⟩
  have z1 := nw_use (kp := kp) h hqn hq2.2.2 ht' hq2.2.2
  have c1 := fun x hx => nw_cnt (kp := kp) h hqn hq2.2.2 ht' (x := x) hx
  generalize (nwS kp t q A (M 4) (M 6)).2.1 = s at z1 c1 ⊢
  have er : rs s ((q : Int) + 96) = am_up s ((q : Int) + 96) 1 := by unfold rs; rw [if_pos ⟨by omega, by omega⟩, z1]; rfl
  rw [er]
  have hsx : ∀ x : Int, 96 ≤ x → x < 256 → M 4 x ≠ 0 → kp < M 5 (x - 96) → s x = M 4 x := fun x h1 h2 h3 h4 => by
    have hz : hdP (M 6) t 8 x = 0 := sm_zero 8 (fun i hi => by
      (try dsimp only)
      refine if_neg (fun e => ?_)
      rcases ht with rfl | ht
      · rw [at_m1] at e; omega
      · rcases h.kid (n := kp) ht i with q | ⟨_, _, q, _⟩ | ⟨_, _, _, _, q⟩
        · omega
        · omega
        · rw [e] at q; omega)
    rw [c1 x ⟨by omega, h2⟩, hz]; omega
  rcases ht with rfl | ⟨t1, t2, t3, t4⟩
  · rw [LGc_m1]
    refine ⟨up_eq _ _ _, fun x h1 h2 h3 h4 => ?_⟩
    rw [up_ne _ _ (fun e => h3 (by rw [e]; exact hq2.2.2))]
    exact hsx x h1 h2 h3 h4
  · have htq : t ≠ (q : Int) + 96 := fun e => t3 (by rw [e]; exact hq2.2.2)
    have hb := (h.bd t).1
    have hcn : cntS (M 4) t = M 4 t := if_pos ⟨by omega, t2⟩
    have := c1 t ⟨by omega, t2⟩
    have := hdP_nn (M 6) t 8 t
    rw [LGc_dec ⟨by omega, t2⟩ (by rw [up_ne _ _ htq]; omega)]
    refine ⟨by rw [up_ne _ _ (fun e => htq e.symm), up_eq], fun x h1 h2 h3 h4 => ?_⟩
    rw [up_ne _ _ (fun e => by rw [e] at h4; omega), up_ne _ _ (fun e => h3 (by rw [e]; exact hq2.2.2))]
    exact hsx x h1 h2 h3 h4
