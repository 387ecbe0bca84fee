/-! OPENING leaves what is mapped, and the way is its own -/
def ownP (M : am_M) (v a l : Int) : Prop := ∀ j : Int, l ≤ j → 1 ≤ j → j ≤ 3 → M 4 (thgS M v a j) = 1
theorem thg_3 {M : am_M} {v : Int} (hv : thS M v) (a : Int) : thgS M v a 3 = M 10 v := by unfold thgS; rw [if_pos hv, if_pos (by omega)]
theorem thg_2 {M : am_M} {v : Int} (hv : thS M v) (a : Int) : thgS M v a 2 = twS M v a := by unfold thgS; rw [if_pos hv, if_neg (by omega), if_pos rfl]
theorem thg_1 {M : am_M} {v : Int} (hv : thS M v) (a : Int) : thgS M v a 1 = lfS M v a := by unfold thgS; rw [if_pos hv, if_neg (by omega), if_neg (by omega), if_pos rfl]
theorem thg_0 {M : am_M} {v : Int} (hv : thS M v) (a : Int) : thgS M v a 0 = bkS M v a := by unfold thgS; rw [if_pos hv, if_neg (by omega), if_neg (by omega), if_neg (by omega)]
/-- what a trunk is, where it hangs -/
theorem RV.tr {M : am_M} {A ex : Int → Int} (hV : RV M A) (h : PI A (M 4) (M 5) (M 6) (M 10) ex) {w : Nat} (hw : w < 12) : M 10 w = -1 ∨ (96 ≤ M 10 w ∧ M 10 w < 256 ∧ M 4 (M 10 w) ≠ 0 ∧ M 5 (M 10 w - 96) = 2) := by
  rcases (hV w hw).1 with e | ⟨e1, e2, e3⟩
  · exact Or.inl e
  · exact Or.inr ⟨e1, e2, by have := h.trunk hw ⟨by omega, e2⟩; omega, e3⟩
/-- one level, a fresh part: contents and counts -/
theorem lvl_fc {M : am_M} {A ex : Int → Int} (h : PI A (M 4) (M 5) (M 6) (M 10) ex) (hV : RV M A) {q p k : Nat} (hq : frC (M 4) = q) (hp : p < 160) (hk : k < 8) (hc0 : M 4 ((p : Int) + 96) ≠ 0) {kp : Int} (hkp : 0 ≤ kp ∧ kp ≤ 1) (hkd : M 5 p = kp + 1) (hn : cntS (M 4) (M 6 ((p : Int) * 8 + k)) ≠ 1) (hw : M 6 ((p : Int) * 8 + k) = -1 ∨ (96 ≤ M 6 ((p : Int) * 8 + k) ∧ M 6 ((p : Int) * 8 + k) < 256 ∧ M 4 (M 6 ((p : Int) * 8 + k)) ≠ 0 ∧ M 5 (M 6 ((p : Int) * 8 + k) - 96) = kp)) {M' : am_M} (hM : hangS (ownS M (M 6 ((p : Int) * 8 + k)) kp).2 ((p : Int) + 96) k ((q : Int) + 96) = M') :
    M' 4 ((q : Int) + 96) = 1 ∧ (∀ x : Int, 96 ≤ x → x < 256 → M 4 x ≠ 0 → kp < M 5 (x - 96) → M' 4 x = M 4 x) ∧ (∀ w : Nat, w < 12 → ∀ b : Int, ct (M' 6) (M' 10) w b = ct (M 6) (M 10) w b) := by
  have hq2 : 0 ≤ (q : Int) ∧ (q : Int) < 160 ∧ M 4 ((q : Int) + 96) = 0 := by
    rcases frC_in (M 4) with e | e
    · omega
    · rw [hq] at e; exact e
  have hqn : q < 160 := by omega
  have fc := fresh_cnt h hq hw hn
  have hN := nw_NI (kp := kp) h hqn hq2.2.2 (t := M 6 ((p : Int) * 8 + k)) (by
    rcases hw with h | ⟨h1, h2, h3, -⟩
    · exact Or.inl h
    · exact Or.inr ⟨h1, h2, h3⟩)
  generalize hs : nwS kp (M 6 ((p : Int) * 8 + k)) q A (M 4) (M 6) = s at fc hN
  obtain ⟨o1, o2⟩ := open_fresh h hq hp hk hc0 hkp hkd hs hn hw
  rw [o2] at hM
  subst hM
  obtain ⟨j, hj, hu, -, -, hpl, -, -, hd, -⟩ := hN
  have hpq : p ≠ q := fun e => hc0 (by rw [e]; exact hq2.2.2)
  rw [m546_4, m546_6, m546_o _ _ _ _ (r := 10) (by decide) (by decide) (by decide)]
  obtain ⟨f1, f2⟩ := fc (am_up s.2.2 ((p : Int) * 8 + k) ((q : Int) + 96))
  refine ⟨f1, f2, fun w hw12 b => VE_ct (VE_cp h hqn (kp := kp) (w := M 6 ((p : Int) * 8 + k)) (fun r i hr hr0 hi => ?_) (fun i hi => ?_) hkp.1 hw 3 _ ?_) b⟩
  · have hrq : r ≠ q := fun e => hr0 (by rw [e]; exact hq2.2.2)
    by_cases e : r = p ∧ i = k
    · obtain ⟨rfl, rfl⟩ := e
      exact Or.inr ⟨hkd, up_eq _ _ _, rfl⟩
    · left
      rw [up_ne _ _ (by omega)]
      exact hpl r i hrq hi
  · rw [up_ne _ _ (by omega)]
    exact (hd i (by omega)).1
  · rcases hV.tr h hw12 with e | ⟨e1, e2, e3, e4⟩
    · exact Or.inl e
    · exact Or.inr (Or.inr ⟨e1, e2, e3, by omega⟩)
theorem lvl_tc {M : am_M} {A ex : Int → Int} (h : PI A (M 4) (M 5) (M 6) (M 10) ex) (hV : RV M A) {q v : Nat} (hq : frC (M 4) = q) (hv : thS M v) (hn : cntS (M 4) (M 10 v) ≠ 1) {M' : am_M} (hM : hgTS (ownS M (M 10 v) 2).2 v ((q : Int) + 96) = M') :
    M' 4 ((q : Int) + 96) = 1 ∧ (∀ w : Nat, w < 12 → ∀ b : Int, ct (M' 6) (M' 10) w b = ct (M 6) (M 10) w b) := by
  have hq2 : 0 ≤ (q : Int) ∧ (q : Int) < 160 ∧ M 4 ((q : Int) + 96) = 0 := by
    rcases frC_in (M 4) with e | e
    · omega
    · rw [hq] at e; exact e
  have hqn : q < 160 := by omega
  have hv12 : v < 12 := by have := hv.2.1; omega
  have hw := hV.tr h hv12
  have fc := fresh_cnt h hq hw hn
  have hN := nw_NI (kp := 2) h hqn hq2.2.2 (t := M 10 v) (by
    rcases hw with h | ⟨h1, h2, h3, -⟩
    · exact Or.inl h
    · exact Or.inr ⟨h1, h2, h3⟩)
  generalize hs : nwS 2 (M 10 v) q A (M 4) (M 6) = s at fc hN
  obtain ⟨o1, o2⟩ := open_trunk h hq hv hs hn hw ((hV v hv12).2 hv.2.2)
  rw [o2] at hM
  subst hM
  obtain ⟨j, hj, hu, -, -, hpl, -, -, hd, -⟩ := hN
  rw [st_ne _ _ (by decide), st_ne _ _ (by decide), st_eq, m546_4, m546_6]
  have hpl' : ∀ r i : Nat, r < 160 → M 4 ((r : Int) + 96) ≠ 0 → i < 8 → s.2.2 ((r : Int) * 8 + i) = M 6 ((r : Int) * 8 + i) := fun r i hr hr0 hi => by
    have hrq : r ≠ q := fun e => hr0 (by rw [e]; exact hq2.2.2)
    exact hpl r i hrq hi
  have hid := VE_cp h hqn (kp := 2) (w := M 10 v) (pl' := s.2.2) (fun r i hr hr0 hi => Or.inl (hpl' r i hr hr0 hi)) (fun i hi => (hd i (by omega)).1) (by omega) hw
  refine ⟨(fc s.2.2).1, fun w hw12 b => ?_⟩
  refine VE_ct ?_ b
  by_cases e : w = v
  · subst e
    rw [up_eq]
    intro i
    have eq : atS s.2.2 ((q : Int) + 96) i = atS (M 6) (M 10 w) i := by
      by_cases hi : 0 ≤ i ∧ i < 8
      · obtain ⟨m, hm⟩ : ∃ m : Nat, i = (m : Int) := ⟨i.toNat, by omega⟩
        rw [at_in ⟨by omega, by omega⟩ hi, show (q : Int) + 96 - 96 = q by omega, hm, (hd m (by omega)).1]
      · rw [at_out hi, at_out hi]
    rw [eq]
    refine hid 2 _ ?_
    rcases hw with e | hw
    · rw [e]; exact Or.inl (at_m1 _ _)
    · rcases h.kid (n := 2) hw i with e | ⟨e, -⟩ | ⟨_, e1', e2', e3', e4'⟩
      · exact Or.inl e
      · omega
      · exact Or.inr (Or.inr ⟨e1', e2', e3', by omega⟩)
  · rw [up_ne _ _ (by omega)]
    refine hid 3 _ ?_
    rcases hV.tr h hw12 with e | ⟨e1, e2, e3, e4⟩
    · exact Or.inl e
    · exact Or.inr (Or.inr ⟨e1, e2, e3, by omega⟩)
theorem open_ol {ex : Int → Int} {v : Nat} {a low : Int} (hl : 0 ≤ low) : ∀ (m : Nat), m ≤ 2 → low ≤ m → ∀ (M : am_M) (A : Int → Int) (p : Nat), PI A (M 4) (M 5) (M 6) (M 10) ex → RV M A → thS M v → p < 160 → thgS M v a ((m : Int) + 1) = (p : Int) + 96 → M 5 p = m → ownP M v a ((m : Int) + 1) →
    (opS v a low m M ((p : Int) + 96)).1 ≠ -1 → ownP (opS v a low m M ((p : Int) + 96)).2 v a (low + 1) ∧ ∀ w : Nat, w < 12 → ∀ b : Int, ct ((opS v a low m M ((p : Int) + 96)).2 6) ((opS v a low m M ((p : Int) + 96)).2 10) w b = ct (M 6) (M 10) w b
  | 0, _, hlm, M, A, p, hPI, hV, hv, hp, hP, hk, hO, _ => by
    have h0 : low = 0 := by omega
    subst h0
    exact ⟨hO, fun _ _ _ => rfl⟩
  | m + 1, hm, hlm, M, A, p, hPI, hV, hv, hp, hP, hk, hO, hne => by
    have hu := thg_used hPI hv a hm (by omega) hp hV hP
    by_cases hst : (m : Int) < low
    · have e : opS v a low (m + 1) M ((p : Int) + 96) = ((p : Int) + 96, M) := by unfold opS; rw [if_pos hst]
      rw [e]
      refine ⟨?_, fun _ _ _ => rfl⟩
      rw [show low = ((m + 1 : Nat) : Int) by omega]
      exact hO
    · have hx := thg_next hv a (m := m) (by omega) hp hP
      have h8 := plc_8 a ((m : Int) + 1)
      obtain ⟨k, hkk⟩ : ∃ k : Nat, plc a ((m : Int) + 1) = (k : Int) := ⟨(plc a ((m : Int) + 1)).toNat, by omega⟩
      have hk8 : k < 8 := by omega
      rw [hkk] at hx
      have hkd : M 5 p = (m : Int) + 1 := by omega
      have hw : M 6 ((p : Int) * 8 + k) = -1 ∨ (96 ≤ M 6 ((p : Int) * 8 + k) ∧ M 6 ((p : Int) * 8 + k) < 256 ∧ M 4 (M 6 ((p : Int) * 8 + k)) ≠ 0 ∧ M 5 (M 6 ((p : Int) * 8 + k) - 96) = m) := by
        rcases hPI.kw.ft hp hk8 hu with e | ⟨e, -⟩ | ⟨e1, e2, e3, e4, e5⟩
        · exact Or.inl e
        · omega
        · exact Or.inr ⟨e3, e4, by have := hPI.child hp hk8 hu ⟨by omega, e4⟩; omega, by omega⟩
      unfold opS at hne ⊢
      rw [if_neg hst, hx] at hne ⊢
      by_cases h1 : cntS (M 4) (M 6 ((p : Int) * 8 + k)) = 1
      · have hne1 : M 6 ((p : Int) * 8 + k) ≠ -1 := fun e => by rw [e] at h1; unfold cntS at h1; rw [if_neg (by omega)] at h1; omega
        obtain ⟨e1, e2, e3, e4⟩ : 96 ≤ M 6 ((p : Int) * 8 + k) ∧ M 6 ((p : Int) * 8 + k) < 256 ∧ M 4 (M 6 ((p : Int) * 8 + k)) ≠ 0 ∧ M 5 (M 6 ((p : Int) * 8 + k) - 96) = m := by
          rcases hw with e | e
          · exact absurd e hne1
          · exact e
        obtain ⟨o1, -⟩ := lvl_old hPI (kp := m) (by omega) ⟨e1, e2, e3, e4⟩ h1 0 M
        obtain ⟨o, ho⟩ : ∃ o : Nat, M 6 ((p : Int) * 8 + k) = (o : Int) + 96 := ⟨(M 6 ((p : Int) * 8 + k) - 96).toNat, by omega⟩
        rw [o1] at hne ⊢
        (try dsimp only at hne ⊢)
        rw [if_neg hne1, if_pos rfl, ho] at hne ⊢
        rw [ho] at hx
        rw [show M 6 ((p : Int) * 8 + k) - 96 = (o : Int) by omega] at e4
        refine open_ol hl m (by omega) (by omega) M A o hPI hV hv (by omega) hx e4 (fun j h1j h2j h3j => ?_) hne
        by_cases ej : j = (m : Int) + 1
        · subst ej
          rw [hx, ← ho]
          have : cntS (M 4) (M 6 ((p : Int) * 8 + k)) = M 4 (M 6 ((p : Int) * 8 + k)) := if_pos ⟨by omega, e2⟩
          omega
        · exact hO j (by omega) h2j h3j
      · rcases frC_in (M 4) with hf | ⟨f1, f2, f3⟩
        · obtain ⟨o1, -⟩ := lvl_none hPI (kp := m) (by omega) hw h1 hf 0 M
          rw [o1, if_pos rfl] at hne
          exact absurd rfl hne
        · obtain ⟨q, hq⟩ : ∃ q : Nat, frC (M 4) = (q : Int) := ⟨(frC (M 4)).toNat, by omega⟩
          obtain ⟨M', A', R, hqn, g1, g2, -, -, -, -, g7, g8, g9, g10, g11, g12, g13, -, -⟩ := lvl_fresh hPI hV hq hp hk8 hu (kp := m) (by omega) hkd h1 hw 0 M
          obtain ⟨c1, c2, c3⟩ := lvl_fc hPI hV hq hp hk8 hu (kp := m) (by omega) hkd h1 hw g2
          have hqx : (q : Int) + 96 ≠ M 6 ((p : Int) * 8 + k) := fun e => by
            rcases hw with e' | ⟨-, -, e', -⟩
            · omega
            · rw [← e, ← hq] at e'; exact e' f3
          rw [g1, if_neg (by omega), if_neg hqx, if_neg (by omega), hkk, g2] at hne ⊢
          have hv' : thS M' v := by
            refine ⟨hv.1, hv.2.1, ?_⟩
            rw [g11 7 (by decide) (by decide) (by decide)]; exact hv.2.2
          have hv12 : v < 12 := by have := hv.2.1; omega
          have e10 : M' 10 = M 10 := g11 10 (by decide) (by decide) (by decide)
          -- the way above, and its counts
          have hup : ∀ j : Int, (m : Int) + 2 ≤ j → j ≤ 3 → thgS M' v a j = thgS M v a j ∧ M' 4 (thgS M v a j) = M 4 (thgS M v a j) := by
            intro j hj1 hj3
            have htr := hV.tr hPI hv12
            have hpm : M' 4 ((p : Int) + 96) = M 4 ((p : Int) + 96) := c2 _ (by omega) (by omega) hu (by rw [show (p : Int) + 96 - 96 = p by omega]; omega)
            rcases (show (m = 0 ∧ j = 2) ∨ j = 3 by omega) with ⟨rfl, rfl⟩ | rfl
            · have hP2 : thgS M v a 2 = (p : Int) + 96 := hP
              refine ⟨?_, by rw [hP2]; exact hpm⟩
              rw [thg_2 hv', thg_2 hv]
              unfold twS
              rw [e10]
              rcases htr with e | ⟨t1, t2, t3, t4⟩
              · rw [e, at_m1, at_m1]
              · obtain ⟨t, ht⟩ : ∃ t : Nat, M 10 v = (t : Int) + 96 := ⟨(M 10 v - 96).toNat, by omega⟩
                have h82 := plc_8 a 2
                obtain ⟨i, hi⟩ : ∃ i : Nat, plc a 2 = (i : Int) := ⟨(plc a 2).toNat, by omega⟩
                rw [hi, at_in ⟨t1, t2⟩ (by omega), at_in ⟨t1, t2⟩ (by omega), show M 10 v - 96 = (t : Int) by omega]
                have htp : t ≠ p := fun e => by
                  rw [show M 10 v - 96 = (t : Int) by omega, e] at t4
                  omega
                exact g12 t i (by omega) (by rw [← ht]; exact t3) (by omega) (fun q => htp q.1)
            · refine ⟨by rw [thg_3 hv', thg_3 hv, e10], ?_⟩
              rw [thg_3 hv]
              rcases htr with e | ⟨t1, t2, t3, t4⟩
              · rw [e, g7.zo (-1) (fun q => by have := q.1; omega), hPI.zo (-1) (fun q => by have := q.1; omega)]
              · exact c2 _ t1 t2 t3 (by omega)
          have hP' : thgS M' v a (((m + 1 : Nat) : Int) + 1) = (p : Int) + 96 := by
            rw [(hup (((m + 1 : Nat) : Int) + 1) (by omega) (by omega)).1]; exact hP
          have hx' := thg_next hv' a (m := m) (by omega) hp hP'
          rw [hkk, g9] at hx'
          obtain ⟨r1, r2⟩ := open_ol hl m (by omega) (by omega) M' A' q g7 g8 hv' hqn hx' g10 (fun j h1j h2j h3j => by
            by_cases ej : j = (m : Int) + 1
            · subst ej
              rw [hx']; exact c1
            · obtain ⟨u1, u2⟩ := hup j (by omega) h3j
              rw [u1, u2]
              exact hO j (by omega) h2j h3j) hne
          exact ⟨r1, fun w hw b => by rw [r2 w hw b, c3 w hw b]⟩
theorem open_own {ex : Int → Int} {v : Nat} {a low : Int} (hl : 0 ≤ low ∧ low ≤ 2) {M : am_M} {A : Int → Int} (hPI : PI A (M 4) (M 5) (M 6) (M 10) ex) (hV : RV M A) (hv : thS M v) (hne : (opS v a low 3 M (-1)).1 ≠ -1) : ownP (opS v a low 3 M (-1)).2 v a (low + 1) ∧ ∀ w : Nat, w < 12 → ∀ b : Int, ct ((opS v a low 3 M (-1)).2 6) ((opS v a low 3 M (-1)).2 10) w b = ct (M 6) (M 10) w b := by
  have hv12 : v < 12 := by have := hv.2.1; omega
  have hw := hV.tr hPI hv12
  have e3 : thgS M v a (((2 : Nat) : Int) + 1) = M 10 v := thg_3 hv a
  unfold opS at hne ⊢
  rw [if_neg (show ¬ ((2 : Nat) : Int) < low by omega), e3] at hne ⊢
  by_cases h1 : cntS (M 4) (M 10 v) = 1
  · have hne1 : M 10 v ≠ -1 := fun e => by rw [e] at h1; unfold cntS at h1; rw [if_neg (by omega)] at h1; omega
    obtain ⟨t1, t2, t3, t4⟩ : 96 ≤ M 10 v ∧ M 10 v < 256 ∧ M 4 (M 10 v) ≠ 0 ∧ M 5 (M 10 v - 96) = 2 := by
      rcases hw with e | e
      · exact absurd e hne1
      · exact e
    obtain ⟨o1, -⟩ := lvl_old hPI (kp := 2) (by omega) ⟨t1, t2, t3, t4⟩ h1 0 M
    obtain ⟨o, ho⟩ : ∃ o : Nat, M 10 v = (o : Int) + 96 := ⟨(M 10 v - 96).toNat, by omega⟩
    have o1' : ownS M (M 10 v) ((2 : Nat) : Int) = (M 10 v, M) := o1
    rw [o1'] at hne ⊢
    (try dsimp only at hne ⊢)
    rw [if_neg hne1, if_pos rfl, ho] at hne ⊢
    have e3' := e3
    rw [ho] at e3'
    rw [show M 10 v - 96 = (o : Int) by omega] at t4
    refine open_ol hl.1 2 (by omega) (by omega) M A o hPI hV hv (by omega) e3' t4 (fun j h1j h2j h3j => ?_) hne
    rw [show j = ((2 : Nat) : Int) + 1 by omega, e3]
    have : cntS (M 4) (M 10 v) = M 4 (M 10 v) := if_pos ⟨by omega, t2⟩
    omega
  · rcases frC_in (M 4) with hf | ⟨f1, f2, f3⟩
    · obtain ⟨o1, -⟩ := lvl_none hPI (kp := 2) (by omega) hw h1 hf 0 M
      have o1' : ownS M (M 10 v) ((2 : Nat) : Int) = (-1, M) := o1
      rw [o1', if_pos rfl] at hne
      exact absurd rfl hne
    · obtain ⟨q, hq⟩ : ∃ q : Nat, frC (M 4) = (q : Int) := ⟨(frC (M 4)).toNat, by omega⟩
      obtain ⟨M', A', R, hqn, g1, g1', g2, -, -, -, -, g7, g8, g9, g10, g11, g12, -, -, -, -⟩ := lvl_trunk hPI hV hq hv h1 0 M
      obtain ⟨c1, c3⟩ := lvl_tc hPI hV hq hv h1 g2
      have g1c : (ownS M (M 10 v) ((2 : Nat) : Int)).1 = (q : Int) + 96 := g1
      have g2c : hgTS (ownS M (M 10 v) ((2 : Nat) : Int)).2 v ((q : Int) + 96) = M' := g2
      rw [g1c, if_neg (by omega), if_neg g1', if_pos rfl, g2c] at hne ⊢
      have hv' : thS M' v := by
        refine ⟨hv.1, hv.2.1, ?_⟩
        rw [g12 7 (by decide) (by decide) (by decide) (by decide)]; exact hv.2.2
      have hP' : thgS M' v a (((2 : Nat) : Int) + 1) = (q : Int) + 96 := (thg_3 hv' a).trans g9
      obtain ⟨r1, r2⟩ := open_ol hl.1 2 (by omega) (by omega) M' A' q g7 g8 hv' hqn hP' g10 (fun j h1j h2j h3j => by
        rw [show j = ((2 : Nat) : Int) + 1 by omega, hP']; exact c1) hne
      exact ⟨r1, fun w hw b => by rw [r2 w hw b, c3 w hw b]⟩
