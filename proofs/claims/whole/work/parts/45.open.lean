/-! OPENING one level: the class's memory, where a fresh part was needed -/
theorem st_off3 (M : am_M) {i j k r : Nat} (f g e : Int → Int) (h1 : r ≠ i) (h2 : r ≠ j) (h3 : r ≠ k) : am_st (am_st (am_st M i f) j g) k e r = M r := by rw [st_ne _ _ h3, st_ne _ _ h2, st_ne _ _ h1]
/-- the memory with these kinds, places, counts -/
def m546 (M : am_M) (kd pl c : Int → Int) : am_M := am_st (am_st (am_st M 5 kd) 6 pl) 4 c
theorem m546_4 (M : am_M) (kd pl c : Int → Int) : m546 M kd pl c 4 = c := st_eq _ _ _
theorem m546_5 (M : am_M) (kd pl c : Int → Int) : m546 M kd pl c 5 = kd := by unfold m546; rw [st_ne _ _ (by decide), st_ne _ _ (by decide), st_eq]
theorem m546_6 (M : am_M) (kd pl c : Int → Int) : m546 M kd pl c 6 = pl := by unfold m546; rw [st_ne _ _ (by decide), st_eq]
theorem m546_o (M : am_M) (kd pl c : Int → Int) {r : Nat} (h4 : r ≠ 4) (h5 : r ≠ 5) (h6 : r ≠ 6) : m546 M kd pl c r = M r := st_off3 M _ _ _ h5 h6 h4
theorem own_fresh {M : am_M} {A ex : Int → Int} (h : PI A (M 4) (M 5) (M 6) (M 10) ex) {q : Nat} (hq : frC (M 4) = q) {kp t : Int} (hn : cntS (M 4) t ≠ 1) : ownS M t kp = ((q : Int) + 96, m546 M (am_up (M 5) q kp) (nwS kp t q A (M 4) (M 6)).2.2 (nwS kp t q A (M 4) (M 6)).2.1) := by
  rw [ownS_pure M A t kp (fun y => by have := h.bd y; omega), if_neg hn, if_neg (by omega), hq]
  unfold m546
  rw [st_comm _ _ _ (show (4 : Nat) ≠ 6 by decide)]
theorem open_fresh {M : am_M} {A ex : Int → Int} (h : PI A (M 4) (M 5) (M 6) (M 10) ex) {q p k : Nat} (hq : frC (M 4) = q) (hp : p < 160) (hk : k < 8) (hc0 : M 4 ((p : Int) + 96) ≠ 0) {kp : Int} (hkp : 0 ≤ kp ∧ kp ≤ 1) (hkd : M 5 p = kp + 1) {s : (Int → Int) × (Int → Int) × (Int → Int)} (hs : nwS kp (M 6 ((p : Int) * 8 + k)) q A (M 4) (M 6) = s) (hn : cntS (M 4) (M 6 ((p : Int) * 8 + k)) ≠ 1) (hw : M 6 ((p : Int) * 8 + k) = -1 ∨ (96 ≤ M 6 ((p : Int) * 8 + k) ∧ M 6 ((p : Int) * 8 + k) < 256 ∧ M 4 (M 6 ((p : Int) * 8 + k)) ≠ 0 ∧ M 5 (M 6 ((p : Int) * 8 + k) - 96) = kp)) :
    (ownS M (M 6 ((p : Int) * 8 + k)) kp).1 = (q : Int) + 96 ∧ hangS (ownS M (M 6 ((p : Int) * 8 + k)) kp).2 ((p : Int) + 96) k ((q : Int) + 96) = m546 M (am_up (M 5) q kp) (am_up s.2.2 ((p : Int) * 8 + k) ((q : Int) + 96)) (LGc (am_up s.2.2 ((p : Int) * 8 + k) ((q : Int) + 96)) 4 (rs s.2.1 ((q : Int) + 96)) (M 6 ((p : Int) * 8 + k))).2 := by
  have hq2 : 0 ≤ (q : Int) ∧ (q : Int) < 160 ∧ M 4 ((q : Int) + 96) = 0 := by
    rcases frC_in (M 4) with e | e
    · omega
    · rw [hq] at e; exact e
  obtain ⟨-, ew, hbd, -⟩ := fresh_hang h (q := q) (by omega) hq2.2.2 hp hk hc0 hkp hkd hs hw 0 M
  rw [own_fresh h hq hn, hs]
  refine ⟨rfl, ?_⟩
  (try dsimp only)
  rw [hangS_pure _ hp hk _ (fun y => by rw [m546_4]; have := hbd y; omega), m546_4, m546_6, ew]
  unfold m546
  rw [st_46 _ (by decide), st_st]
theorem open_trunk {M : am_M} {A ex : Int → Int} (h : PI A (M 4) (M 5) (M 6) (M 10) ex) {q v : Nat} (hq : frC (M 4) = q) (hv : thS M v) {s : (Int → Int) × (Int → Int) × (Int → Int)} (hs : nwS 2 (M 10 v) q A (M 4) (M 6) = s) (hn : cntS (M 4) (M 10 v) ≠ 1) (hw : M 10 v = -1 ∨ (96 ≤ M 10 v ∧ M 10 v < 256 ∧ M 4 (M 10 v) ≠ 0 ∧ M 5 (M 10 v - 96) = 2)) (hA : A (1796 + 9 * (v : Int) + 4) = decT (M 10 v)) :
    (ownS M (M 10 v) 2).1 = (q : Int) + 96 ∧ hgTS (ownS M (M 10 v) 2).2 v ((q : Int) + 96) = am_st (m546 M (am_up (M 5) q 2) s.2.2 (LGc s.2.2 4 (rs s.2.1 ((q : Int) + 96)) (M 10 v)).2) 10 (am_up (M 10) v ((q : Int) + 96)) := by
  have hq2 : 0 ≤ (q : Int) ∧ (q : Int) < 160 ∧ M 4 ((q : Int) + 96) = 0 := by
    rcases frC_in (M 4) with e | e
    · omega
    · rw [hq] at e; exact e
  have hv12 : v < 12 := by have := hv.2.1; omega
  obtain ⟨-, hbd, -⟩ := fresh_trunk h (q := q) (v := v) (by omega) hq2.2.2 hv12 hs hw hA 0 M
  rw [own_fresh h hq hn, hs]
  refine ⟨rfl, ?_⟩
  (try dsimp only)
  have hv2 : thS (m546 M (am_up (M 5) q 2) s.2.2 s.2.1) v := by
    refine ⟨hv.1, hv.2.1, ?_⟩
    rw [m546_o _ _ _ _ (by decide) (by decide) (by decide)]
    exact hv.2.2
  rw [hgTS_pure _ hv2 _ (fun y => by rw [m546_4]; have := hbd y; omega), m546_4, m546_6, m546_o _ _ _ _ (r := 10) (by decide) (by decide) (by decide)]
  unfold m546
  rw [st_46 _ (by decide), st_comm _ _ _ (show (10 : Nat) ≠ 4 by decide)]
/-- what is free stays so, but the new part's place -/
theorem nw_use {A c kd pl tr ex : Int → Int} (h : PI A c kd pl tr ex) {q : Nat} (hq : q < 160) (hz : c ((q : Int) + 96) = 0) {kp t : Int} (ht : t = -1 ∨ (96 ≤ t ∧ t < 256 ∧ c t ≠ 0)) {x : Int} (hx : c x = 0) : (nwS kp t q A c pl).2.1 x = 0 := by
  obtain ⟨j, hj, hu, hle, ho, hpl, hA, hA0, hd, hX⟩ := nw_NI (kp := kp) h hq hz ht
  obtain rfl : j = 8 := by omega
  by_cases hT : TA x
  · have h1 := hX x hT
    have h2 := h.xc x hT
    (try dsimp only at h1)
    rw [rfP_c (fun p hp => hu p hp) x] at h1
    have h3 : hdP pl t 8 x = 0 := sm_zero 8 (fun i hi => by
      (try dsimp only)
      by_cases he : atS pl t i = x
      · exfalso
        rcases ht with ht | ⟨t1, t2, t3⟩
        · rw [ht, at_m1] at he
          have := hT.1
          omega
        · obtain ⟨p, hp⟩ : ∃ p : Nat, t = (p : Int) + 96 := ⟨(t - 96).toNat, by omega⟩
          rw [at_in ⟨t1, t2⟩ ⟨by omega, by omega⟩, show t - 96 = (p : Int) by omega] at he
          have := h.child (p := p) (k := i) (by omega) hi (by rw [← hp]; exact t3) (by rw [he]; exact hT)
          rw [he] at this
          omega
      · rw [if_neg he])
    omega
  · rw [ho x hT]; exact hx
theorem LGc_z {pl c : Int → Int} {w x : Int} (hx : c x = 0) (h0 : 0 ≤ (LGc pl 4 c w).2 x) : (LGc pl 4 c w).2 x = 0 := by
  have := ((LGc_low pl 4 c w).1 x).2
  omega
theorem rs_z {c : Int → Int} {q : Nat} {x : Int} (h : x < 96) (hx : c x = 0) : rs c ((q : Int) + 96) x = 0 := by
  unfold rs
  split
  · rw [up_ne _ _ (by omega)]; exact hx
  · exact hx
