/-! TRUNKS HUNG from a volume: a fresh one, one in use, none -/
theorem CO_up {A c kd pl : Int → Int} (h : CO A c kd pl) {j : Int} (hj : j < 196 ∨ 1796 ≤ j) (x : Int) : CO (am_up A j x) c kd pl := fun p hp h0 => by
  obtain ⟨h1, h2⟩ := h p hp h0
  refine ⟨by rw [up_ne _ _ (by omega)]; exact h1, fun k hk => by rw [up_ne _ _ (by omega)]; exact h2 k hk⟩
theorem trunk_X {c pl tr ex : Int → Int} {v : Nat} (hv : v < 12) (hX : XC TA c pl tr ex) {x : Int} (hx : TA x → 0 < c x) : XC TA (rs c x) pl (am_up tr v x) (fun t => ex t + dl (tr v) t) := by
  intro t ht
  have h1 := hX t ht
  have h2 := rfT_up tr hv x t
  have h3 : rfP (rs c x) pl t = rfP c pl t := rfP_c (fun q hq => by
    unfold rs
    by_cases hxr : 0 ≤ x ∧ x < 256
    · rw [if_pos hxr]
      by_cases he : (q : Int) + 96 = x
      · have := hx hxr
        rw [he, up_eq]; omega
      · rw [up_ne _ _ he]
    · rw [if_neg hxr]) t
  (try dsimp only)
  rw [h2, h3]
  unfold rs dl
  by_cases hxr : 0 ≤ x ∧ x < 256
  · rw [if_pos hxr]
    by_cases htx : t = x
    · subst htx
      rw [up_eq, if_pos rfl]
      by_cases hw : tr v = t
      · rw [if_pos hw, if_pos hw.symm]; omega
      · rw [if_neg hw, if_neg (fun q => hw q.symm)]; omega
    · rw [up_ne _ _ htx, if_neg (fun q => htx q.symm)]
      by_cases hw : tr v = t
      · rw [if_pos hw, if_pos hw.symm]; omega
      · rw [if_neg hw, if_neg (fun q => hw q.symm)]; omega
  · have : ¬ x = t := fun e => hxr (by rw [e]; exact ht)
    rw [if_neg hxr, if_neg this]
    by_cases hw : tr v = t
    · rw [if_pos hw, if_pos hw.symm]; omega
    · rw [if_neg hw, if_neg (fun q => hw q.symm)]; omega
/-- a trunk in use, or none, hung from a volume -/
theorem trunk_hang {A c kd pl tr ex : Int → Int} (h : PI A c kd pl tr ex) {v : Nat} (hv : v < 12) {x : Int} (hx : x = -1 ∨ (96 ≤ x ∧ x < 256 ∧ c x ≠ 0)) (hw : tr v = -1 ∨ (96 ≤ tr v ∧ tr v < 256 ∧ kd (tr v - 96) = 2)) (hA : A (1796 + 9 * (v : Int) + 4) = decT (tr v)) (d : Nat) (M : am_M) :
    am_m am_P (d + 6) j_Md_hangTrunk [am_r 6 504, am_i v, am_i (decT x)] (am_st M 505 (wc A c)) = some (none, am_st M 505 (wc (am_up A (1796 + 9 * (v : Int) + 4) (decT x)) (LGc pl 4 (rs c x) (tr v)).2)) ∧ PI (am_up A (1796 + 9 * (v : Int) + 4) (decT x)) (LGc pl 4 (rs c x) (tr v)).2 kd pl (am_up tr v x) ex := by
  have hpos : TA x → 0 < c x := fun ht => by
    have := h.bd x
    rcases hx with e | ⟨-, -, e⟩
    · have := ht.1; omega
    · omega
  have hX := trunk_X hv h.xc hpos
  have hu : ∀ p : Nat, p < 160 → rs c x ((p : Int) + 96) ≠ 0 → c ((p : Int) + 96) ≠ 0 := fun p hp h0 e => by
    have hb := rs_bd (c := c) (x := x) (y := (p : Int) + 96)
    have : rs c x ((p : Int) + 96) = c ((p : Int) + 96) := by
      unfold rs
      by_cases hxr : 0 ≤ x ∧ x < 256
      · rw [if_pos hxr, up_ne _ _ (fun q => by have := hpos hxr; rw [← q, e] at this; omega)]
      · rw [if_neg hxr]
    rw [this] at h0
    exact h0 e
  have hK : KW (rs c x) kd pl := h.kw.mono hu
  have hC : CO (am_up A (1796 + 9 * (v : Int) + 4) (decT x)) (rs c x) kd pl := CO_up (h.co.mono hu) (by omega) _
  have hz : ∀ y, ¬ TA y → rs c x y = 0 := fun y hy => by
    unfold rs
    by_cases hxr : 0 ≤ x ∧ x < 256
    · rw [if_pos hxr, up_ne _ _ (fun q => hy (by rw [q]; exact hxr))]; exact h.zo y hy
    · rw [if_neg hxr]; exact h.zo y hy
  have er : rs c x = if x = -1 then c else am_up c x (c x + 1) := by
    rcases hx with e | ⟨e1, e2, -⟩
    · rw [if_pos e, e, rs_m1]
    · rw [if_neg (by omega)]; exact if_pos ⟨by omega, e2⟩
  refine ⟨?_, PI.letGo h.e0 hK hX hC hz (by
    rcases hw with e | ⟨e1, e2, e3⟩
    · exact Or.inl e
    · exact Or.inr (Or.inr ⟨e1, e2, by omega⟩))⟩
  have := S_Md_hangTrunk d (A := A) (kd := kd) (pl := pl) (tr := am_up tr v x) (c := c) (ex := ex) (v := (v : Int)) (by omega) (x := x) (w := tr v) (by
    rcases hx with e | ⟨e1, e2, -⟩
    · exact Or.inl e
    · exact Or.inr ⟨e1, e2⟩) hA (fun _ => by have := h.bd x; omega) (by
    rcases hw with e | ⟨e1, e2, e3⟩
    · exact Or.inl e
    · rw [← er]
      exact Or.inr ⟨e1, e2, e3, LR_of h.e0 hK hX hC (fun y => by have := h.bd y; have := rs_bd (c := c) (x := x) (y := y); omega)⟩) M
  rw [← er] at this
  exact this
/-- a fresh trunk hung from a volume -/
theorem fresh_trunk {A c kd pl tr ex : Int → Int} (h : PI A c kd pl tr ex) {q v : Nat} (hq : q < 160) (hz : c ((q : Int) + 96) = 0) (hv : v < 12) {s : (Int → Int) × (Int → Int) × (Int → Int)} (hs : nwS 2 (tr v) q A c pl = s) (hw : tr v = -1 ∨ (96 ≤ tr v ∧ tr v < 256 ∧ c (tr v) ≠ 0 ∧ kd (tr v - 96) = 2)) (hA : A (1796 + 9 * (v : Int) + 4) = decT (tr v)) (d : Nat) (M : am_M) :
    am_m am_P (d + 6) j_Md_hangTrunk [am_r 6 504, am_i v, am_i q] (am_st M 505 (wc s.1 s.2.1)) = some (none, am_st M 505 (wc (am_up s.1 (1796 + 9 * (v : Int) + 4) q) (LGc s.2.2 4 (rs s.2.1 ((q : Int) + 96)) (tr v)).2)) ∧ (∀ x, 0 ≤ s.2.1 x ∧ s.2.1 x ≤ 2300) ∧
    PI (am_up s.1 (1796 + 9 * (v : Int) + 4) q) (LGc s.2.2 4 (rs s.2.1 ((q : Int) + 96)) (tr v)).2 (am_up kd q 2) s.2.2 (am_up tr v ((q : Int) + 96)) ex := by
  have hN := nw_NI (kp := 2) h hq hz (t := tr v) (by
    rcases hw with h | ⟨h1, h2, h3, -⟩
    · exact Or.inl h
    · exact Or.inr ⟨h1, h2, h3⟩)
  rw [hs] at hN
  obtain ⟨j, -, -, -, -, -, hAo, -⟩ := hN
  have hA2 : s.1 (1796 + 9 * (v : Int) + 4) = decT (tr v) := by rw [hAo _ (by omega)]; exact hA
  obtain ⟨hu, hK, hX, hC, hzo, hA0, hq8⟩ := nw_PI h hq hz (show (0 : Int) ≤ 2 ∧ (2 : Int) ≤ 2 by decide) hw hs
  have hsz : s.2.1 ((q : Int) + 96) = 0 := (hu q hq).mpr hz
  have hkq : am_up kd q 2 (q : Int) = 2 := up_eq _ _ _
  have hdec : decT ((q : Int) + 96) = q := by rw [decT_part ⟨by omega, by omega⟩]; omega
  have hbd : ∀ x, 0 ≤ s.2.1 x ∧ s.2.1 x ≤ 2300 := fun x => by
    have := XC.bd (b := 1008) hX (fun y => by have := h.e0 y; have := tmP_nn s.2.2 q y; have := tmP_le s.2.2 q y; (try dsimp only); omega) hzo (by omega) x
    omega
  have er : rs s.2.1 ((q : Int) + 96) = am_up s.2.1 ((q : Int) + 96) (s.2.1 ((q : Int) + 96) + 1) := if_pos ⟨by omega, by omega⟩
  obtain ⟨hK1, hC1⟩ := fresh_KC (show (0 : Int) ≤ 2 ∧ (2 : Int) ≤ 2 by decide) hK hC hkq hA0 hq8
  have hC2 := CO_up hC1 (j := 1796 + 9 * (v : Int) + 4) (by omega) q
  have hX2 : XC TA (am_up s.2.1 ((q : Int) + 96) (s.2.1 ((q : Int) + 96) + 1)) s.2.2 (am_up tr v ((q : Int) + 96)) (fun t => ex t + dl (tr v) t) := by
    intro t ht
    have h1 := hX t ht
    have h2 := rfT_up tr hv ((q : Int) + 96) t
    have h3 := rfP_use (c := s.2.1) (c' := am_up s.2.1 ((q : Int) + 96) (s.2.1 ((q : Int) + 96) + 1)) (pl := s.2.2) hq hsz (by rw [up_eq]; omega) (fun r hr hrq => by rw [up_ne _ _ (by omega)]) t
    (try dsimp only at h1 ⊢)
    rw [h2, h3]
    unfold dl
    by_cases htx : t = (q : Int) + 96
    · subst htx
      rw [up_eq, if_pos rfl]
      by_cases hw : tr v = (q : Int) + 96
      · rw [if_pos hw, if_pos hw.symm]; omega
      · rw [if_neg hw, if_neg (fun q => hw q.symm)]; omega
    · rw [up_ne _ _ htx, if_neg (fun q => htx q.symm)]
      by_cases hw : tr v = t
      · rw [if_pos hw, if_pos hw.symm]; omega
      · rw [if_neg hw, if_neg (fun q => hw q.symm)]; omega
  have hw2 : tr v = -1 ∨ (96 ≤ tr v ∧ tr v < 256 ∧ am_up kd q 2 (tr v - 96) = 2) := by
    rcases hw with e | ⟨e1, e2, e3, e4⟩
    · exact Or.inl e
    · refine Or.inr ⟨e1, e2, ?_⟩
      by_cases he : tr v - 96 = q
      · rw [he, up_eq]
      · rw [up_ne _ _ he]; exact e4
  rw [er]
  refine ⟨?_, hbd, PI.letGo h.e0 hK1 hX2 hC2 (fun x hx => ?_) (by
    rcases hw2 with e | ⟨e1, e2, e3⟩
    · exact Or.inl e
    · exact Or.inr (Or.inr ⟨e1, e2, by omega⟩))⟩
  · have ei : (if (q : Int) + 96 = -1 then s.2.1 else am_up s.2.1 ((q : Int) + 96) (s.2.1 ((q : Int) + 96) + 1)) = am_up s.2.1 ((q : Int) + 96) (s.2.1 ((q : Int) + 96) + 1) := if_neg (by omega)
    have := S_Md_hangTrunk d (A := s.1) (kd := am_up kd q 2) (pl := s.2.2) (tr := am_up tr v ((q : Int) + 96)) (c := s.2.1) (ex := ex) (v := (v : Int)) (by omega) (x := (q : Int) + 96) (w := tr v) (Or.inr ⟨by omega, by omega⟩) hA2 (fun _ => by have := hbd ((q : Int) + 96); omega) (by
      rcases hw2 with e | ⟨e1, e2, e3⟩
      · exact Or.inl e
      · rw [ei, hdec]
        exact Or.inr ⟨e1, e2, e3, LR_of h.e0 hK1 hX2 hC2 (fun y => by have := up_bd hbd (x := (q : Int) + 96) y; omega)⟩) M
    rw [ei, hdec] at this
    exact this
  · rw [up_ne _ _ (fun e => hx (by rw [e]; exact ⟨by omega, by omega⟩))]
    exact hzo x hx
