/-! THE POOL'S INVARIANT through a new part like another -/
theorem PI.child {A c kd pl tr ex : Int → Int} (h : PI A c kd pl tr ex) {p k : Nat} (hp : p < 160) (hk : k < 8) (hc0 : c ((p : Int) + 96) ≠ 0) (hx : TA (pl ((p : Int) * 8 + k))) : 0 < c (pl ((p : Int) * 8 + k)) := by
  have h1 := h.xc _ hx
  have h2 := rfT_nn tr (pl ((p : Int) * 8 + k))
  have h3 := (h.e0 (pl ((p : Int) * 8 + k))).1
  have h4 : (1 : Int) ≤ tmP pl p (pl ((p : Int) * 8 + k)) := by
    have := sm_ge (f := fun j => if pl ((p : Int) * 8 + j) = pl ((p : Int) * 8 + k) then 1 else 0) 8 k hk (fun i _ => by (try dsimp only); split <;> omega)
    (try dsimp only at this)
    rw [if_pos rfl] at this
    exact this
  have h6 : tmP pl p (pl ((p : Int) * 8 + k)) ≤ rfP c pl (pl ((p : Int) * 8 + k)) := by
    have := sm_ge (f := fun r => if c (r + 96) = 0 then 0 else sm (fun j => if pl (r * 8 + j) = pl ((p : Int) * 8 + k) then 1 else 0) 8) 160 p hp (fun i _ => by
      (try dsimp only)
      split
      · omega
      · exact sm_nn 8 (fun j _ => by (try dsimp only); split <;> omega))
    (try dsimp only at this)
    rw [if_neg hc0] at this
    exact this
  omega
/-- how often a thing is in the first k places of a part -/
def hdP (pl : Int → Int) (t : Int) (k : Nat) (x : Int) : Int := sm (fun j => if atS pl t j = x then 1 else 0) k
theorem hdP_s (pl : Int → Int) (t : Int) (k : Nat) (x : Int) : hdP pl t (k + 1) x = hdP pl t k x + (if atS pl t k = x then 1 else 0) := rfl
/-- what holds ahead of the k-th place of a new part q like t -/
def NI (A c pl tr ex : Int → Int) (kp t : Int) (q : Nat) (k : Int) (s : (Int → Int) × (Int → Int) × (Int → Int)) : Prop :=
  ∃ j : Nat, k = j ∧ (∀ p : Nat, p < 160 → (s.2.1 ((p : Int) + 96) = 0 ↔ c ((p : Int) + 96) = 0)) ∧ (∀ x, c x ≤ s.2.1 x) ∧ (∀ x, ¬ TA x → s.2.1 x = c x) ∧
  (∀ p i : Nat, p ≠ q → i < 8 → s.2.2 ((p : Int) * 8 + i) = pl ((p : Int) * 8 + i)) ∧
  (∀ y : Int, (y < 196 + 10 * (q : Int) ∨ 206 + 10 * (q : Int) ≤ y) → s.1 y = A y) ∧ s.1 (196 + 10 * (q : Int)) = kp ∧
  (∀ i : Nat, i < j → s.2.2 ((q : Int) * 8 + i) = atS pl t i ∧ s.1 (198 + 10 * (q : Int) + i) = dec kp (atS pl t i)) ∧
  XC TA s.2.1 pl tr (fun x => ex x + hdP pl t j x)
theorem nw_NI {A c kd pl tr ex : Int → Int} (h : PI A c kd pl tr ex) {q : Nat} (hq : q < 160) (hz : c ((q : Int) + 96) = 0) {kp t : Int} (ht : t = -1 ∨ (96 ≤ t ∧ t < 256 ∧ c t ≠ 0)) : NI A c pl tr ex kp t q 8 (nwS kp t q A c pl) := by
  unfold nwS
  refine it_inv (σ := (Int → Int) × (Int → Int) × (Int → Int)) (b := nw1 kp t q) (NI A c pl tr ex kp t q) 8 0 _ ⟨0, rfl, fun p _ => Iff.rfl, fun x => Int.le_refl _, fun x _ => rfl, fun p i _ _ => rfl, fun y hy => ?_, ?_, fun i hi => absurd hi (by omega), fun x hx => ?_⟩ (fun k s h1 h2 hs => ?_)
  · exact up_ne _ _ (by omega)
  · exact up_eq _ _ _
  · have := h.xc x hx
    show c x = rfP c pl x + rfT tr x + (ex x + 0)
    omega
  · obtain ⟨j, rfl, hu, hle, ho, hpl, hA, hA0, hd, hX⟩ := hs
    have hj8 : j < 8 := by omega
    have hat : atS s.2.2 t j = atS pl t j := by
      rcases ht with ht | ⟨t1, t2, t3⟩
      · rw [ht, at_m1, at_m1]
      · obtain ⟨p, hp⟩ : ∃ p : Nat, t = (p : Int) + 96 := ⟨(t - 96).toNat, by omega⟩
        have hpq : p ≠ q := fun e => t3 (by rw [hp, e]; exact hz)
        rw [at_in ⟨t1, t2⟩ ⟨by omega, by omega⟩, at_in ⟨t1, t2⟩ ⟨by omega, by omega⟩, show t - 96 = (p : Int) by omega]
        exact hpl p j hpq hj8
    have hpos : TA (atS pl t j) → 0 < c (atS pl t j) := by
      rcases ht with ht | ⟨t1, t2, t3⟩
      · rw [ht, at_m1]; intro hx; have := hx.1; omega
      · obtain ⟨p, hp⟩ : ∃ p : Nat, t = (p : Int) + 96 := ⟨(t - 96).toNat, by omega⟩
        rw [at_in ⟨t1, t2⟩ ⟨by omega, by omega⟩, show t - 96 = (p : Int) by omega]
        exact fun hx => h.child (by omega) hj8 (by rw [← hp]; exact t3) hx
    generalize hx : atS pl t j = x at hat hpos
    have hu' : ∀ p : Nat, p < 160 → (rs s.2.1 x ((p : Int) + 96) = 0 ↔ s.2.1 ((p : Int) + 96) = 0) := fun p hp => by
      unfold rs
      by_cases hxr : 0 ≤ x ∧ x < 256
      · rw [if_pos hxr]
        by_cases he : (p : Int) + 96 = x
        · have := hpos hxr
          have := hle x
          rw [he, up_eq]
          omega
        · rw [up_ne _ _ he]
      · rw [if_neg hxr]
    refine ⟨j + 1, by omega, fun p hp => ?_, fun y => ?_, fun y hy => ?_, fun p i hpq hi => ?_, fun y hy => ?_, ?_, fun i hi => ?_, fun y hy => ?_⟩
    · show rs s.2.1 (atS s.2.2 t j) ((p : Int) + 96) = 0 ↔ _
      rw [hat, hu' p hp]
      exact hu p hp
    · show c y ≤ rs s.2.1 (atS s.2.2 t j) y
      have := hle y
      have := rs_bd (c := s.2.1) (x := atS s.2.2 t j) (y := y)
      omega
    · show rs s.2.1 (atS s.2.2 t j) y = c y
      rw [hat, ← ho y hy]
      unfold rs
      by_cases hxr : 0 ≤ x ∧ x < 256
      · rw [if_pos hxr, up_ne _ _ (fun e => hy (by rw [e]; exact hxr))]
      · rw [if_neg hxr]
    · show am_up s.2.2 ((q : Int) * 8 + j) _ ((p : Int) * 8 + i) = _
      rw [up_ne _ _ (by omega)]
      exact hpl p i hpq hi
    · show am_up s.1 (198 + 10 * (q : Int) + j) _ y = _
      rw [up_ne _ _ (by omega)]
      exact hA y hy
    · show am_up s.1 (198 + 10 * (q : Int) + j) _ (196 + 10 * (q : Int)) = _
      rw [up_ne _ _ (by omega)]
      exact hA0
    · show am_up s.2.2 ((q : Int) * 8 + j) (atS s.2.2 t j) ((q : Int) * 8 + i) = atS pl t i ∧ am_up s.1 (198 + 10 * (q : Int) + j) (dec kp (atS s.2.2 t j)) (198 + 10 * (q : Int) + i) = dec kp (atS pl t i)
      by_cases hij : i = j
      · subst hij
        rw [up_eq, up_eq, hat, hx]
        exact ⟨rfl, rfl⟩
      · rw [up_ne _ _ (by omega), up_ne _ _ (by omega)]
        exact hd i (by omega)
    · show rs s.2.1 (atS s.2.2 t j) y = rfP (rs s.2.1 (atS s.2.2 t j)) pl y + rfT tr y + (ex y + hdP pl t (j + 1) y)
      have h3 := hX y hy
      (try dsimp only at h3)
      rw [hat, rfP_c (c := s.2.1) (c' := rs s.2.1 x) (pl := pl) (fun p hp => hu' p hp) y, hdP_s, hx]
      unfold rs
      by_cases hxr : 0 ≤ x ∧ x < 256
      · rw [if_pos hxr]
        by_cases he : y = x
        · subst he; rw [up_eq, if_pos rfl]; omega
        · rw [up_ne _ _ he, if_neg (fun e => he e.symm)]; omega
      · have he : ¬ x = y := fun e => hxr (by rw [e]; exact hy)
        rw [if_neg hxr, if_neg he]; omega
theorem nw_PI {A c kd pl tr ex : Int → Int} (h : PI A c kd pl tr ex) {q : Nat} (hq : q < 160) (hz : c ((q : Int) + 96) = 0) {kp t : Int} (hkp : 0 ≤ kp ∧ kp ≤ 2) (ht : t = -1 ∨ (96 ≤ t ∧ t < 256 ∧ c t ≠ 0 ∧ kd (t - 96) = kp)) {s : (Int → Int) × (Int → Int) × (Int → Int)} (hs : nwS kp t q A c pl = s) :
    (∀ p : Nat, p < 160 → (s.2.1 ((p : Int) + 96) = 0 ↔ c ((p : Int) + 96) = 0)) ∧ KW s.2.1 (am_up kd q kp) s.2.2 ∧ XC TA s.2.1 s.2.2 tr (fun x => ex x + tmP s.2.2 q x) ∧ CO s.1 s.2.1 (am_up kd q kp) s.2.2 ∧ (∀ x, ¬ TA x → s.2.1 x = 0) ∧
    s.1 (196 + 10 * (q : Int)) = kp ∧ ∀ k : Nat, k < 8 → s.1 (198 + 10 * (q : Int) + k) = dec kp (s.2.2 ((q : Int) * 8 + k)) ∧ (s.2.2 ((q : Int) * 8 + k) = -1 ∨ FT (am_up kd q kp) kp (s.2.2 ((q : Int) * 8 + k))) := by
  have hN := nw_NI (kp := kp) h hq hz (t := t) (by
    rcases ht with h | ⟨h1, h2, h3, -⟩
    · exact Or.inl h
    · exact Or.inr ⟨h1, h2, h3⟩)
  rw [hs] at hN
  obtain ⟨j, hj, hu, hle, ho, hpl, hA, hA0, hd, hX⟩ := hN
  obtain rfl : j = 8 := by omega
  have hne : ∀ {p k : Nat}, p < 160 → k < 8 → c ((p : Int) + 96) ≠ 0 → 96 ≤ pl ((p : Int) * 8 + k) → pl ((p : Int) * 8 + k) < 256 → pl ((p : Int) * 8 + k) - 96 ≠ q := fun {p k} hp hk hc h1 h2 e => by
    have := h.child hp hk hc ⟨by omega, h2⟩
    rw [show pl ((p : Int) * 8 + k) = (q : Int) + 96 by omega, hz] at this
    omega
  have hft : ∀ {p k : Nat}, p < 160 → k < 8 → c ((p : Int) + 96) ≠ 0 → pl ((p : Int) * 8 + k) = -1 ∨ FT (am_up kd q kp) (kd p) (pl ((p : Int) * 8 + k)) := fun {p k} hp hk hc => by
    rcases h.kw.ft hp hk hc with h1 | ⟨a1, a2, a3⟩ | ⟨a1, a2, a3, a4, a5⟩
    · exact Or.inl h1
    · exact Or.inr (Or.inl ⟨a1, a2, a3⟩)
    · refine Or.inr (Or.inr ⟨a1, a2, a3, a4, ?_⟩)
      rw [up_ne _ _ (hne hp hk hc a3 a4)]
      exact a5
  refine ⟨hu, fun p hp h0 => ?_, fun x hx => ?_, fun p hp h0 => ?_, fun x hx => by rw [ho x hx]; exact h.zo x hx, hA0, fun k hk => ⟨?_, ?_⟩⟩
  · have hc : c ((p : Int) + 96) ≠ 0 := fun e => h0 ((hu p hp).mpr e)
    have hpq : p ≠ q := fun e => hc (by rw [e]; exact hz)
    rw [up_ne _ _ (show (p : Int) ≠ (q : Int) by omega)]
    refine ⟨(h.kw p hp hc).1, fun k hk => ?_⟩
    rw [hpl p k hpq hk]
    rcases hft hp hk hc with h1 | ⟨a1, a2, a3⟩ | ⟨a1, a2, a3, a4, a5⟩
    · exact Or.inl h1
    · exact Or.inr (Or.inl ⟨a1, a2, a3⟩)
    · exact Or.inr (Or.inr ⟨a1, a3, a4, a5⟩)
  · have h3 := hX x hx
    (try dsimp only at h3 ⊢)
    have e1 : tmP s.2.2 q x = hdP pl t 8 x := by
      unfold tmP hdP
      exact sm_congr 8 (fun i hi => by (try dsimp only); rw [(hd i hi).1])
    have e2 : rfP s.2.1 s.2.2 x = rfP s.2.1 pl x := by
      unfold rfP
      refine sm_congr 160 (fun p hp => ?_)
      (try dsimp only)
      by_cases h0 : s.2.1 ((p : Int) + 96) = 0
      · rw [if_pos h0, if_pos h0]
      · have hpq : p ≠ q := fun e => h0 ((hu p hp).mpr (by rw [e]; exact hz))
        rw [if_neg h0, if_neg h0]
        exact sm_congr 8 (fun i hi => by (try dsimp only); rw [hpl p i hpq hi])
    rw [e1, e2]
    exact h3
  · have hc : c ((p : Int) + 96) ≠ 0 := fun e => h0 ((hu p hp).mpr e)
    have hpq : p ≠ q := fun e => hc (by rw [e]; exact hz)
    obtain ⟨c1, c2⟩ := h.co p hp hc
    rw [up_ne _ _ (show (p : Int) ≠ (q : Int) by omega), hA _ (by omega)]
    refine ⟨c1, fun k hk => ?_⟩
    rw [hpl p k hpq hk, hA _ (by omega)]
    exact c2 k hk
  · rw [(hd k hk).1, (hd k hk).2]
  · rw [(hd k hk).1]
    rcases ht with ht | ⟨t1, t2, t3, t4⟩
    · left; rw [ht, at_m1]
    · obtain ⟨p, hp⟩ : ∃ p : Nat, t = (p : Int) + 96 := ⟨(t - 96).toNat, by omega⟩
      rw [at_in ⟨t1, t2⟩ ⟨by omega, by omega⟩, show t - 96 = (p : Int) by omega]
      rw [show t - 96 = (p : Int) by omega] at t4
      rw [← t4]
      have := hft (p := p) (k := k) (by omega) hk (by rw [← hp]; exact t3)
      rw [t4] at this ⊢
      exact this
