/-! COUNTS THAT ARE RIGHT stay so when a thing is let go -/
def KW (c kd pl : Int → Int) : Prop := ∀ p : Nat, p < 160 → c ((p : Int) + 96) ≠ 0 → (0 ≤ kd p ∧ kd p ≤ 2) ∧ ∀ k : Nat, k < 8 → pl ((p : Int) * 8 + k) = -1 ∨ (kd p = 0 ∧ 0 ≤ pl ((p : Int) * 8 + k) ∧ pl ((p : Int) * 8 + k) < 96) ∨ (1 ≤ kd p ∧ 96 ≤ pl ((p : Int) * 8 + k) ∧ pl ((p : Int) * 8 + k) < 256 ∧ kd (pl ((p : Int) * 8 + k) - 96) = kd p - 1)
def dl (t : Int) : Int → Int := fun x => if x = t then 1 else 0
theorem dl_nn (t x : Int) : 0 ≤ dl t x := by unfold dl; split <;> omega
theorem dl_eq (t : Int) : dl t t = 1 := if_pos rfl
theorem dl_ne {t x : Int} (h : x ≠ t) : dl t x = 0 := if_neg h
/-- the counts of the things of T are right, but for ex -/
def XC (T : Int → Prop) (c pl tr ex : Int → Int) : Prop := ∀ t, T t → c t = rfP c pl t + rfT tr t + ex t
theorem KW.mono {c c' kd pl : Int → Int} (h : KW c kd pl) (hm : ∀ p : Nat, p < 160 → c' ((p : Int) + 96) ≠ 0 → c ((p : Int) + 96) ≠ 0) : KW c' kd pl := fun p hp h0 => h p hp (hm p hp h0)
theorem sm_zero {f : Int → Int} : ∀ (n : Nat), (∀ i : Nat, i < n → f i = 0) → sm f n = 0
  | 0, _ => rfl
  | n + 1, h => by
    show sm f n + f n = 0
    rw [sm_zero n (fun i hi => h i (by omega)), h n (by omega)]
    rfl
/-- what is left of a part's places from k on -/
def tlP (pl : Int → Int) (p : Nat) (k : Nat) (x : Int) : Int := sm (fun j => if (k : Int) ≤ j ∧ pl ((p : Int) * 8 + j) = x then 1 else 0) 8
theorem tlP_0 (pl : Int → Int) (p : Nat) (x : Int) : tlP pl p 0 x = tmP pl p x := by
  unfold tlP tmP
  refine sm_congr 8 (fun j hj => ?_)
  have : ((0 : Nat) : Int) ≤ (j : Int) := by omega
  simp only [this, true_and]
theorem tlP_8 (pl : Int → Int) (p : Nat) (x : Int) : tlP pl p 8 x = 0 := sm_zero 8 (fun j hj => if_neg (fun q => by have := q.1; omega))
theorem tlP_s (pl : Int → Int) {p k : Nat} (hk : k < 8) (x : Int) : tlP pl p k x = tlP pl p (k + 1) x + dl (pl ((p : Int) * 8 + k)) x := by
  unfold tlP
  rw [sm_one (f := fun j => if ((k + 1 : Nat) : Int) ≤ j ∧ pl ((p : Int) * 8 + j) = x then 1 else 0) 8 k hk (fun i hi hik => by
    (try dsimp only)
    by_cases h : (k : Int) ≤ i ∧ pl ((p : Int) * 8 + i) = x
    · rw [if_pos h, if_pos ⟨by have := h.1; omega, h.2⟩]
    · rw [if_neg h, if_neg (fun q => h ⟨by have := q.1; omega, q.2⟩)])]
  (try dsimp only)
  rw [if_neg (c := ((k + 1 : Nat) : Int) ≤ (k : Int) ∧ _) (fun q => by have := q.1; omega)]
  unfold dl
  by_cases h : pl ((p : Int) * 8 + k) = x
  · rw [if_pos ⟨Int.le_refl _, h⟩, if_pos h.symm]; omega
  · rw [if_neg (fun q => h q.2), if_neg (fun q => h q.symm)]; omega
theorem tlP_nn (pl : Int → Int) (p k : Nat) (x : Int) : 0 ≤ tlP pl p k x := sm_nn 8 (fun i _ => by (try dsimp only); split <;> omega)
theorem at_in {pl : Int → Int} {t k : Int} (ht : 96 ≤ t ∧ t < 256) (hk : 0 ≤ k ∧ k < 8) : atS pl t k = pl ((t - 96) * 8 + k) := by
  unfold atS
  rw [if_pos ⟨ht.1, ht.2, hk.1, hk.2⟩]
theorem XC_at {T : Int → Prop} {c pl tr ex : Int → Int} {t x : Int} (h : XC T c pl tr (fun x => ex x + dl t x)) (hx : T x) : c x = rfP c pl x + rfT tr x + (ex x + dl t x) := h x hx
theorem LG_X {T : Int → Prop} (hT : ∀ t, 96 ≤ t → t < 256 → T t) (hTr : ∀ t, T t → 0 ≤ t ∧ t < 256) {kd pl tr : Int → Int} : ∀ (n : Nat) (c : Int → Int) (t : Int) (ex : Int → Int), (∀ x, 0 ≤ ex x) → KW c kd pl → XC T c pl tr (fun x => ex x + dl t x) → (t = -1 ∨ (0 ≤ t ∧ t < 96 ∧ 1 ≤ n) ∨ (96 ≤ t ∧ t < 256 ∧ kd (t - 96) + 2 ≤ n)) → XC T (LGc pl n c t).2 pl tr ex ∧ (∀ p : Nat, p < 160 → (LGc pl n c t).2 ((p : Int) + 96) ≠ 0 → c ((p : Int) + 96) ≠ 0)
  | 0, c, t, ex, hex, hK, hX, hn => by
    rcases hn with rfl | ⟨-, -, h⟩ | ⟨h1, h2, h3⟩
    · refine ⟨fun x hx => ?_, fun p _ h => h⟩
      have := XC_at hX hx
      rw [dl_ne (by have := hTr x hx; omega), Int.add_zero] at this
      exact this
    · omega
    · exfalso
      have := XC_at hX (hT t h1 h2)
      rw [dl_eq] at this
      have a1 := rfP_nn c pl t
      have a2 := rfT_nn tr t
      have a3 := hex t
      obtain ⟨p, hp⟩ : ∃ p : Nat, t = (p : Int) + 96 := ⟨(t - 96).toNat, by omega⟩
      have := (hK p (by omega) (by rw [← hp]; omega)).1
      rw [show t - 96 = (p : Int) by omega] at h3
      omega
  | n + 1, c, t, ex, hex, hK, hX, hn => by
    by_cases htr : 0 ≤ t ∧ t < 256
    · have hup : ∀ x, x ≠ t → am_up c t (c t - 1) x = c x := fun x hx => up_ne _ _ hx
      unfold LGc
      rw [if_pos htr]
      by_cases hb : t < 96
      · -- a block
        have hres : XC T (am_up c t (c t - 1)) pl tr ex := by
          intro x hx
          have h1 := XC_at hX hx
          have hr : rfP (am_up c t (c t - 1)) pl x = rfP c pl x := rfP_c (fun p hp => by rw [up_ne _ _ (by omega)]) x
          rw [hr]
          by_cases hxt : x = t
          · subst hxt
            rw [dl_eq] at h1
            rw [up_eq]
            omega
          · rw [dl_ne hxt] at h1
            rw [up_ne _ _ hxt]
            omega
        have hmono : ∀ p : Nat, p < 160 → am_up c t (c t - 1) ((p : Int) + 96) ≠ 0 → c ((p : Int) + 96) ≠ 0 := fun p hp h => by rwa [up_ne _ _ (by omega)] at h
        rw [if_pos hb]
        split
        · exact ⟨hres, hmono⟩
        · exact ⟨hres, hmono⟩
      · -- a part
        obtain ⟨p, hp⟩ : ∃ p : Nat, t = (p : Int) + 96 := ⟨(t - 96).toNat, by omega⟩
        have hp160 : p < 160 := by omega
        have hct := XC_at hX (hT t (by omega) htr.2)
        rw [dl_eq] at hct
        have a1 := rfP_nn c pl t
        have a2 := rfT_nn tr t
        have a3 := hex t
        have hc0 : c ((p : Int) + 96) ≠ 0 := by rw [← hp]; omega
        have hkn : kd (t - 96) + 2 ≤ ((n + 1 : Nat) : Int) := by
          rcases hn with h | ⟨h1, h2, -⟩ | ⟨-, -, h⟩
          · omega
          · omega
          · exact h
        rw [show t - 96 = (p : Int) by omega] at hkn
        by_cases hz : c t - 1 = 0
        · rw [if_pos hz, if_neg hb]
          have hfree : ∀ x, rfP (am_up c t (c t - 1)) pl x = rfP c pl x - tmP pl p x := fun x => rfP_free hp160 hc0 (by rw [← hp, up_eq]; exact hz) (fun q hq hqp => up_ne _ _ (by omega)) x
          have h0 : XC T (am_up c t (c t - 1)) pl tr (fun x => ex x + tlP pl p 0 x) := by
            intro x hx
            have h1 := XC_at hX hx
            (try dsimp only)
            rw [tlP_0, hfree x]
            by_cases hxt : x = t
            · subst hxt
              rw [up_eq]
              have := tmP_nn pl p x
              have h2 := rfP_nn (am_up c x (c x - 1)) pl x
              rw [hfree x] at h2
              omega
            · rw [dl_ne hxt] at h1
              rw [up_ne _ _ hxt]
              omega
          have hm0 : ∀ q : Nat, q < 160 → am_up c t (c t - 1) ((q : Int) + 96) ≠ 0 → c ((q : Int) + 96) ≠ 0 := fun q hq h => by
            by_cases hqp : (q : Int) + 96 = t
            · rw [hqp, up_eq] at h; exact absurd hz h
            · rwa [up_ne _ _ hqp] at h
          have := it_inv (σ := Int × (Int → Int)) (b := fun k s => (s.1 + (LGc pl n s.2 (atS pl t k)).1, (LGc pl n s.2 (atS pl t k)).2)) (fun i s => ∃ k : Nat, i = k ∧ XC T s.2 pl tr (fun x => ex x + tlP pl p k x) ∧ ∀ q : Nat, q < 160 → s.2 ((q : Int) + 96) ≠ 0 → c ((q : Int) + 96) ≠ 0) 8 0 (0, am_up c t (c t - 1)) ⟨0, rfl, h0, hm0⟩ (fun i s hi1 hi2 hs => by
            obtain ⟨k, rfl, hXs, hms⟩ := hs
            have hk8 : k < 8 := by omega
            (try dsimp only)
            have hat : atS pl t k = pl ((p : Int) * 8 + k) := by rw [at_in ⟨by omega, htr.2⟩ ⟨by omega, by omega⟩, show t - 96 = (p : Int) by omega]
            have hXs' : XC T s.2 pl tr (fun x => (ex x + tlP pl p (k + 1) x) + dl (atS pl t k) x) := fun x hx => by
              have := hXs x hx
              (try dsimp only at this ⊢)
              rw [tlP_s pl hk8 x] at this
              rw [hat]
              omega
            have hch := (hK p hp160 hc0).2 k hk8
            have ih := LG_X hT hTr (kd := kd) (pl := pl) (tr := tr) n s.2 (atS pl t k) (fun x => ex x + tlP pl p (k + 1) x) (fun x => by have := hex x; have := tlP_nn pl p (k + 1) x; omega) (hK.mono hms) hXs' (by
              rw [hat]
              have hkp := (hK p hp160 hc0).1
              rcases hch with h | ⟨h1, h2, h3⟩ | ⟨h1, h2, h3, h4⟩
              · exact Or.inl h
              · exact Or.inr (Or.inl ⟨h2, h3, by omega⟩)
              · exact Or.inr (Or.inr ⟨h2, h3, by omega⟩))
            exact ⟨k + 1, by omega, ih.1, fun q hq h => hms q hq (ih.2 q hq h)⟩)
          obtain ⟨k, hk, hXf, hmf⟩ := this
          obtain rfl : k = 8 := by omega
          refine ⟨fun x hx => ?_, hmf⟩
          have := hXf x hx
          (try dsimp only at this)
          rw [tlP_8, Int.add_zero] at this
          exact this
        · rw [if_neg hz]
          have hr : ∀ x, rfP (am_up c t (c t - 1)) pl x = rfP c pl x := fun x => rfP_c (fun q hq => by
            by_cases hqp : (q : Int) + 96 = t
            · rw [hqp, up_eq]; omega
            · rw [up_ne _ _ hqp]) x
          refine ⟨fun x hx => ?_, fun q hq h => ?_⟩
          · have h1 := XC_at hX hx
            (try dsimp only)
            rw [hr x]
            by_cases hxt : x = t
            · subst hxt
              rw [up_eq]
              omega
            · rw [dl_ne hxt] at h1
              rw [up_ne _ _ hxt]
              omega
          · by_cases hqp : (q : Int) + 96 = t
            · rw [hqp]; omega
            · (try dsimp only at h)
              rwa [up_ne _ _ hqp] at h
    · have htm : t = -1 := by
        rcases hn with h | ⟨h1, h2, -⟩ | ⟨h1, h2, -⟩
        · exact h
        · exact absurd ⟨h1, by omega⟩ htr
        · exact absurd ⟨by omega, h2⟩ htr
      subst htm
      unfold LGc
      rw [if_neg htr]
      refine ⟨fun x hx => ?_, fun p _ h => h⟩
      have := XC_at hX hx
      (try dsimp only)
      rw [dl_ne (by have := hTr x hx; omega), Int.add_zero] at this
      exact this
