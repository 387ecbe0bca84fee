/-! THE POOL'S INVARIANT (counts right but for ex, kinds, the reference's contents), through hanging -/
abbrev TA : Int → Prop := fun t => 0 ≤ t ∧ t < 256
abbrev PI (A c kd pl tr ex : Int → Int) : Prop := (∀ x, 0 ≤ ex x ∧ ex x ≤ 1000) ∧ KW c kd pl ∧ XC TA c pl tr ex ∧ CO A c kd pl ∧ ∀ x, ¬ TA x → c x = 0
theorem PI.e0 {A c kd pl tr ex : Int → Int} (h : PI A c kd pl tr ex) : ∀ x, 0 ≤ ex x ∧ ex x ≤ 1000 := h.1
theorem PI.kw {A c kd pl tr ex : Int → Int} (h : PI A c kd pl tr ex) : KW c kd pl := h.2.1
theorem PI.xc {A c kd pl tr ex : Int → Int} (h : PI A c kd pl tr ex) : XC TA c pl tr ex := h.2.2.1
theorem PI.co {A c kd pl tr ex : Int → Int} (h : PI A c kd pl tr ex) : CO A c kd pl := h.2.2.2.1
theorem PI.zo {A c kd pl tr ex : Int → Int} (h : PI A c kd pl tr ex) : ∀ x, ¬ TA x → c x = 0 := h.2.2.2.2
theorem tmP_le (pl : Int → Int) (p t : Int) : tmP pl p t ≤ 8 := by
  have := sm_bd (f := fun k => if pl (p * 8 + k) = t then 1 else 0) (c := 1) 8 (fun k _ => by (try dsimp only); split <;> omega)
  unfold tmP
  omega
theorem rfP_le (c pl : Int → Int) (t : Int) : rfP c pl t ≤ 1280 := by
  have := sm_bd (f := fun p => if c (p + 96) = 0 then 0 else sm (fun k => if pl (p * 8 + k) = t then 1 else 0) 8) (c := 8) 160 (fun p _ => by
    have h1 := tmP_le pl p t
    have h2 := tmP_nn pl p t
    unfold tmP at h1 h2
    (try dsimp only)
    split <;> omega)
  unfold rfP
  omega
theorem rfT_le (tr : Int → Int) (t : Int) : rfT tr t ≤ 12 := by
  have := sm_bd (f := fun v => if tr v = t then 1 else 0) (c := 1) 12 (fun k _ => by (try dsimp only); split <;> omega)
  unfold rfT
  omega
theorem PI.bd {A c kd pl tr ex : Int → Int} (h : PI A c kd pl tr ex) (x : Int) : 0 ≤ c x ∧ c x ≤ 2292 := by
  by_cases hx : TA x
  · have := h.xc x hx
    have := h.e0 x
    have := rfP_nn c pl x
    have := rfP_le c pl x
    have := rfT_nn tr x
    have := rfT_le tr x
    omega
  · rw [h.zo x hx]; omega
theorem XC.tp {c pl tr ex : Int → Int} (h : XC TA c pl tr ex) : XC TP c pl tr ex := fun t ht => h t ⟨by have := ht.1; omega, ht.2⟩
/-- a thing in use (or a block) is hung: the counts ahead of letting go what was there -/
theorem hang_X {c pl tr ex : Int → Int} {p k : Nat} (hp : p < 160) (hk : k < 8) (hc0 : c ((p : Int) + 96) ≠ 0) (hX : XC TA c pl tr ex) {x : Int} (hx : ∀ q : Nat, q < 160 → x = (q : Int) + 96 → 0 < c x) : XC TA (am_up c x (c x + 1)) (am_up pl ((p : Int) * 8 + k) x) tr (fun t => ex t + dl (pl ((p : Int) * 8 + k)) t) := by
  intro t ht
  have h1 := hX t ht
  have hz : ∀ q : Nat, q < 160 → (am_up c x (c x + 1) ((q : Int) + 96) = 0 ↔ c ((q : Int) + 96) = 0) := fun q hq => by
    by_cases hqx : (q : Int) + 96 = x
    · have := hx q hq hqx.symm
      rw [hqx, up_eq]
      omega
    · rw [up_ne _ _ hqx]
  have h2 := rfP_c (c := c) (c' := am_up c x (c x + 1)) (pl := am_up pl ((p : Int) * 8 + k) x) hz t
  have h3 := rfP_up (c := c) (pl := pl) hp hk hc0 x t
  (try dsimp only)
  rw [h2, h3]
  unfold dl
  by_cases htx : t = x
  · subst htx
    rw [up_eq, if_pos rfl]
    by_cases hw : pl ((p : Int) * 8 + k) = t
    · rw [if_pos hw, if_pos hw.symm]; omega
    · rw [if_neg hw, if_neg (fun q => hw q.symm)]; omega
  · rw [up_ne _ _ htx, if_neg (fun q => htx q.symm)]
    by_cases hw : pl ((p : Int) * 8 + k) = t
    · rw [if_pos hw, if_pos hw.symm]; omega
    · rw [if_neg hw, if_neg (fun q => hw q.symm)]; omega
/-- a part that was free is hung, whose things were counted ahead -/
theorem hang_Xf {c pl tr ex : Int → Int} {p k q : Nat} (hp : p < 160) (hk : k < 8) (hc0 : c ((p : Int) + 96) ≠ 0) (hq : q < 160) (hz : c ((q : Int) + 96) = 0) (hX : XC TA c pl tr (fun t => ex t + tmP pl q t)) : XC TA (am_up c ((q : Int) + 96) (c ((q : Int) + 96) + 1)) (am_up pl ((p : Int) * 8 + k) ((q : Int) + 96)) tr (fun t => ex t + dl (pl ((p : Int) * 8 + k)) t) := by
  intro t ht
  have h1 := hX t ht
  have hqp : q ≠ p := fun e => hc0 (by rw [← e]; exact hz)
  have h2 := rfP_use (c := c) (c' := am_up c ((q : Int) + 96) (c ((q : Int) + 96) + 1)) (pl := am_up pl ((p : Int) * 8 + k) ((q : Int) + 96)) hq hz (by rw [up_eq]; omega) (fun r hr hrq => by rw [up_ne _ _ (by omega)]) t
  have h3 := rfP_up (c := c) (pl := pl) hp hk hc0 ((q : Int) + 96) t
  have h4 := tmP_off (pl := pl) (p := p) (q := q) hk hqp ((q : Int) + 96) t
  (try dsimp only at h1 ⊢)
  rw [h2, h3, h4]
  unfold dl
  by_cases htx : t = (q : Int) + 96
  · subst htx
    rw [up_eq, if_pos rfl]
    by_cases hw : pl ((p : Int) * 8 + k) = (q : Int) + 96
    · rw [if_pos hw, if_pos hw.symm]; omega
    · rw [if_neg hw, if_neg (fun q => hw q.symm)]; omega
  · rw [up_ne _ _ htx, if_neg (fun q => htx q.symm)]
    by_cases hw : pl ((p : Int) * 8 + k) = t
    · rw [if_pos hw, if_pos hw.symm]; omega
    · rw [if_neg hw, if_neg (fun q => hw q.symm)]; omega
/-- kinds and contents when a thing is hung (the thing, if a part, has its own right) -/
theorem hang_KW {c kd pl : Int → Int} {p k : Nat} (hk : k < 8) {x : Int} (hK : KW (am_up c x (c x + 1)) kd pl) (hx : FT kd (kd p) x) : KW (am_up c x (c x + 1)) kd (am_up pl ((p : Int) * 8 + k) x) := by
  intro q hq h0
  obtain ⟨h1, h2⟩ := hK q hq h0
  refine ⟨h1, fun j hj => ?_⟩
  by_cases he : (q : Int) * 8 + j = (p : Int) * 8 + k
  · have hqp : q = p := by omega
    subst hqp
    rw [he, up_eq]
    rcases hx with ⟨a1, a2, a3⟩ | ⟨a1, a2, a3, a4, a5⟩
    · exact Or.inr (Or.inl ⟨a1, a2, a3⟩)
    · exact Or.inr (Or.inr ⟨a1, a3, a4, a5⟩)
  · rw [up_ne _ _ he]
    exact h2 j hj
theorem hang_CO {A c kd pl : Int → Int} {p k : Nat} (hk : k < 8) {x : Int} (hC : CO A (am_up c x (c x + 1)) kd pl) : CO (am_up A (198 + 10 * (p : Int) + k) (dec (kd p) x)) (am_up c x (c x + 1)) kd (am_up pl ((p : Int) * 8 + k) x) := by
  intro q hq h0
  obtain ⟨h1, h2⟩ := hC q hq h0
  refine ⟨by rw [up_ne _ _ (by omega)]; exact h1, fun j hj => ?_⟩
  by_cases he : (q : Int) * 8 + j = (p : Int) * 8 + k
  · have hqp : q = p := by omega
    subst hqp
    have hjk : j = k := by omega
    subst hjk
    rw [up_eq, up_eq]
  · rw [up_ne _ _ he, up_ne _ _ (by omega)]
    exact h2 j hj
theorem LGc_off (pl : Int → Int) : ∀ (n : Nat) (c : Int → Int) (t x : Int), ¬ TA x → (LGc pl n c t).2 x = c x
  | 0, c, t, x, _ => rfl
  | n + 1, c, t, x, hx => by
    unfold LGc
    by_cases ht : 0 ≤ t ∧ t < 256
    · have hxt : x ≠ t := fun e => hx (by rw [e]; exact ht)
      rw [if_pos ht]
      by_cases hz : c t - 1 = 0
      · rw [if_pos hz]
        by_cases hb : t < 96
        · rw [if_pos hb]; exact up_ne _ _ hxt
        · rw [if_neg hb]
          refine it_inv (σ := Int × (Int → Int)) (fun _ s => s.2 x = c x) 8 0 _ (up_ne _ _ hxt) (fun i s _ _ hs => ?_)
          (try dsimp only)
          rw [LGc_off pl n _ _ x hx]
          exact hs
      · rw [if_neg hz]; exact up_ne _ _ hxt
    · rw [if_neg ht]
/-- the pool's invariant holds behind letting a thing go that was counted once too often -/
theorem PI.letGo {A c kd pl tr ex : Int → Int} {w : Int} (he : ∀ x, 0 ≤ ex x ∧ ex x ≤ 1000) (hK : KW c kd pl) (hX : XC TA c pl tr (fun t => ex t + dl w t)) (hC : CO A c kd pl) (hz : ∀ x, ¬ TA x → c x = 0) (hw : w = -1 ∨ (0 ≤ w ∧ w < 96) ∨ (96 ≤ w ∧ w < 256 ∧ kd (w - 96) ≤ 2)) : PI A (LGc pl 4 c w).2 kd pl tr ex := by
  have h := LG_X (T := TA) (fun t h1 h2 => ⟨by omega, h2⟩) (fun t h => h) (kd := kd) (pl := pl) (tr := tr) 4 c w ex (fun x => (he x).1) hK hX (by
    rcases hw with h | ⟨h1, h2⟩ | ⟨h1, h2, h3⟩
    · exact Or.inl h
    · exact Or.inr (Or.inl ⟨h1, h2, by omega⟩)
    · exact Or.inr (Or.inr ⟨h1, h2, by omega⟩))
  exact ⟨he, hK.mono h.2, h.1, hC.mono h.2, fun x hx => by rw [LGc_off pl 4 c w x hx]; exact hz x hx⟩
theorem LR_of {A c kd pl tr ex : Int → Int} {w : Int} (he : ∀ x, 0 ≤ ex x ∧ ex x ≤ 1000) (hK : KW c kd pl) (hX : XC TA c pl tr (fun t => ex t + dl w t)) (hC : CO A c kd pl) (hb : ∀ x, 0 ≤ c x ∧ c x ≤ 3000) : LR 4 A c kd pl tr ex w := by
  have e : (9 ^ 4 : Nat) = 6561 := by decide
  refine ⟨fun x => (he x).1, hK, hX.tp, hC, ?_⟩
  rw [e]
  intro x
  have := hb x
  omega
/-- what stands in a used part's place -/
theorem KW.ft {c kd pl : Int → Int} (h : KW c kd pl) {p k : Nat} (hp : p < 160) (hk : k < 8) (hc0 : c ((p : Int) + 96) ≠ 0) : pl ((p : Int) * 8 + k) = -1 ∨ FT kd (kd p) (pl ((p : Int) * 8 + k)) := by
  obtain ⟨h1, h2⟩ := h p hp hc0
  rcases h2 k hk with h | ⟨a1, a2, a3⟩ | ⟨a1, a2, a3, a4⟩
  · exact Or.inl h
  · exact Or.inr (Or.inl ⟨a1, a2, a3⟩)
  · exact Or.inr (Or.inr ⟨a1, h1.2, a2, a3, a4⟩)
theorem FT.wc {kd : Int → Int} {kp w : Int} (hk : 0 ≤ kp ∧ kp ≤ 2) (h : w = -1 ∨ FT kd kp w) : w = -1 ∨ (0 ≤ w ∧ w < 96) ∨ (96 ≤ w ∧ w < 256 ∧ kd (w - 96) ≤ 2) := by
  rcases h with h | ⟨a1, a2, a3⟩ | ⟨a1, a2, a3, a4, a5⟩
  · exact Or.inl h
  · exact Or.inr (Or.inl ⟨a2, a3⟩)
  · exact Or.inr (Or.inr ⟨a3, a4, by omega⟩)
