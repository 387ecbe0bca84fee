/-! A COUNT OF ONE: the way to an address is no other's; what a hanging changes of what is mapped -/
theorem sm_two {f : Int → Int} : ∀ (n : Nat) (i j : Nat), i < n → j < n → i ≠ j → (∀ k : Nat, k < n → 0 ≤ f k) → f i + f j ≤ sm f n
  | 0, i, _, h, _, _, _ => by omega
  | n + 1, i, j, hi, hj, hij, h0 => by
    have e : sm f (n + 1) = sm f n + f n := rfl
    rw [e]
    have hn := h0 n (by omega)
    by_cases h1 : i = n
    · subst h1
      have := sm_ge i j (by omega) (f := f) (fun k hk => h0 k (by omega))
      omega
    · by_cases h2 : j = n
      · subst h2
        have := sm_ge j i (by omega) (f := f) (fun k hk => h0 k (by omega))
        omega
      · have := sm_two n i j (by omega) (by omega) hij (fun k hk => h0 k (by omega))
        omega
theorem uniq_pl {A c kd pl tr ex : Int → Int} (h : PI A c kd pl tr ex) {p k p' k' : Nat} (hp : p < 160) (hp' : p' < 160) (hk : k < 8) (hk' : k' < 8) (hu : c ((p : Int) + 96) ≠ 0) (hu' : c ((p' : Int) + 96) ≠ 0) {t : Int} (ht : TA t) (e : pl ((p : Int) * 8 + k) = t) (e' : pl ((p' : Int) * 8 + k') = t) (h1 : c t = 1) : p = p' ∧ k = k' := by
  have hx := h.xc t ht
  have he := (h.e0 t).1
  have hT := rfT_nn tr t
  have ht1 : ∀ q j : Nat, j < 8 → pl ((q : Int) * 8 + j) = t → 1 ≤ tmP pl q t := fun q j hj hq => by
    have := sm_ge (f := fun k => if pl ((q : Int) * 8 + k) = t then 1 else 0) 8 j hj (fun i _ => by (try dsimp only); split <;> omega)
    (try dsimp only at this)
    rw [if_pos hq] at this
    exact this
  have hnn : ∀ i : Nat, i < 160 → (0 : Int) ≤ (fun p => if c (p + 96) = 0 then 0 else sm (fun k => if pl (p * 8 + k) = t then 1 else 0) 8) (i : Int) := fun i _ => by
    (try dsimp only)
    split
    · omega
    · exact tmP_nn pl i t
  by_cases hpp : p = p'
  · subst hpp
    by_cases hkk : k = k'
    · exact ⟨rfl, hkk⟩
    · exfalso
      have h2 := sm_two (f := fun k => if pl ((p : Int) * 8 + k) = t then 1 else 0) 8 k k' hk hk' hkk (fun i _ => by (try dsimp only); split <;> omega)
      have h3 := sm_ge (f := fun p => if c (p + 96) = 0 then 0 else sm (fun k => if pl (p * 8 + k) = t then 1 else 0) 8) 160 p hp hnn
      (try dsimp only at h2 h3)
      rw [if_pos e, if_pos e'] at h2
      rw [if_neg hu] at h3
      have : rfP c pl t = sm (fun p => if c (p + 96) = 0 then 0 else sm (fun k => if pl (p * 8 + k) = t then 1 else 0) 8) 160 := rfl
      omega
  · exfalso
    have h2 := sm_two (f := fun p => if c (p + 96) = 0 then 0 else sm (fun k => if pl (p * 8 + k) = t then 1 else 0) 8) 160 p p' hp hp' hpp hnn
    (try dsimp only at h2)
    rw [if_neg hu, if_neg hu'] at h2
    have a1 := ht1 p k hk e
    have a2 := ht1 p' k' hk' e'
    unfold tmP at a1 a2
    have : rfP c pl t = sm (fun p => if c (p + 96) = 0 then 0 else sm (fun k => if pl (p * 8 + k) = t then 1 else 0) 8) 160 := rfl
    omega
theorem uniq_tr {A c kd pl tr ex : Int → Int} (h : PI A c kd pl tr ex) {v w : Nat} (hv : v < 12) (hw : w < 12) {t : Int} (ht : TA t) (e : tr v = t) (e' : tr w = t) (h1 : c t = 1) : w = v := by
  have hx := h.xc t ht
  have he := (h.e0 t).1
  have hP := rfP_nn c pl t
  by_cases hvw : w = v
  · exact hvw
  · exfalso
    have h2 := sm_two (f := fun v => if tr v = t then 1 else 0) 12 v w hv hw (fun q => hvw q.symm) (fun i _ => by (try dsimp only); split <;> omega)
    (try dsimp only at h2)
    rw [if_pos e, if_pos e'] at h2
    have : rfT tr t = sm (fun v => if tr v = t then 1 else 0) 12 := rfl
    omega
/-- what the parts on a way are -/
theorem tw_ok {M : am_M} {A ex : Int → Int} (hV : RV M A) (h : PI A (M 4) (M 5) (M 6) (M 10) ex) {w : Nat} (hw : w < 12) (b : Int) : twS M w b = -1 ∨ (96 ≤ twS M w b ∧ twS M w b < 256 ∧ M 4 (twS M w b) ≠ 0 ∧ M 5 (twS M w b - 96) = 1) := by
  unfold twS
  rcases hV.tr h hw with e | e
  · rw [e, at_m1]; exact Or.inl rfl
  · rcases h.kid (n := 2) e (plc b 2) with e | ⟨e, -⟩ | ⟨-, e1, e2, e3, e4⟩
    · exact Or.inl e
    · omega
    · exact Or.inr ⟨e1, e2, e3, by omega⟩
theorem lf_ok {M : am_M} {A ex : Int → Int} (hV : RV M A) (h : PI A (M 4) (M 5) (M 6) (M 10) ex) {w : Nat} (hw : w < 12) (b : Int) : lfS M w b = -1 ∨ (96 ≤ lfS M w b ∧ lfS M w b < 256 ∧ M 4 (lfS M w b) ≠ 0 ∧ M 5 (lfS M w b - 96) = 0) := by
  unfold lfS
  rcases tw_ok hV h hw b with e | e
  · rw [e, at_m1]; exact Or.inl rfl
  · rcases h.kid (n := 1) e (plc b 1) with e | ⟨e, -⟩ | ⟨-, e1, e2, e3, e4⟩
    · exact Or.inl e
    · omega
    · exact Or.inr ⟨e1, e2, e3, by omega⟩
theorem bk_ok {M : am_M} {A ex : Int → Int} (hV : RV M A) (h : PI A (M 4) (M 5) (M 6) (M 10) ex) {w : Nat} (hw : w < 12) (b : Int) : bkS M w b = -1 ∨ (0 ≤ bkS M w b ∧ bkS M w b < 96 ∧ M 4 (bkS M w b) ≠ 0) := by
  unfold bkS
  rcases lf_ok hV h hw b with e | e
  · rw [e, at_m1]; exact Or.inl rfl
  · rcases h.kid (n := 0) e (plc b 0) with e | ⟨-, e1, e2, e3⟩ | ⟨e, -⟩
    · exact Or.inl e
    · exact Or.inr ⟨e1, e2, e3⟩
    · omega
theorem at_uniq {A c kd pl tr ex : Int → Int} (h : PI A c kd pl tr ex) {s s' i i' t : Int} (hs : s = -1 ∨ (96 ≤ s ∧ s < 256 ∧ c s ≠ 0)) (hs' : s' = -1 ∨ (96 ≤ s' ∧ s' < 256 ∧ c s' ≠ 0)) (hi : 0 ≤ i ∧ i < 8) (hi' : 0 ≤ i' ∧ i' < 8) (ht : TA t) (e : atS pl s i = t) (e' : atS pl s' i' = t) (h1 : c t = 1) : s = s' ∧ i = i' := by
  have ht0 := ht.1
  rcases hs with rfl | ⟨s1, s2, s3⟩
  · rw [at_m1] at e; omega
  · rcases hs' with rfl | ⟨s1', s2', s3'⟩
    · rw [at_m1] at e'; omega
    · obtain ⟨p, hp⟩ : ∃ p : Nat, s = (p : Int) + 96 := ⟨(s - 96).toNat, by omega⟩
      obtain ⟨p', hp'⟩ : ∃ p : Nat, s' = (p : Int) + 96 := ⟨(s' - 96).toNat, by omega⟩
      obtain ⟨k, hk⟩ : ∃ k : Nat, i = (k : Int) := ⟨i.toNat, by omega⟩
      obtain ⟨k', hk'⟩ : ∃ k : Nat, i' = (k : Int) := ⟨i'.toNat, by omega⟩
      subst hp hp' hk hk'
      rw [at_in ⟨s1, s2⟩ hi, show (p : Int) + 96 - 96 = p by omega] at e
      rw [at_in ⟨s1', s2'⟩ hi', show (p' : Int) + 96 - 96 = p' by omega] at e'
      obtain ⟨a1, a2⟩ := uniq_pl h (by omega) (by omega) (by omega) (by omega) s3 s3' ht e e' h1
      omega
theorem us3 {c : Int → Int} {t : Int} {P : Prop} (h : t = -1 ∨ (96 ≤ t ∧ t < 256 ∧ c t ≠ 0 ∧ P)) : t = -1 ∨ (96 ≤ t ∧ t < 256 ∧ c t ≠ 0) := by
  rcases h with e | ⟨e1, e2, e3, _⟩
  · exact Or.inl e
  · exact Or.inr ⟨e1, e2, e3⟩
theorem own_tr {M : am_M} {A ex : Int → Int} (hV : RV M A) (h : PI A (M 4) (M 5) (M 6) (M 10) ex) {v w : Nat} (hv : thS M v) (hw : w < 12) {a l : Int} (hl : l ≤ 3) (hO : ownP M v a l) (e : M 10 w = M 10 v) : w = v := by
  have hv12 : v < 12 := by have := hv.2.1; omega
  have h1 := hO 3 hl (by omega) (by omega)
  rw [thg_3 hv] at h1
  refine uniq_tr h hv12 hw (t := M 10 v) ?_ rfl e h1
  rcases hV.tr h hv12 with q | q
  · rw [q, h.zo (-1) (fun r => by have := r.1; omega)] at h1; omega
  · exact ⟨by omega, q.2.1⟩
theorem own_tw {M : am_M} {A ex : Int → Int} (hV : RV M A) (h : PI A (M 4) (M 5) (M 6) (M 10) ex) {v w : Nat} (hv : thS M v) (hw : w < 12) {a b l : Int} (hl : l ≤ 2) (hO : ownP M v a l) (e : twS M w b = twS M v a) : w = v ∧ plc b 2 = plc a 2 := by
  have hv12 : v < 12 := by have := hv.2.1; omega
  have h1 := hO 2 hl (by omega) (by omega)
  rw [thg_2 hv] at h1
  have hT : TA (twS M v a) := by
    rcases tw_ok hV h hv12 a with q | q
    · rw [q, h.zo (-1) (fun r => by have := r.1; omega)] at h1; omega
    · exact ⟨by omega, q.2.1⟩
  obtain ⟨a1, a2⟩ := at_uniq h (us3 (hV.tr h hw)) (us3 (hV.tr h hv12)) (plc_8 b 2) (plc_8 a 2) hT e rfl h1
  exact ⟨own_tr hV h hv hw (by omega) hO a1, a2⟩
theorem own_lf {M : am_M} {A ex : Int → Int} (hV : RV M A) (h : PI A (M 4) (M 5) (M 6) (M 10) ex) {v w : Nat} (hv : thS M v) (hw : w < 12) {a b l : Int} (hl : l ≤ 1) (hO : ownP M v a l) (e : lfS M w b = lfS M v a) : w = v ∧ plc b 2 = plc a 2 ∧ plc b 1 = plc a 1 := by
  have hv12 : v < 12 := by have := hv.2.1; omega
  have h1 := hO 1 hl (by omega) (by omega)
  rw [thg_1 hv] at h1
  have hT : TA (lfS M v a) := by
    rcases lf_ok hV h hv12 a with q | q
    · rw [q, h.zo (-1) (fun r => by have := r.1; omega)] at h1; omega
    · exact ⟨by omega, q.2.1⟩
  obtain ⟨a1, a2⟩ := at_uniq h (us3 (tw_ok hV h hw b)) (us3 (tw_ok hV h hv12 a)) (plc_8 b 1) (plc_8 a 1) hT e rfl h1
  obtain ⟨b1, b2⟩ := own_tw hV h hv hw (by omega) hO a1
  exact ⟨b1, b2, a2⟩
theorem plc_dig {a : Int} (ha : 0 ≤ a ∧ a < 512) : a = 64 * plc a 2 + 8 * plc a 1 + plc a 0 := by
  rw [plc_0 ha.1 (by omega), plc_1 ha.1 (by omega), plc_2 ha.1 (by omega)]
  omega
theorem at_up {pl : Int → Int} {o k : Nat} {x t i : Int} (hk : k < 8) (h : ¬ (t = (o : Int) + 96 ∧ i = k)) : atS (am_up pl ((o : Int) * 8 + k) x) t i = atS pl t i := by
  unfold atS
  split
  · next q => exact up_ne _ _ (fun e => h (by omega))
  · rfl
theorem at_upe {pl : Int → Int} {o k : Nat} {x : Int} (ho : o < 160) (hk : k < 8) : atS (am_up pl ((o : Int) * 8 + k) x) ((o : Int) + 96) k = x := by
  rw [at_in ⟨by omega, by omega⟩ ⟨by omega, by omega⟩, show ((o : Int) + 96 - 96) * 8 + k = (o : Int) * 8 + k by omega, up_eq]
/-- a thing hung in the part of kind low on the way of (v, a), which is its own: other volumes stay -/
theorem hang_ct {M : am_M} {A ex : Int → Int} (hV : RV M A) (h : PI A (M 4) (M 5) (M 6) (M 10) ex) {v : Nat} (hv : thS M v) {a low : Int} (hl : 0 ≤ low ∧ low ≤ 2) (hO : ownP M v a (low + 1)) {o k : Nat} (ho : o < 160) (hk : k < 8) (hP : thgS M v a (low + 1) = (o : Int) + 96) (hkd : M 5 o = low) (x : Int) {w : Nat} (hw : w < 12) (hwv : w ≠ v) (b : Int) :
    ct (am_up (M 6) ((o : Int) * 8 + k) x) (M 10) w b = ct (M 6) (M 10) w b := by
  have hT := hV.tr h hw
  have hW := tw_ok hV h hw b
  have hL := lf_ok hV h hw b
  have eko : (o : Int) + 96 - 96 = o := by omega
  have e1 : atS (am_up (M 6) ((o : Int) * 8 + k) x) (M 10 w) (plc b 2) = twS M w b := by
    refine at_up hk (fun q => ?_)
    rcases hT with e | ⟨_, _, _, e⟩
    · omega
    · rw [q.1, eko, hkd] at e
      rw [e] at hP hO
      exact hwv (own_tr hV h hv hw (by omega) hO (by rw [q.1, ← hP]; exact (thg_3 hv a).symm ▸ rfl))
  have e2 : atS (am_up (M 6) ((o : Int) * 8 + k) x) (twS M w b) (plc b 1) = lfS M w b := by
    refine at_up hk (fun q => ?_)
    rcases hW with e | ⟨_, _, _, e⟩
    · omega
    · rw [q.1, eko, hkd] at e
      rw [e] at hP hO
      have hP' : twS M v a = (o : Int) + 96 := (thg_2 hv a).symm.trans hP
      exact hwv (own_tw hV h hv hw (b := b) (by omega) hO (by rw [q.1, hP'])).1
  have e3 : atS (am_up (M 6) ((o : Int) * 8 + k) x) (lfS M w b) (plc b 0) = bkS M w b := by
    refine at_up hk (fun q => ?_)
    rcases hL with e | ⟨_, _, _, e⟩
    · omega
    · rw [q.1, eko, hkd] at e
      rw [e] at hP hO
      have hP' : lfS M v a = (o : Int) + 96 := (thg_1 hv a).symm.trans hP
      exact hwv (own_lf hV h hv hw (b := b) (by omega) hO (by rw [q.1, hP'])).1
  unfold ct
  rw [e1, e2, e3]
  rfl
/-- a block hung in the leaf on the way: what is mapped behind it -/
theorem leaf_ct {M : am_M} {A ex : Int → Int} (hV : RV M A) (h : PI A (M 4) (M 5) (M 6) (M 10) ex) {v : Nat} (hv : thS M v) {a : Int} (ha : 0 ≤ a ∧ a < 512) (hO : ownP M v a 1) {o k : Nat} (ho : o < 160) (hk : plc a 0 = k) (hP : thgS M v a 1 = (o : Int) + 96) (hkd : M 5 o = 0) (x : Int) {w : Nat} (hw : w < 12) {b : Int} (hb : 0 ≤ b ∧ b < 512) :
    ct (am_up (M 6) ((o : Int) * 8 + k) x) (M 10) w b = if w = v ∧ b = a then x else ct (M 6) (M 10) w b := by
  have h8 := plc_8 a 0
  have hk8 : k < 8 := by omega
  have hT := hV.tr h hw
  have hW := tw_ok hV h hw b
  have hL := lf_ok hV h hw b
  have eko : (o : Int) + 96 - 96 = o := by omega
  have hP' : lfS M v a = (o : Int) + 96 := (thg_1 hv a).symm.trans hP
  have e1 : atS (am_up (M 6) ((o : Int) * 8 + k) x) (M 10 w) (plc b 2) = twS M w b := by
    refine at_up hk8 (fun q => ?_)
    rcases hT with e | ⟨_, _, _, e⟩
    · omega
    · rw [q.1, eko, hkd] at e; omega
  have e2 : atS (am_up (M 6) ((o : Int) * 8 + k) x) (twS M w b) (plc b 1) = lfS M w b := by
    refine at_up hk8 (fun q => ?_)
    rcases hW with e | ⟨_, _, _, e⟩
    · omega
    · rw [q.1, eko, hkd] at e; omega
  unfold ct
  rw [e1, e2]
  by_cases hwb : w = v ∧ b = a
  · obtain ⟨rfl, rfl⟩ := hwb
    rw [if_pos ⟨rfl, rfl⟩, hP', hk]
    exact at_upe ho hk8
  · rw [if_neg hwb, at_up hk8 (fun q => ?_)]
    · rfl
    · have q1 := q.1
      rw [← hP'] at q1
      obtain ⟨u1, u2, u3⟩ := own_lf hV h hv hw (b := b) (by omega) hO q1
      refine hwb ⟨u1, ?_⟩
      rw [plc_dig ha, plc_dig hb, u2, u3, q.2, hk]
