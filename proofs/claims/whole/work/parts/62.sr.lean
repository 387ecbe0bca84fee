/-! THE RELATION of a state of the class and a row of the reference -/
def CI (M : am_M) : Prop := ∀ v : Nat, v < 12 → 0 < M 7 v → ∀ a : Int, M 7 v ≤ a → a < 512 → ct (M 6) (M 10) v a = -1
def PRt (M : am_M) (n : Int) : Prop := (0 ≤ M 1 10 ∧ M 1 10 ≤ n) ∧ ∀ v : Nat, v < 12 → 0 < M 7 v → (0 ≤ M 14 v ∧ M 14 v < M 1 10) ∧ (M 13 v = -1 ∨ (thS M (M 13 v) ∧ M 14 (M 13 v) < M 14 v))
def JY (M : am_M) (A : Int → Int) (n : Int) : Prop := PI A (M 4) (M 5) (M 6) (M 10) (fun _ => 0) ∧ RV M A ∧ RB M A ∧ MV M A ∧ PRt M n ∧ CI M
def JX (M : am_M) (A : Int → Int) (n : Int) : Prop := JY M A n ∧ alS M
theorem JY.pi {M : am_M} {A : Int → Int} {n : Int} (h : JY M A n) : PI A (M 4) (M 5) (M 6) (M 10) (fun _ => 0) := h.1
theorem JY.rv {M : am_M} {A : Int → Int} {n : Int} (h : JY M A n) : RV M A := h.2.1
theorem JY.rb {M : am_M} {A : Int → Int} {n : Int} (h : JY M A n) : RB M A := h.2.2.1
theorem JY.mv {M : am_M} {A : Int → Int} {n : Int} (h : JY M A n) : MV M A := h.2.2.2.1
theorem JY.pr {M : am_M} {A : Int → Int} {n : Int} (h : JY M A n) : PRt M n := h.2.2.2.2.1
theorem JY.ci {M : am_M} {A : Int → Int} {n : Int} (h : JY M A n) : CI M := h.2.2.2.2.2
/-- the counts may be spoilt: c are the right ones -/
def SP (M : am_M) (c : Int → Int) : Prop := (∀ x : Int, ¬ (0 ≤ x ∧ x < 96) → M 4 x = c x) ∧ (∀ b : Int, 0 ≤ b → b < 96 → 0 ≤ M 4 b ∧ M 4 b ≤ 2292 ∧ (M 4 b = 0 ↔ c b = 0)) ∧ (M 1 11 = 0 ∨ M 1 11 = 1) ∧ (M 1 11 = 0 → M 4 = c)
def SR (M : am_M) (A : Int → Int) (n : Int) : Prop := ∃ c : Int → Int, JX (am_st M 4 c) A n ∧ SP M c
def SS (M : am_M) (R : Int → Int) (n : Int) : Prop := ∃ A : Int → Int, SR M A n ∧ ∀ y : Int, 2 ≤ y → y < 1904 → R y = wc A (M 4) y
/-- two states of the class are alike -/
def EQ (M M' : am_M) : Prop := (∀ j : Int, 0 ≤ j → j < 96 → M' 3 j = M 3 j) ∧ (∀ j : Int, 0 ≤ j → j < 256 → M' 4 j = M 4 j) ∧ (∀ j : Int, 0 ≤ j → j < 160 → M' 5 j = M 5 j) ∧ (∀ j : Int, 0 ≤ j → j < 1280 → M' 6 j = M 6 j) ∧ (∀ r : Nat, 7 ≤ r → r ≤ 14 → ∀ j : Int, 0 ≤ j → j < 12 → M' r j = M r j) ∧ M' 1 9 = M 1 9 ∧ M' 1 10 = M 1 10 ∧ M' 1 11 = M 1 11
theorem at_congr {pl pl' : Int → Int} (h : ∀ j : Int, 0 ≤ j → j < 1280 → pl' j = pl j) (t k : Int) : atS pl' t k = atS pl t k := by
  unfold atS
  split
  · exact h _ (by omega) (by omega)
  · rfl
theorem rfP_congr {c c' pl pl' : Int → Int} (hc : ∀ t, TA t → c' t = c t) (hp : ∀ j : Int, 0 ≤ j → j < 1280 → pl' j = pl j) (t : Int) : rfP c' pl' t = rfP c pl t := by
  unfold rfP
  refine sm_congr 160 (fun p hp' => ?_)
  (try dsimp only)
  rw [hc _ ⟨by omega, by omega⟩]
  split
  · rfl
  · exact sm_congr 8 (fun k hk => by (try dsimp only); rw [hp _ (by omega) (by omega)])
theorem PI.congr {A A' c c' kd kd' pl pl' tr tr' ex : Int → Int} (h : PI A c kd pl tr ex) (hc : ∀ t, TA t → c' t = c t) (hz : ∀ x, ¬ TA x → c' x = 0) (hk : ∀ j : Int, 0 ≤ j → j < 160 → kd' j = kd j) (hp : ∀ j : Int, 0 ≤ j → j < 1280 → pl' j = pl j) (ht : ∀ j : Int, 0 ≤ j → j < 12 → tr' j = tr j) (hA : ∀ y : Int, 2 ≤ y → y < 1904 → A' y = A y) : PI A' c' kd' pl' tr' ex := by
  refine ⟨h.e0, fun p hp' h0 => ?_, fun t ht' => ?_, fun p hp' h0 => ?_, hz⟩
  · rw [hc _ ⟨by omega, by omega⟩] at h0
    obtain ⟨k1, k2⟩ := h.kw p hp' h0
    rw [hk _ (by omega) (by omega)]
    refine ⟨k1, fun k hk8 => ?_⟩
    rw [hp _ (by omega) (by omega)]
    rcases k2 k hk8 with e | e | ⟨e1, e2, e3, e4⟩
    · exact Or.inl e
    · exact Or.inr (Or.inl e)
    · refine Or.inr (Or.inr ⟨e1, e2, e3, ?_⟩)
      rw [hk _ (by omega) (by omega)]
      exact e4
  · rw [hc t ht', h.xc t ht', rfP_congr hc hp]
    have : rfT tr' t = rfT tr t := by
      unfold rfT
      exact sm_congr 12 (fun v hv => by (try dsimp only); rw [ht _ (by omega) (by omega)])
    rw [this]
  · rw [hc _ ⟨by omega, by omega⟩] at h0
    obtain ⟨k1, k2⟩ := h.co p hp' h0
    rw [hk _ (by omega) (by omega), hA _ (by omega) (by omega)]
    refine ⟨k1, fun k hk8 => ?_⟩
    rw [hp _ (by omega) (by omega), hA _ (by omega) (by omega)]
    exact k2 k hk8
theorem EQ.th {M M' : am_M} (h : EQ M M') (v : Int) : thS M' v ↔ thS M v := by
  unfold thS
  constructor
  · rintro ⟨a, b, e⟩
    rw [h.2.2.2.2.1 7 (by omega) (by omega) v a b] at e
    exact ⟨a, b, e⟩
  · rintro ⟨a, b, e⟩
    rw [h.2.2.2.2.1 7 (by omega) (by omega) v a b]
    exact ⟨a, b, e⟩
theorem ct_congr {M M' : am_M} (h : EQ M M') {v : Int} (hv : 0 ≤ v ∧ v < 12) (a : Int) : ct (M' 6) (M' 10) v a = ct (M 6) (M 10) v a := by
  unfold ct
  rw [h.2.2.2.2.1 10 (by omega) (by omega) v hv.1 hv.2]
  simp only [at_congr h.2.2.2.1]
theorem us_congr {M M' : am_M} (h : EQ M M') (v : Int) : usS M' v = usS M v := by
  unfold usS
  by_cases hv : thS M v
  · rw [if_pos hv, if_pos ((h.th v).mpr hv), mu_um, mu_um]
    exact sm_congr 512 (fun a _ => by (try dsimp only); rw [ct_congr h ⟨hv.1, hv.2.1⟩])
  · rw [if_neg hv, if_neg (fun q => hv ((h.th v).mp q))]
theorem hf_congr {M M' : am_M} (h : EQ M M') (v : Int) : hfS M' v = hfS M v := by
  unfold hfS
  by_cases hv : thS M v
  · rw [if_pos hv, if_pos ((h.th v).mpr hv), us_congr h, h.2.2.2.2.1 11 (by omega) (by omega) v hv.1 hv.2.1]
  · rw [if_neg hv, if_neg (fun q => hv ((h.th v).mp q))]
theorem nz_congr {c c' : Int → Int} (h : ∀ j : Int, 0 ≤ j → j < 256 → c' j = c j) : nz c' 96 = nz c 96 := sm_congr 96 (fun b hb => by (try dsimp only); rw [h _ (by omega) (by omega)])
theorem al_congr {M M' : am_M} (h : EQ M M') (ha : alS M) : alS M' := by
  refine ⟨fun v hv => ?_, ?_⟩
  · have hv' := (h.th v).mp hv
    rw [us_congr h, h.2.2.2.2.1 8 (by omega) (by omega) v hv.1 hv.2.1]
    exact ha.1 v hv'
  · rw [sm_congr 12 (fun v _ => hf_congr h v), nz_congr h.2.1]
    exact ha.2
theorem JX.congr {M M' : am_M} {A A' : Int → Int} {n n' : Int} (hn : n ≤ n') (h : EQ M M') (hz : ∀ x, ¬ TA x → M' 4 x = 0) (hA : ∀ y : Int, 2 ≤ y → y < 1904 → A' y = A y) (hJ : JX M A n) : JX M' A' n' := by
  obtain ⟨⟨j1, j2, j3, j4, j5, j6⟩, j7⟩ := hJ
  obtain ⟨h3, h4, h5, h6, hv, h9, h10, h11⟩ := id h
  refine ⟨⟨j1.congr (fun t ht => h4 t ht.1 ht.2) hz h5 h6 (fun j a b => hv 10 (by omega) (by omega) j a b) hA, fun v hv12 => ?_, fun b h0 h1 hb => ?_, ?_, ?_, fun v hv12 h7 a ha1 ha2 => ?_⟩, al_congr h j7⟩
  · obtain ⟨a1, a2⟩ := j2 v hv12
    rw [hv 10 (by omega) (by omega) v (by omega) (by omega), hv 7 (by omega) (by omega) v (by omega) (by omega), hA _ (by omega) (by omega)]
    refine ⟨?_, a2⟩
    rcases a1 with e | ⟨e1, e2, e3⟩
    · exact Or.inl e
    · exact Or.inr ⟨e1, e2, by rw [h5 _ (by omega) (by omega)]; exact e3⟩
  · rw [h4 b h0 (by omega)] at hb
    rw [hA _ (by omega) (by omega), h3 b h0 h1]
    exact j3 b h0 h1 hb
  · obtain ⟨⟨m1, m2, m3⟩, m4⟩ := j4
    refine ⟨⟨by rw [hA _ (by omega) (by omega), h9]; exact m1, by rw [hA _ (by omega) (by omega), h10]; exact m2, by rw [h9]; exact m3⟩, fun v v0 v12 => ?_⟩
    obtain ⟨⟨k1, k2, k3, k4⟩, k5⟩ := m4 v v0 v12
    rw [hv 7 (by omega) (by omega) v v0 v12, hv 10 (by omega) (by omega) v v0 v12, hA _ (by omega) (by omega)]
    refine ⟨⟨k1, k2, k3, k4⟩, fun q => ?_⟩
    have := k5 q
    unfold VD at this ⊢
    rw [hv 7 (by omega) (by omega) v v0 v12, hv 8 (by omega) (by omega) v v0 v12, hv 9 (by omega) (by omega) v v0 v12, hv 11 (by omega) (by omega) v v0 v12, hv 12 (by omega) (by omega) v v0 v12, hv 13 (by omega) (by omega) v v0 v12, hv 14 (by omega) (by omega) v v0 v12]
    rw [hA _ (by omega) (by omega), hA _ (by omega) (by omega), hA _ (by omega) (by omega), hA _ (by omega) (by omega), hA _ (by omega) (by omega), hA _ (by omega) (by omega), hA _ (by omega) (by omega)]
    exact this
  · obtain ⟨⟨p1, p2⟩, p3⟩ := j5
    refine ⟨⟨by rw [h10]; exact p1, by rw [h10]; omega⟩, fun v hv12 h7 => ?_⟩
    rw [hv 7 (by omega) (by omega) v (by omega) (by omega)] at h7
    obtain ⟨q1, q2⟩ := p3 v hv12 h7
    rw [hv 14 (by omega) (by omega) v (by omega) (by omega), hv 13 (by omega) (by omega) v (by omega) (by omega), h10]
    refine ⟨q1, ?_⟩
    rcases q2 with e | ⟨e1, e2⟩
    · exact Or.inl e
    · exact Or.inr ⟨(h.th _).mpr e1, by rw [hv 14 (by omega) (by omega) _ e1.1 e1.2.1]; exact e2⟩
  · rw [hv 7 (by omega) (by omega) v (by omega) (by omega)] at h7 ha1
    rw [ct_congr h (by omega)]
    exact j6 v hv12 h7 a ha1 ha2
theorem SR.congr {M M' : am_M} {A A' : Int → Int} {n n' : Int} (hn : n ≤ n') (h : EQ M M') (hz : ∀ x, ¬ TA x → M' 4 x = 0) (hA : ∀ y : Int, 2 ≤ y → y < 1904 → A' y = A y) (hS : SR M A n) : SR M' A' n' := by
  obtain ⟨c, hJ, s1, s2, s3, s4⟩ := hS
  have hcz : ∀ x, ¬ TA x → c x = 0 := fun x hx => by have := hJ.1.pi.zo x hx; rw [st_eq] at this; exact this
  refine ⟨c, hJ.congr hn (M' := am_st M' 4 c) ?_ (fun x hx => by rw [st_eq]; exact hcz x hx) hA, fun x hx => ?_, fun b h0 h1 => ?_, by rw [h.2.2.2.2.2.2.2]; exact s3, fun q => ?_⟩
  · obtain ⟨h3, h4, h5, h6, hv, h9, h10, h11⟩ := h
    refine ⟨?_, ?_, ?_, ?_, ?_, ?_, ?_, ?_⟩
    · intro j a b; rw [st_ne _ _ (by decide), st_ne _ _ (by decide)]; exact h3 j a b
    · intro j a b; rw [st_eq, st_eq]
    · intro j a b; rw [st_ne _ _ (by decide), st_ne _ _ (by decide)]; exact h5 j a b
    · intro j a b; rw [st_ne _ _ (by decide), st_ne _ _ (by decide)]; exact h6 j a b
    · intro r r1 r2 j a b; rw [st_ne _ _ (by omega), st_ne _ _ (by omega)]; exact hv r r1 r2 j a b
    · rw [st_ne _ _ (by decide), st_ne _ _ (by decide)]; exact h9
    · rw [st_ne _ _ (by decide), st_ne _ _ (by decide)]; exact h10
    · rw [st_ne _ _ (by decide), st_ne _ _ (by decide)]; exact h11
  · by_cases hx2 : TA x
    · rw [h.2.1 x hx2.1 hx2.2]; exact s1 x hx
    · rw [hz x hx2, hcz x hx2]
  · rw [h.2.1 b h0 (by omega)]; exact s2 b h0 h1
  · rw [h.2.2.2.2.2.2.2] at q
    funext x
    by_cases hx2 : TA x
    · rw [h.2.1 x hx2.1 hx2.2, s4 q]
    · rw [hz x hx2, hcz x hx2]
theorem wc_congr {A A' c c' : Int → Int} (hA : ∀ y : Int, 2 ≤ y → y < 1904 → A' y = A y) (hc : ∀ t, TA t → c' t = c t) {y : Int} (h1 : 2 ≤ y) (h2 : y < 1904) : wc A' c' y = wc A c y := by
  unfold wc
  split
  · rw [hc _ ⟨by omega, by omega⟩]
  · split
    · rw [hc _ ⟨by omega, by omega⟩]
    · exact hA y h1 h2
theorem SS.congr {M M' : am_M} {R R' : Int → Int} {n n' : Int} (hn : n ≤ n') (h : EQ M M') (hz : ∀ x, ¬ TA x → M' 4 x = 0) (hR : ∀ y : Int, 2 ≤ y → y < 1904 → R' y = R y) (hS : SS M R n) : SS M' R' n' := by
  obtain ⟨A, s1, s2⟩ := hS
  refine ⟨A, s1.congr hn h hz (fun _ _ _ => rfl), fun y y1 y2 => ?_⟩
  rw [hR y y1 y2, s2 y y1 y2]
  exact (wc_congr (fun _ _ _ => rfl) (fun t ht => h.2.1 t ht.1 ht.2) y1 y2).symm
/-- the row itself, with these counts -/
theorem SS.row {M : am_M} {R : Int → Int} {n : Int} (hS : SS M R n) : ∃ A : Int → Int, SR M A n ∧ R = wc A (M 4) := by
  obtain ⟨A, s1, s2⟩ := hS
  have hz : ∀ x, ¬ TA x → M 4 x = 0 := by
    obtain ⟨c, hJ, q1, -⟩ := s1
    intro x hx
    have := hJ.1.pi.zo x hx
    rw [st_eq] at this
    rw [q1 x (fun q => hx ⟨q.1, by omega⟩)]
    exact this
  refine ⟨fun y => if 2 ≤ y ∧ y < 1904 then A y else R y, s1.congr (Int.le_refl _) ⟨fun _ _ _ => rfl, fun _ _ _ => rfl, fun _ _ _ => rfl, fun _ _ _ => rfl, fun _ _ _ _ _ _ => rfl, rfl, rfl, rfl⟩ hz (fun y h1 h2 => by rw [if_pos ⟨h1, h2⟩]), ?_⟩
  funext y
  by_cases hy : 2 ≤ y ∧ y < 1904
  · rw [s2 y hy.1 hy.2]
    exact (wc_congr (fun y h1 h2 => by rw [if_pos ⟨h1, h2⟩]) (fun _ _ => rfl) hy.1 hy.2).symm
  · rw [wc_o _ _ (by omega)]
    (try dsimp only)
    rw [if_neg hy]
theorem SS.of {M : am_M} {A : Int → Int} {n : Int} (h : SR M A n) : SS M (wc A (M 4)) n := ⟨A, h, fun _ _ _ => rfl⟩
theorem SR.of {M : am_M} {A : Int → Int} {n : Int} (h : JX M A n) (h11 : M 1 11 = 0 ∨ M 1 11 = 1) : SR M A n := by
  refine ⟨M 4, ?_, fun _ _ => rfl, fun b _ _ => ?_, h11, fun _ => rfl⟩
  · rw [st_self]; exact h
  · have := h.1.pi.bd b
    exact ⟨this.1, this.2, Iff.rfl⟩
