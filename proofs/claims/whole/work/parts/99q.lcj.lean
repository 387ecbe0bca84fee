/-! LAID CLOSE: both sides; close -/
theorem JX.view {A0 A : Int → Int} {M0 M : am_M} {n : Int} (hJ : JX M0 A0 n) (e : ∀ k : Nat, (k = 1 ∨ (7 ≤ k ∧ k ≤ 9) ∨ (11 ≤ k ∧ k ≤ 14)) → M k = M0 k) (h2 : ∀ y : Int, (y = 2 ∨ y = 3 ∨ 1796 ≤ y) → (∀ v : Nat, v < 12 → y ≠ 1796 + 9 * (v : Int) + 4) → A y = A0 y) (h3 : PI A (M 4) (M 5) (M 6) (M 10) (fun _ => 0)) (h4 : RV M A) (h5 : RB M A) (h6 : nz (M 4) 96 ≤ nz (M0 4) 96) (h7 : ∀ w : Nat, w < 12 → ∀ a : Int, 0 ≤ a → a < 512 → (ct (M 6) (M 10) w a = -1 ↔ ct (M0 6) (M0 10) w a = -1)) (h8 : ∀ v : Nat, v < 12 → M0 7 v = 0 → M 10 v = -1) : JX M A (n + 1) := by
  have hth : ∀ v, thS M v ↔ thS M0 v := fun v => by unfold thS; rw [e 7 (by omega)]
  obtain ⟨⟨m1, m2, m3⟩, m4⟩ := hJ.1.mv
  have hMV : MV M A := by
    refine ⟨⟨by rw [h2 2 (by omega) (fun v hv => by omega), e 1 (by omega)]; exact m1, by rw [h2 3 (by omega) (fun v hv => by omega), e 1 (by omega)]; exact m2, by rw [e 1 (by omega)]; exact m3⟩, fun w w0 w12 => ?_⟩
    obtain ⟨⟨k1, k2, k3, k4⟩, k5⟩ := m4 w w0 w12
    rw [e 7 (by omega), h2 (1796 + 9 * w) (by omega) (fun v hv => by omega)]
    refine ⟨⟨k1, k2, k3, fun q => ?_⟩, fun q => ?_⟩
    · obtain ⟨z, hz⟩ : ∃ z : Nat, w = (z : Int) := ⟨w.toNat, by omega⟩
      subst hz
      exact h8 z (by omega) q
    · have := k5 q
      unfold VD at this ⊢
      rw [e 7 (by omega), e 8 (by omega), e 9 (by omega), e 11 (by omega), e 12 (by omega), e 13 (by omega), e 14 (by omega), h2 (1797 + 9 * w) (by omega) (fun v hv => by omega), h2 (1798 + 9 * w) (by omega) (fun v hv => by omega), h2 (1799 + 9 * w) (by omega) (fun v hv => by omega), h2 (1801 + 9 * w) (by omega) (fun v hv => by omega), h2 (1802 + 9 * w) (by omega) (fun v hv => by omega), h2 (1803 + 9 * w) (by omega) (fun v hv => by omega), h2 (1804 + 9 * w) (by omega) (fun v hv => by omega)]
      exact this
  have hus : ∀ v, usS M v = usS M0 v := by
    intro v
    unfold usS
    by_cases hv : thS M0 v
    · rw [if_pos hv, if_pos ((hth v).mpr hv), mu_um, mu_um]
      obtain ⟨z, hz⟩ : ∃ z : Nat, v = (z : Int) := ⟨v.toNat, by have := hv.1; omega⟩
      subst hz
      have h12 := hv.2.1
      refine sm_congr 512 (fun a ha => ?_)
      (try dsimp only)
      have hi := h7 z (by omega) a (by omega) (by omega)
      by_cases hc : ct (M0 6) (M0 10) z a = -1
      · rw [if_pos hc, if_pos (hi.mpr hc)]
      · rw [if_neg hc, if_neg (fun q => hc (hi.mp q))]
    · rw [if_neg hv, if_neg (fun q => hv ((hth v).mp q))]
  have hhf : ∀ v, hfS M v = hfS M0 v := by
    intro v
    unfold hfS
    rw [hus, e 11 (by omega)]
    by_cases hv : thS M0 v
    · rw [if_pos hv, if_pos ((hth v).mpr hv)]
    · rw [if_neg hv, if_neg (fun q => hv ((hth v).mp q))]
  refine ⟨⟨h3, h4, h5, hMV, ?_, fun w hw hw7 a a1 a2 => ?_⟩, fun v hv => ?_, ?_⟩
  · have := hJ.1.pr
    unfold PRt at this ⊢
    rw [e 1 (by omega), e 7 (by omega), e 13 (by omega), e 14 (by omega)]
    obtain ⟨p1, p2⟩ := this
    refine ⟨⟨p1.1, by have := p1.2; omega⟩, fun v hv h7' => ?_⟩
    obtain ⟨q1, q2⟩ := p2 v hv h7'
    refine ⟨q1, ?_⟩
    rcases q2 with q2 | ⟨q2, q3⟩
    · exact Or.inl q2
    · exact Or.inr ⟨(hth _).mpr q2, q3⟩
  · rw [e 7 (by omega)] at hw7 a1
    have := hJ.1.mv.2 w (by omega) (by omega)
    exact (h7 w hw a (by omega) a2).mpr (hJ.1.ci w hw hw7 a a1 a2)
  · rw [hus, e 8 (by omega)]
    exact hJ.2.1 v ((hth v).mp hv)
  · rw [sm_congr 12 (fun v _ => hhf v)]
    have h9 := hJ.2.2
    omega
theorem nz_rnk {c : Int → Int} (hc : ∀ x, 0 ≤ c x) : ∀ n : Nat, nz c n = (rnk c n : Int)
  | 0 => rfl
  | n + 1 => by
    have ih := nz_rnk hc n
    have h := hc (n : Int)
    show nz c n + _ = _
    (try dsimp only)
    by_cases h0 : c (n : Int) = 0
    · rw [if_neg (by omega), rnk_s0 h0, ih]; omega
    · rw [if_pos (by omega), rnk_s1 h0, ih]; omega
theorem rnk_low {c : Int → Int} {k : Nat} : ∀ n : Nat, (∀ y : Nat, y < n → (¬ c (y : Int) = 0 ↔ y < k)) → rnk c n = min n k
  | 0, _ => by simp [rnk]
  | n + 1, h => by
    have ih := rnk_low n (fun y hy => h y (by omega))
    have hn := h n (by omega)
    by_cases h0 : c (n : Int) = 0
    · rw [rnk_s0 h0, ih]
      have : ¬ n < k := fun q => (hn.mpr q) h0
      omega
    · rw [rnk_s1 h0, ih]
      have := hn.mp h0
      omega
/-- a sum over the used, by their new numbers -/
theorem sm_cls {c g f : Int → Int} {n : Nat} (h1 : ∀ u : Nat, u < n → ¬ c (u : Int) = 0 → g (rnk c u : Int) = f u) (h2 : ∀ u : Nat, u < n → c (u : Int) = 0 → f u = 0) (h3 : ∀ y : Nat, rnk c n ≤ y → y < n → g y = 0) : sm g n = sm f n := by
  have key : ∀ m : Nat, m ≤ n → sm g (rnk c m) = sm f m := by
    intro m
    induction m with
    | zero => intro _; rfl
    | succ m ih =>
      intro hm
      have ihm := ih (by omega)
      by_cases h0 : c (m : Int) = 0
      · rw [rnk_s0 h0, ihm]
        show _ = sm f m + f m
        rw [h2 m (by omega) h0]; omega
      · rw [rnk_s1 h0]
        show sm g (rnk c m) + g (rnk c m : Int) = sm f m + f m
        rw [ihm, h1 m (by omega) h0]
  have hle := rnk_le c n
  obtain ⟨k, hk⟩ : ∃ k, n = rnk c n + k := ⟨n - rnk c n, by omega⟩
  rw [← key n (Nat.le_refl _)]
  conv => lhs; rw [hk]
  rw [sm_add, sm_zero k (fun i hi => ?_)]
  · omega
  · (try dsimp only)
    have := h3 (rnk c n + i) (by omega) (by omega)
    rw [show ((rnk c n + i : Nat) : Int) = (rnk c n : Int) + i by omega] at this
    exact this
/-- a used thing, or none -/
def UT (c : Int → Int) (x : Int) : Prop := x = -1 ∨ (∃ b : Nat, b < 96 ∧ ¬ c (b : Int) = 0 ∧ x = (b : Int)) ∨ ∃ p : Nat, p < 160 ∧ ¬ c ((p : Int) + 96) = 0 ∧ x = (p : Int) + 96
theorem gN_inj {c : Int → Int} {x y : Int} (hx : UT c x) (hy : UT c y) (h : gN c x = gN c y) : x = y := by
  rcases hx with rfl | ⟨b, b1, b2', rfl⟩ | ⟨p, p1, p2, rfl⟩
  · rw [gN_m1] at h
    rcases hy with rfl | ⟨b, b1, b2', rfl⟩ | ⟨p, p1, p2, rfl⟩
    · rfl
    · rw [gN_b b1 b2'] at h; omega
    · rw [gN_p p1 p2] at h; omega
  · have hr := rnk_le c b
    rw [gN_b b1 b2'] at h
    rcases hy with rfl | ⟨b', c1, c2, rfl⟩ | ⟨p, p1, p2, rfl⟩
    · rw [gN_m1] at h; omega
    · rw [gN_b c1 c2] at h
      have := rnk_inj b2' c2 (by omega)
      rw [this]
    · rw [gN_p p1 p2] at h; omega
  · rw [gN_p p1 p2] at h
    rcases hy with rfl | ⟨b', c1, c2, rfl⟩ | ⟨p', q1, q2, rfl⟩
    · rw [gN_m1] at h; omega
    · have hr := rnk_le c b'
      rw [gN_b c1 c2] at h; omega
    · rw [gN_p q1 q2] at h
      have := rnk_inj (c := fun i => c (i + 96)) p2 q2 (by omega)
      rw [this]
theorem gN_m1i {c : Int → Int} {x : Int} (hx : UT c x) : gN c x = -1 ↔ x = -1 := by
  constructor
  · intro e
    exact gN_inj hx (Or.inl rfl) (by rw [gN_m1]; exact e)
  · intro e
    rw [e]; exact gN_m1 c
theorem PI.utp {M : am_M} {A ex : Int → Int} (h : PI A (M 4) (M 5) (M 6) (M 10) ex) {u j : Nat} (hu : u < 160) (hj : j < 8) (hc : ¬ M 4 ((u : Int) + 96) = 0) : UT (M 4) (M 6 ((u : Int) * 8 + j)) := by
  rcases dec_gN h hu hj hc with e | ⟨_, b, b1, b2', b3⟩ | ⟨_, p, p1, p2, p3, _⟩
  · exact Or.inl e
  · exact Or.inr (Or.inl ⟨b, b1, b2', b3⟩)
  · exact Or.inr (Or.inr ⟨p, p1, p2, p3⟩)
theorem UT.ok {M : am_M} {m x : Int} (h : OKP (M 4) (M 5) m x) : UT (M 4) x := by
  rcases h with e | ⟨e1, e2, e3, _⟩
  · exact Or.inl e
  · refine Or.inr (Or.inr ⟨(x - 96).toNat, by omega, ?_, by omega⟩)
    rw [show (((x - 96).toNat : Nat) : Int) + 96 = x by omega]
    exact e3
theorem lc_at {M M2 : am_M} (hL : LCC M M2) {m t : Int} (ht : OKP (M 4) (M 5) m t) (k : Int) : atS (M2 6) (gN (M 4) t) k = gN (M 4) (atS (M 6) t k) := by
  rcases ht with rfl | ⟨e1, e2, e3, _⟩
  · rw [gN_m1, at_m1, at_m1, gN_m1]
  · by_cases hk : 0 ≤ k ∧ k < 8
    · obtain ⟨p, rfl⟩ : ∃ p : Nat, t = (p : Int) + 96 := ⟨(t - 96).toNat, by omega⟩
      obtain ⟨j, rfl⟩ : ∃ j : Nat, k = (j : Int) := ⟨k.toNat, by omega⟩
      have hle := rnk_le (fun i => M 4 (i + 96)) p
      rw [gN_p (by omega) e3, at_in ⟨by omega, by omega⟩ hk, at_in ⟨e1, e2⟩ hk, show (96 : Int) + (rnk (fun i => M 4 (i + 96)) p : Int) - 96 = (rnk (fun i => M 4 (i + 96)) p : Int) by omega, show (p : Int) + 96 - 96 = p by omega]
      exact (hL.2.2.2.1 p (by omega) e3).2.2 j (by omega)
    · rw [at_out hk, at_out hk, gN_m1]
theorem lc_jx {M M2 : am_M} {A R : Int → Int} {n : Int} (hJ : JX M A n) (hL : LCC M M2) (r0 : ∀ y : Int, y < 4 → R y = A y) (r1 : ∀ y : Int, 1796 ≤ y → (∀ v : Nat, v < 12 → y ≠ 1796 + 9 * (v : Int) + 4) → R y = A y) (rb : ∀ u : Nat, u < 96 → ¬ M 4 (u : Int) = 0 → R (4 + 2 * (rnk (M 4) u : Int)) = A (4 + 2 * (u : Int)) ∧ R (5 + 2 * (rnk (M 4) u : Int)) = M 4 u) (rbz : ∀ x : Nat, rnk (M 4) 96 ≤ x → x < 96 → R (5 + 2 * (x : Int)) = 0) (rp' : ∀ u : Nat, u < 160 → ¬ M 4 ((u : Int) + 96) = 0 → R (196 + 10 * (rnk (fun i => M 4 (i + 96)) u : Int)) = M 5 u ∧ R (197 + 10 * (rnk (fun i => M 4 (i + 96)) u : Int)) = M 4 ((u : Int) + 96) ∧ ∀ j : Nat, j < 8 → R (198 + 10 * (rnk (fun i => M 4 (i + 96)) u : Int) + j) = dec (M 5 u) (gN (M 4) (M 6 ((u : Int) * 8 + j)))) (rpz : ∀ x : Nat, rnk (fun i => M 4 (i + 96)) 160 ≤ x → x < 160 → R (197 + 10 * (x : Int)) = 0) (rt : ∀ v : Nat, v < 12 → R (1796 + 9 * (v : Int) + 4) = if thS M v then decT (gN (M 4) (M 10 v)) else A (1796 + 9 * (v : Int) + 4)) : JX M2 R (n + 1) ∧ wc R (M2 4) = R := by
  obtain ⟨l1, l2, l3, l4, l5, l6, l7⟩ := id hL
  have h := hJ.1.pi
  have hV := hJ.1.rv
  have hc0 := fun x => (h.bd x).1
  -- blocks and parts by their new numbers
  have hB : ∀ y : Nat, y < 96 → (rnk (M 4) 96 ≤ y ∧ M2 4 (y : Int) = 0) ∨ ∃ u : Nat, u < 96 ∧ ¬ M 4 (u : Int) = 0 ∧ rnk (M 4) u = y ∧ M2 4 (y : Int) = M 4 u := fun y hy => by
    by_cases e : rnk (M 4) 96 ≤ y
    · exact Or.inl ⟨e, l3 y e hy⟩
    · obtain ⟨u, a, b, c⟩ := rnk_sur (c := M 4) (y := y) (n := 96) (by omega)
      exact Or.inr ⟨u, a, b, c, by rw [← c]; exact (l2 u a b).2⟩
  have hPp : ∀ y : Nat, y < 160 → (rnk (fun i => M 4 (i + 96)) 160 ≤ y ∧ M2 4 ((y : Int) + 96) = 0) ∨ ∃ u : Nat, u < 160 ∧ ¬ M 4 ((u : Int) + 96) = 0 ∧ rnk (fun i => M 4 (i + 96)) u = y ∧ M2 4 ((y : Int) + 96) = M 4 ((u : Int) + 96) := fun y hy => by
    rw [Int.add_comm (y : Int) 96]
    by_cases e : rnk (fun i => M 4 (i + 96)) 160 ≤ y
    · exact Or.inl ⟨e, l5 y e hy⟩
    · obtain ⟨u, a, b, c⟩ := rnk_sur (c := fun i => M 4 (i + 96)) (y := y) (n := 160) (by omega)
      exact Or.inr ⟨u, a, b, c, by rw [← c]; exact (l4 u a b).2.1⟩
  have hut : ∀ v : Nat, v < 12 → UT (M 4) (M 10 v) := fun v hv => UT.ok (hV.tr h hv)
  have hM10 : ∀ v : Nat, v < 12 → M2 10 v = gN (M 4) (M 10 v) := fun v hv => by
    rw [l7 v hv]
    rcases hV.tr h hv with e | ⟨e1, e2, _⟩
    · rw [e, gN_m1, if_neg (by omega)]
    · rw [if_pos ⟨by omega, e2⟩]
  -- counts
  have hsumT : ∀ x : Int, UT (M 4) x → x ≠ -1 → rfT (M2 10) (gN (M 4) x) = rfT (M 10) x := fun x hx _ => by
    refine sm_congr 12 (fun v hv => ?_)
    (try dsimp only)
    rw [hM10 v hv]
    by_cases e : M 10 v = x
    · rw [e, if_pos rfl, if_pos rfl]
    · rw [if_neg e, if_neg (fun q => e (gN_inj (hut v hv) hx q))]
  have hsumP : ∀ x : Int, UT (M 4) x → x ≠ -1 → rfP (M2 4) (M2 6) (gN (M 4) x) = rfP (M 4) (M 6) x := fun x hx _ => by
    unfold rfP
    refine sm_cls (c := fun i => M 4 (i + 96)) (fun u hu hcu => ?_) (fun u hu hcu => if_pos hcu) (fun y hy hy2 => ?_)
    · (try dsimp only)
      have := l4 u hu hcu
      rw [if_neg hcu, show (rnk (fun i => M 4 (i + 96)) u : Int) + 96 = 96 + (rnk (fun i => M 4 (i + 96)) u : Int) by omega, this.2.1, if_neg hcu]
      refine sm_congr 8 (fun j hj => ?_)
      (try dsimp only)
      rw [this.2.2 j hj]
      by_cases e : M 6 ((u : Int) * 8 + j) = x
      · rw [e, if_pos rfl, if_pos rfl]
      · rw [if_neg e, if_neg (fun q => e (gN_inj (h.utp hu hj hcu) hx q))]
    · (try dsimp only)
      rw [show (y : Int) + 96 = 96 + (y : Int) by omega, l5 y hy hy2, if_pos rfl]
  have hsumN : ∀ t : Int, t ≠ -1 → (∀ x : Int, UT (M 4) x → gN (M 4) x ≠ t) → rfP (M2 4) (M2 6) t = 0 ∧ rfT (M2 10) t = 0 := fun t ht hno => by
    constructor
    · unfold rfP
      refine sm_zero 160 (fun y hy => ?_)
      (try dsimp only)
      rcases hPp y hy with ⟨_, e⟩ | ⟨u, hu, hcu, hr, e⟩
      · rw [if_pos e]
      · rw [if_neg (by rw [e]; exact hcu)]
        refine sm_zero 8 (fun j hj => ?_)
        (try dsimp only)
        have := (l4 u hu hcu).2.2 j hj
        rw [hr] at this
        rw [this, if_neg (hno _ (h.utp hu hj hcu))]
    · refine sm_zero 12 (fun v hv => ?_)
      (try dsimp only)
      rw [hM10 v hv, if_neg (hno _ (hut v hv))]
  have hxc : ∀ x : Int, TA x → M 4 x = rfP (M 4) (M 6) x + rfT (M 10) x + 0 := h.xc
  have hPI : PI R (M2 4) (M2 5) (M2 6) (M2 10) (fun _ => 0) := by
    refine ⟨h.e0, fun y hy h0 => ?_, fun t ht => ?_, fun y hy h0 => ?_, fun x hx => ?_⟩
    · rcases hPp y hy with ⟨_, e⟩ | ⟨u, hu, hcu, hr, e⟩
      · exact absurd e h0
      · obtain ⟨a1, a2, a3⟩ := l4 u hu hcu
        rw [hr] at a1 a3
        rw [a1]
        refine ⟨(h.kw u hu hcu).1, fun j hj => ?_⟩
        rw [a3 j hj]
        rcases dec_gN h hu hj hcu with e' | ⟨e1, b, b1, b2', b3⟩ | ⟨e1, p, p1, p2, p3, p4⟩
        · rw [e', gN_m1]; exact Or.inl rfl
        · have hr := rnk_le (M 4) b
          rw [b3, gN_b b1 b2']
          exact Or.inr (Or.inl ⟨e1, by omega, by omega⟩)
        · have hr := rnk_le (fun i => M 4 (i + 96)) p
          rw [p3, gN_p p1 p2]
          refine Or.inr (Or.inr ⟨e1, by omega, by omega, ?_⟩)
          rw [show (96 : Int) + (rnk (fun i => M 4 (i + 96)) p : Int) - 96 = (rnk (fun i => M 4 (i + 96)) p : Int) by omega, (l4 p p1 p2).1]
          exact p4
    · show M2 4 t = rfP (M2 4) (M2 6) t + rfT (M2 10) t + 0
      by_cases hb : t < 96
      · obtain ⟨y, rfl⟩ : ∃ y : Nat, t = (y : Int) := ⟨t.toNat, by have := ht.1; omega⟩
        rcases hB y (by omega) with ⟨e0, e⟩ | ⟨u, hu, hcu, hr, e⟩
        · obtain ⟨s1, s2⟩ := hsumN (y : Int) (by omega) (fun x hx q => by
            rcases hx with rfl | ⟨b, b1, b2', rfl⟩ | ⟨p, p1, p2, rfl⟩
            · rw [gN_m1] at q; omega
            · rw [gN_b b1 b2'] at q
              have := rnk_lt b2' b1
              omega
            · rw [gN_p p1 p2] at q; omega)
          rw [e, s1, s2]; omega
        · have hg : gN (M 4) (u : Int) = (y : Int) := by rw [gN_b hu hcu, hr]
          have hU : UT (M 4) (u : Int) := Or.inr (Or.inl ⟨u, hu, hcu, rfl⟩)
          rw [e, ← hg, hsumP _ hU (by omega), hsumT _ hU (by omega)]
          exact hxc _ ⟨by omega, by omega⟩
      · obtain ⟨y, rfl⟩ : ∃ y : Nat, t = (y : Int) + 96 := ⟨(t - 96).toNat, by omega⟩
        have ht2 := ht.2
        rcases hPp y (by omega) with ⟨e0, e⟩ | ⟨u, hu, hcu, hr, e⟩
        · obtain ⟨s1, s2⟩ := hsumN ((y : Int) + 96) (by omega) (fun x hx q => by
            rcases hx with rfl | ⟨b, b1, b2', rfl⟩ | ⟨p, p1, p2, rfl⟩
            · rw [gN_m1] at q; omega
            · have := rnk_le (M 4) b
              rw [gN_b b1 b2'] at q; omega
            · rw [gN_p p1 p2] at q
              have := rnk_lt (c := fun i => M 4 (i + 96)) p2 p1
              omega)
          rw [e, s1, s2]; omega
        · have hg : gN (M 4) ((u : Int) + 96) = (y : Int) + 96 := by rw [gN_p hu hcu, hr]; omega
          have hU : UT (M 4) ((u : Int) + 96) := Or.inr (Or.inr ⟨u, hu, hcu, rfl⟩)
          rw [e, ← hg, hsumP _ hU (by omega), hsumT _ hU (by omega)]
          exact hxc _ ⟨by omega, by omega⟩
    · rcases hPp y hy with ⟨_, e⟩ | ⟨u, hu, hcu, hr, e⟩
      · exact absurd e h0
      · obtain ⟨a1, a2, a3⟩ := l4 u hu hcu
        obtain ⟨c1, c2, c3⟩ := rp' u hu hcu
        rw [hr] at a1 a3 c1 c3
        refine ⟨by rw [c1, a1], fun j hj => ?_⟩
        rw [c3 j hj, a1, a3 j hj]
    · rw [l6 x (by by_cases a : x < 0
                   · exact Or.inl a
                   · exact Or.inr (by
                       have : ¬ x < 256 := fun b => hx ⟨by omega, b⟩
                       omega))]
      exact h.zo x hx
  have hRV : RV M2 R := fun v hv => by
    obtain ⟨w1, w2⟩ := hV v hv
    have e7 : M2 7 = M 7 := l1 7 (by decide) (by decide) (by decide) (by decide) (by decide) (by decide)
    rw [hM10 v hv, e7]
    refine ⟨?_, fun h7 => ?_⟩
    · rcases hV.tr h hv with e | ⟨e1, e2, e3, e4⟩
      · rw [e, gN_m1]; exact Or.inl rfl
      · obtain ⟨p, hp⟩ : ∃ p : Nat, M 10 v = (p : Int) + 96 := ⟨(M 10 v - 96).toNat, by omega⟩
        rw [hp] at e3 e4 ⊢
        have hr := rnk_le (fun i => M 4 (i + 96)) p
        rw [show (p : Int) + 96 - 96 = p by omega] at e4
        rw [gN_p (by omega) e3]
        refine Or.inr ⟨by omega, by omega, ?_⟩
        rw [show (96 : Int) + (rnk (fun i => M 4 (i + 96)) p : Int) - 96 = (rnk (fun i => M 4 (i + 96)) p : Int) by omega, (l4 p (by omega) e3).1]
        exact e4
    · rw [rt v hv, if_pos ⟨by omega, by omega, h7⟩]
  have hRB : RB M2 R := fun b h0 h1 hb => by
    obtain ⟨y, rfl⟩ : ∃ y : Nat, b = (y : Int) := ⟨b.toNat, by omega⟩
    rcases hB y (by omega) with ⟨_, e⟩ | ⟨u, hu, hcu, hr, e⟩
    · exact absurd e hb
    · have a := (l2 u hu hcu).1
      have c := (rb u hu hcu).1
      rw [hr] at a c
      rw [a, c]
      exact hJ.1.rb u (by omega) (by omega) hcu
  have hct : ∀ w : Nat, w < 12 → ∀ a : Int, ct (M2 6) (M2 10) w a = gN (M 4) (ct (M 6) (M 10) w a) := fun w hw a => by
    unfold ct
    have o1 := hV.tr h hw
    have o2 := tw_ok hV h hw a
    have o3 := lf_ok hV h hw a
    rw [hM10 w hw, lc_at hL o1]
    have e2 := lc_at hL o2 (plc a 1)
    have e3 := lc_at hL o3 (plc a 0)
    unfold twS at e2
    unfold lfS twS at e3
    rw [e2, e3]
  refine ⟨JX.view hJ (fun k hk => l1 k (by omega) (by omega) (by omega) (by omega) (by omega) (by omega)) (fun y hy hne => ?_) hPI hRV hRB ?_ (fun w hw a a1 a2 => ?_) (fun v hv h0 => ?_), ?_⟩
  · rcases hy with e | e | e
    · exact r0 y (by omega)
    · exact r0 y (by omega)
    · exact r1 y e hne
  · have hc2 : ∀ x, 0 ≤ M2 4 x := fun x => (hPI.bd x).1
    rw [nz_rnk hc0, nz_rnk hc2, rnk_low (k := rnk (M 4) 96) 96 (fun y hy => ?_)]
    · have := rnk_le (M 4) 96
      omega
    · rcases hB y hy with ⟨e0, e⟩ | ⟨u, hu, hcu, hr, e⟩
      · exact ⟨fun q => absurd e q, fun q => by omega⟩
      · have := rnk_lt hcu hu
        exact ⟨fun _ => by omega, fun _ => by rw [e]; exact hcu⟩
  · rw [hct w hw a]
    refine gN_m1i ?_
    have := bk_ok hV h hw a
    rw [bk_ct] at this
    rcases this with e | ⟨e1, e2, e3⟩
    · exact Or.inl e
    · refine Or.inr (Or.inl ⟨(ct (M 6) (M 10) w a).toNat, by omega, ?_, by omega⟩)
      rw [show (((ct (M 6) (M 10) w a).toNat : Nat) : Int) = ct (M 6) (M 10) w a by omega]
      exact e3
  · rw [hM10 v hv, (hJ.1.mv.2 v (by omega) (by omega)).1.2.2.2 h0, gN_m1]
  · funext j
    unfold wc
    by_cases h5 : 5 ≤ j ∧ j ≤ 195 ∧ (j - 5) % 2 = 0
    · rw [if_pos h5]
      obtain ⟨y, hy⟩ : ∃ y : Nat, (j - 5) / 2 = (y : Int) := ⟨((j - 5) / 2).toNat, by omega⟩
      have hj : j = 5 + 2 * (y : Int) := by omega
      rw [hy, hj]
      rcases hB y (by omega) with ⟨e0, e⟩ | ⟨u, hu, hcu, hr, e⟩
      · rw [e, if_neg (by omega), rbz y e0 (by omega)]
      · have := (rb u hu hcu).2
        rw [hr] at this
        rw [e, this, if_neg (by have := hc0 u; omega)]
    · rw [if_neg h5]
      by_cases h7 : 197 ≤ j ∧ j ≤ 1787 ∧ (j - 197) % 10 = 0
      · rw [if_pos h7]
        obtain ⟨y, hy⟩ : ∃ y : Nat, (j - 197) / 10 = (y : Int) := ⟨((j - 197) / 10).toNat, by omega⟩
        have hj : j = 197 + 10 * (y : Int) := by omega
        rw [hy, hj]
        rcases hPp y (by omega) with ⟨e0, e⟩ | ⟨u, hu, hcu, hr, e⟩
        · rw [e, rpz y e0 (by omega)]
        · have := (rp' u hu hcu).2.1
          rw [hr] at this
          rw [e, this]
      · rw [if_neg h7]
theorem cl_cnt (d : Nat) {A c : Int → Int} (hc : ∀ x, 0 ≤ c x) {N : am_M} (hN : N 505 = wc A c) : ∀ (m n : Nat), n + m = 96 → am_at am_P (d + 1) j_Md_close 24 [am_r 6 504, am_i (mvd c n), am_i (rnk c n : Int), am_i (n : Int)] [] N = am_bV (am_m am_P (d + 1) j_Md_layBlocks [am_r 6 504] N) fun M1 => am_bV (am_m am_P (d + 1) j_Md_layParts [am_r 6 504] M1) fun M2 => some (some (am_i (mvd c 96)), M2)
  | 0, n, h => by
    have hn : n = 96 := by omega
    subst hn
    rw [E_Md_close_24, if_neg (by omega)]
  | m + 1, n, h => by
    have ih := cl_cnt d hc hN m (n + 1) (by omega)
    have hb := mvd_bd c n
    have hr := rnk_le c n
    rw [E_Md_close_24, if_pos (by omega), S_Md_blockCount d (by omega), bI_some, hN, wc_b _ _ (by omega), if_neg (show ¬ c (n : Int) < 0 by have := hc n; omega)]
    by_cases h0 : c (n : Int) = 0
    · rw [rnk_s0 h0, mvd_s0 h0, Int.natCast_succ] at ih
      rw [if_pos h0, v_eq, wr_id (by omega) (by omega)]
      exact ih
    · rw [if_neg h0]
      by_cases e : (rnk c n : Int) = n
      · rw [rnk_s1 h0, mvd_s1 h0 e, Int.natCast_succ, Int.natCast_succ] at ih
        rw [if_pos e.symm, v_eq, v_eq, v_eq, wr_id (z := mvd c n + 0) (by omega) (by omega), wr_id (by omega) (by omega), wr_id (by omega) (by omega), Int.add_zero]
        exact ih
      · rw [rnk_s1 h0, mvd_s2 h0 e, Int.natCast_succ, Int.natCast_succ] at ih
        rw [if_neg (fun q => e q.symm), v_eq, v_eq, v_eq, wr_id (by omega) (by omega), wr_id (by omega) (by omega), wr_id (by omega) (by omega)]
        exact ih
theorem J_close (d : Nat) {M : am_M} {n : Int} (hG : GR M n) : AG M (n + 1) (am_m am_P (d + 20) j_Tv_close [am_r 5 0] M) (am_m am_P (d + 20) j_Md_close [am_r 6 504]) := by
  have hX : am_m am_P (d + 20) j_Tv_close [am_r 5 0] M = am_at am_P (d + 19) j_Tv_close 0 [am_r 5 0, am_u] [] M := rfl
  have hY : ∀ N, am_m am_P (d + 20) j_Md_close [am_r 6 504] N = am_at am_P (d + 19) j_Md_close 0 [am_r 6 504, am_u, am_u, am_u] [] N := fun _ => rfl
  unfold AG
  rw [hX, E_Tv_close_0]
  simp only [hY, E_Md_close_0, Nat.reduceAdd]
  rcases snd_both (d + 14) (d + 15) hG with ⟨M', o1, o2, o3⟩ | ⟨M', A, o1, o2, o3, o4, o5, o6⟩
  · obtain ⟨w, N', e1, e0, e2⟩ := o3 M' (o2 505 (by decide))
    rw [o1, bI_some, if_pos rfl]
    refine ⟨_, _, N', rfl, ?_, RF.gr hG (by omega) (fun k hk => o2 k (by omega)) e2⟩
    rw [e1, bI_some, if_neg e0]
  · rw [o1, bI_some, if_neg (by decide)]
    obtain ⟨q, hq, hq2⟩ := o3.q
    obtain ⟨b0, hJ0⟩ := kp_beg o3 o5 hq (fun _ _ _ => rfl)
    obtain ⟨s1, hL⟩ := lc_sp (csS q 1 M')
    have ej := S_St_layClose (d + 15) 503 (by decide) (csS q 1 M')
    rw [s1, b0 4 (by omega)] at ej
    generalize (lcS 503 (csS q 1 M')).2 = M2 at hL ej
    have hm : ∀ k : Nat, (k = 0 ∨ 15 ≤ k) → k ≠ 503 → M2 k = csS q 1 M' k := fun k hk hk' => hL.1 k (by omega) (by omega) (by omega) (by omega) (by omega) hk'
    obtain ⟨k1, -, -, -, -⟩ := keep_fin (d + 16) o3 o4 hq (M2 := M2) hm
    obtain ⟨-, k2, k3, k4, k5⟩ := keep_fin (d + 17) o3 o4 hq (M2 := M2) hm
    rw [k1, bV_some, ej, bI_some, v_eq, k2, bV_some]
    obtain ⟨N', e1, e2⟩ := o6 (ksS M2) (by rw [k4 505 (by omega) (by omega), o2 505 (by decide)])
    obtain ⟨N1, N2, A1, n1, n2, n3, n4, n5, n6, n7⟩ := k5 N' e2
    have hJ1 := (kp_beg o3 o5 hq n6).2
    have hK4 : csS q 1 M' 4 = M' 4 := b0 4 (by omega)
    have hc0 : ∀ x, 0 ≤ M' 4 x := fun x => (o5.1.pi.bd x).1
    obtain ⟨N3, f1, f2, f3, f4, f5⟩ := R_layBlocks (d + 17) hc0 n5
    obtain ⟨N4, g1, g2, g3, g4, g5, g6, g7⟩ := R_layParts (d + 16) hJ1.1.pi hJ1.1.rv hJ1.1.mv (N := N3) (fun y hy => by rw [hK4]; exact f5 y (Or.inr hy)) (fun u hu hcu => by rw [hK4] at hcu ⊢; exact (f3 u hu hcu).1)
    have hrow : ∀ y : Int, y < 4 → N4 505 y = A1 y := fun y hy => by rw [g3 y (by omega), f5 y (Or.inl hy), wc_o _ _ (by omega)]
    obtain ⟨hJ2, hwc⟩ := lc_jx hJ1 hL (R := N4 505) hrow (fun y hy hne => g4 y hy hne) (fun u hu hcu => by
      have hle := rnk_le (csS q 1 M' 4) u
      rw [hK4] at hcu hle ⊢
      obtain ⟨x1, x2, x3⟩ := f3 u hu hcu
      rw [g3 _ (by omega), g3 _ (by omega)]
      exact ⟨x2, x3⟩) (fun x hx hx2 => by
      rw [hK4] at hx
      rw [g3 _ (by omega)]
      exact f4 x hx hx2) g5 g6 g7
    have h511 : M2 1 11 = 0 ∨ M2 1 11 = 1 := by rw [hL.1 1 (by decide) (by decide) (by decide) (by decide) (by decide) (by decide), b0 1 (by omega)]; exact o3.2.fl
    have hN4 : ∀ k : Nat, k ≠ 505 → k ≠ 510 → k ≠ 511 → N4 k = N2 k := fun k a b c => by rw [g2 k a c, f2 k a b]
    have hfin := n7 N4 (N4 505) hwc.symm (fun y hy => by
      rcases hy with hy | hy
      · exact hrow y (by omega)
      · exact g4 y (by omega) (fun v hv => by omega)) (fun k hk => hN4 k (by omega) (by omega) (by omega)) (by rw [hN4 504 (by decide) (by decide) (by decide)]) (by rw [hN4 504 (by decide) (by decide) (by decide)]) (SR.of hJ2 h511)
    refine ⟨_, _, N4, rfl, ?_, hfin.1, fun k hk => by rw [hfin.2 k hk, o2 k (by omega)]⟩
    rw [e1, bI_some, if_pos rfl, n1, bV_some, n2, bV_some, v_eq, v_eq, v_eq]
    refine Eq.trans (cl_cnt (d + 18) hc0 n5 96 0 (by omega)) ?_
    rw [f1, bV_some, g1, bV_some]
