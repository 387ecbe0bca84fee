/-! PARTS FOLDED: like parts, one in place of another -/
/-- letting go leaves parts of the same kind or above -/
theorem LGc_hi {c0 kd pl : Int → Int} (hK : KW c0 kd pl) : ∀ (n : Nat) (m : Int) (c : Int → Int) (t : Int), (∀ x, c x ≤ c0 x) → (t = -1 ∨ (0 ≤ t ∧ t < 96) ∨ (96 ≤ t ∧ t < 256 ∧ kd (t - 96) ≤ m)) → ∀ x : Int, 96 ≤ x → x < 256 → m ≤ kd (x - 96) → x ≠ t → (LGc pl n c t).2 x = c x
  | 0, _, _, _, _, _, _, _, _, _, _ => rfl
  | n + 1, m, c, t, hc, ht, x, x1, x2, x3, x4 => by
    unfold LGc
    by_cases hT : 0 ≤ t ∧ t < 256
    · rw [if_pos hT]
      by_cases h1 : c t - 1 = 0
      · rw [if_pos h1]
        by_cases h2 : t < 96
        · rw [if_pos h2]
          exact up_ne _ _ x4
        · rw [if_neg h2]
          obtain ⟨p, hp⟩ : ∃ p : Nat, t = (p : Int) + 96 := ⟨(t - 96).toNat, by omega⟩
          subst hp
          have hu : c0 ((p : Int) + 96) ≠ 0 := by have := hc ((p : Int) + 96); omega
          obtain ⟨-, hkid⟩ := hK p (by omega) hu
          have hm : kd p ≤ m := by
            rcases ht with e | e | ⟨_, _, e⟩
            · omega
            · omega
            · rw [show (p : Int) + 96 - 96 = p by omega] at e; exact e
          have key := it_inv (b := fun k (s : Int × (Int → Int)) => (s.1 + (LGc pl n s.2 (atS pl ((p : Int) + 96) k)).1, (LGc pl n s.2 (atS pl ((p : Int) + 96) k)).2)) (fun _ s => (∀ y, s.2 y ≤ c0 y) ∧ s.2 x = c x) 8 0 (0, am_up c ((p : Int) + 96) (c ((p : Int) + 96) - 1)) ⟨fun y => by
              (try dsimp only)
              by_cases hy : y = (p : Int) + 96
              · rw [hy, up_eq]; have := hc ((p : Int) + 96); omega
              · rw [up_ne _ _ hy]; exact hc y, up_ne _ _ x4⟩ (fun k s k1 k2 hs => by
              obtain ⟨s1, s2⟩ := hs
              (try dsimp only)
              obtain ⟨j, hj⟩ : ∃ j : Nat, k = (j : Int) := ⟨k.toNat, by omega⟩
              subst hj
              have hat : atS pl ((p : Int) + 96) j = pl ((p : Int) * 8 + j) := by rw [at_in ⟨by omega, by omega⟩ ⟨by omega, by omega⟩, show (p : Int) + 96 - 96 = p by omega]
              rw [hat]
              have hl := (LGc_low pl n s.2 (pl ((p : Int) * 8 + j))).1
              refine ⟨fun y => Int.le_trans (hl y).2 (s1 y), ?_⟩
              rw [← s2]
              refine LGc_hi hK n (m - 1) s.2 _ s1 ?_ x x1 x2 (by omega) ?_
              · rcases hkid j (by omega) with e | ⟨_, e1, e2⟩ | ⟨_, e2, e3, e4⟩
                · exact Or.inl e
                · exact Or.inr (Or.inl ⟨e1, e2⟩)
                · exact Or.inr (Or.inr ⟨e2, e3, by omega⟩)
              · intro e
                rcases hkid j (by omega) with e' | ⟨_, e1, e2⟩ | ⟨_, e2, e3, e4⟩
                · omega
                · omega
                · rw [← e] at e4; omega)
          exact key.2
      · rw [if_neg h1]
        exact up_ne _ _ x4
    · rw [if_neg hT]
theorem fd_sh {p : Int → Prop} {dp : ∀ i, Decidable (p i)} (c : Int) : ∀ (k : Nat) (i : Int), 0 ≤ i → fd p dp (i + c) k = if fd (fun j => p (j + c)) (fun j => dp (j + c)) i k = -1 then -1 else fd (fun j => p (j + c)) (fun j => dp (j + c)) i k + c
  | 0, i, _ => by unfold fd; rw [if_pos rfl]
  | k + 1, i, h => by
    unfold fd
    by_cases hp : p (i + c)
    · rw [if_pos hp, if_pos hp, if_neg (by omega)]
    · rw [if_neg hp, if_neg hp, show i + c + 1 = i + 1 + c by omega]
      exact fd_sh c k (i + 1) (by omega)
theorem dec_inj {kd : Int → Int} {m x y : Int} (hx : x = -1 ∨ FT kd m x) (hy : y = -1 ∨ FT kd m y) (h : dec m x = dec m y) : x = y := by
  unfold dec at h
  rcases hx with rfl | ⟨a1, a2, a3⟩ | ⟨a1, a2, a3, a4, a5⟩ <;> rcases hy with rfl | ⟨b1, b2', b3⟩ | ⟨b1, b2', b3, b4, b5⟩
  · rfl
  · rw [if_pos rfl, if_neg (by omega), if_pos b1] at h; omega
  · rw [if_pos rfl, if_neg (by omega), if_neg (by omega)] at h; omega
  · rw [if_pos rfl, if_neg (by omega), if_pos a1] at h; omega
  · rw [if_neg (by omega), if_pos a1, if_neg (by omega), if_pos a1] at h; exact h
  · omega
  · rw [if_pos rfl, if_neg (by omega), if_neg (by omega)] at h; omega
  · omega
  · rw [if_neg (by omega), if_neg (by omega), if_neg (by omega), if_neg (by omega)] at h; omega
theorem R_areLike (d : Nat) {M : am_M} {A ex : Int → Int} (h : PI A (M 4) (M 5) (M 6) (M 10) ex) {i p : Nat} (hi : i < 160) (hp : p < 160) (ui : M 4 ((i : Int) + 96) ≠ 0) (up : M 4 ((p : Int) + 96) ≠ 0) {N : am_M} (hN : N 505 = wc A (M 4)) : am_m am_P (d + 2) j_Md_areLike [am_r 6 504, am_i (i : Int), am_i (p : Int)] N = some (some (am_i (b2 (M 5 i = M 5 p ∧ smeS M ((i : Int) + 96) ((p : Int) + 96)))), N) := by
  show am_at am_P (d + 1) j_Md_areLike 0 [am_r 6 504, am_i (i : Int), am_i (p : Int), am_u] [] N = _
  obtain ⟨ci1, ci2⟩ := h.co i hi ui
  obtain ⟨cp1, cp2⟩ := h.co p hp up
  rw [E_Md_areLike_0, v_eq]
  have key := lp_fd (F := fun k => am_at am_P (d + 1) j_Md_areLike 2 [am_r 6 504, am_i (i : Int), am_i (p : Int), am_i k] [] N) (p := fun k => ¬ A (198 + 10 * (i : Int) + k) = A (198 + 10 * (p : Int) + k)) (dp := fun _ => inferInstance) (r := fun k => if k = -1 then some (some (am_i (b2 (M 5 i = M 5 p))), N) else some (some (am_i 0), N)) (a := 0) (k := 8) (by
    (try dsimp only)
    rw [E_Md_areLike_2, if_neg (by omega), S_Md_kindOf d (by omega), bI_some, S_Md_kindOf d (by omega), bI_some, hN, wc_k _ _ (by omega), wc_k _ _ (by omega), ci1, cp1, if_pos rfl]
    by_cases hk : M 5 i = M 5 p
    · rw [if_pos hk, if_b1, b2_t hk]
    · rw [if_neg hk, if_b0, b2_f hk]) (fun k k1 k2 => by
    (try dsimp only)
    rw [E_Md_areLike_2, if_pos (by omega), S_Md_placeOf d (by omega) (by omega), bI_some, S_Md_placeOf d (by omega) (by omega), bI_some, hN, wc_l _ _ (by omega) (by omega), wc_l _ _ (by omega) (by omega)]
    by_cases hk : A (198 + 10 * (i : Int) + k) = A (198 + 10 * (p : Int) + k)
    · rw [if_pos hk, if_neg (fun q => q hk), v_eq, wr_id (by omega) (by omega)]
    · rw [if_neg hk, if_pos hk, if_b0, if_neg (by omega)])
  rw [key]
  have hati : ∀ k : Nat, k < 8 → atS (M 6) ((i : Int) + 96) k = M 6 ((i : Int) * 8 + k) := fun k hk => by rw [at_in ⟨by omega, by omega⟩ ⟨by omega, by omega⟩, show (i : Int) + 96 - 96 = i by omega]
  have hatp : ∀ k : Nat, k < 8 → atS (M 6) ((p : Int) + 96) k = M 6 ((p : Int) * 8 + k) := fun k hk => by rw [at_in ⟨by omega, by omega⟩ ⟨by omega, by omega⟩, show (p : Int) + 96 - 96 = p by omega]
  rcases fd_spec (p := fun k => ¬ A (198 + 10 * (i : Int) + k) = A (198 + 10 * (p : Int) + k)) (dp := fun _ => inferInstance) 8 0 with ⟨e1, e2⟩ | ⟨e1, e2, e3, e4⟩
  · rw [e1, if_pos rfl]
    by_cases hk : M 5 i = M 5 p
    · rw [b2_t hk, b2_t]
      refine ⟨hk, fun k hk8 => ?_⟩
      have h1 : A (198 + 10 * (i : Int) + k) = A (198 + 10 * (p : Int) + k) := Classical.byContradiction (e2 k (by omega) (by omega))
      rw [ci2 k hk8, cp2 k hk8, hk] at h1
      rw [hati k hk8, hatp k hk8]
      have f1 := h.kw.ft hi hk8 ui
      rw [hk] at f1
      exact dec_inj f1 (h.kw.ft hp hk8 up) h1
    · rw [b2_f hk, b2_f (fun q => hk q.1)]
  · generalize fd (fun k => ¬ A (198 + 10 * (i : Int) + k) = A (198 + 10 * (p : Int) + k)) (fun _ => inferInstance) 0 8 = z at e1 e2 e3 e4 ⊢
    rw [if_neg (by omega), b2_f]
    rintro ⟨q1, q2⟩
    obtain ⟨j, hj⟩ : ∃ j : Nat, z = (j : Int) := ⟨z.toNat, by omega⟩
    subst hj
    refine e3 ?_
    have := q2 j (by omega)
    rw [hati j (by omega), hatp j (by omega)] at this
    rw [ci2 j (by omega), cp2 j (by omega), q1, this]
theorem knd_u {M : am_M} {p : Nat} (hp : p < 160) (hu : 0 < M 4 ((p : Int) + 96)) : kndS (M 4) (M 5) ((p : Int) + 96) = M 5 p := by
  unfold kndS
  rw [if_pos ⟨by omega, by omega, hu⟩, show (p : Int) + 96 - 96 = p by omega]
theorem knd_0 {M : am_M} {p : Nat} (hu : ¬ 0 < M 4 ((p : Int) + 96)) : kndS (M 4) (M 5) ((p : Int) + 96) = -1 := if_neg (fun q => hu q.2.2)
theorem R_likePart (d : Nat) {M : am_M} {A ex : Int → Int} (h : PI A (M 4) (M 5) (M 6) (M 10) ex) {p : Nat} (hp : p < 160) (up : M 4 ((p : Int) + 96) ≠ 0) {N : am_M} (hN : N 505 = wc A (M 4)) : am_m am_P (d + 3) j_Md_likePart [am_r 6 504, am_i (p : Int)] N = some (some (am_i (decT (ltS M ((p : Int) + 96)))), N) := by
  show am_at am_P (d + 2) j_Md_likePart 0 [am_r 6 504, am_i (p : Int), am_u] [] N = _
  have hb := fun x => (h.bd x).1
  have hkp : kndS (M 4) (M 5) ((p : Int) + 96) = M 5 p := knd_u hp (by have := hb ((p : Int) + 96); omega)
  have hk0 := (h.kw p hp up).1.1
  rw [E_Md_likePart_0, v_eq]
  refine (lp_fd (F := fun i => am_at am_P (d + 2) j_Md_likePart 2 [am_r 6 504, am_i (p : Int), am_i i] [] N) (p := fun i => kndS (M 4) (M 5) (i + 96) = kndS (M 4) (M 5) ((p : Int) + 96) ∧ smeS M (i + 96) ((p : Int) + 96)) (dp := fun _ => inferInstance) (r := fun i => some (some (am_i i), N)) (a := 0) (k := p) (by
    (try dsimp only)
    rw [E_Md_likePart_2, if_neg (by omega)]) (fun i i1 i2 => by
    (try dsimp only)
    obtain ⟨j, hj⟩ : ∃ j : Nat, i = (j : Int) := ⟨i.toNat, by omega⟩
    subst hj
    have hbj := hb ((j : Int) + 96)
    rw [E_Md_likePart_2, if_pos (by omega), S_Md_isPart d, bI_some, hN, wc_p _ _ (by omega)]
    by_cases uj : M 4 ((j : Int) + 96) = 0
    · rw [b2_f (fun q => q.2.2 uj), if_pos rfl, v_eq, wr_id (by omega) (by omega), if_neg]
      rintro ⟨q, -⟩
      rw [hkp, knd_0 (by omega)] at q
      omega
    · rw [b2_t ⟨by omega, by omega, uj⟩, if_neg (by decide), R_areLike d h (by omega) hp uj up hN, bI_some, hkp, knd_u (by omega) (by omega)]
      by_cases hq : M 5 j = M 5 p ∧ smeS M ((j : Int) + 96) ((p : Int) + 96)
      · rw [b2_t hq, if_neg (by decide), if_pos hq]
      · rw [b2_f hq, if_pos rfl, if_neg hq, v_eq, wr_id (by omega) (by omega)])).trans ?_
  (try dsimp only)
  have e : ltS M ((p : Int) + 96) = if fd (fun i => kndS (M 4) (M 5) (i + 96) = kndS (M 4) (M 5) ((p : Int) + 96) ∧ smeS M (i + 96) ((p : Int) + 96)) (fun _ => inferInstance) 0 p = -1 then -1 else fd (fun i => kndS (M 4) (M 5) (i + 96) = kndS (M 4) (M 5) ((p : Int) + 96) ∧ smeS M (i + 96) ((p : Int) + 96)) (fun _ => inferInstance) 0 p + 96 := by
    unfold ltS
    rw [show ((p : Int) + 96 - 96).toNat = p by omega]
    exact fd_sh (p := fun i => kndS (M 4) (M 5) i = kndS (M 4) (M 5) ((p : Int) + 96) ∧ smeS M i ((p : Int) + 96)) (dp := fun _ => inferInstance) 96 p 0 (Int.le_refl _)
  rw [e]
  unfold decT
  rcases fd_spec (p := fun i => kndS (M 4) (M 5) (i + 96) = kndS (M 4) (M 5) ((p : Int) + 96) ∧ smeS M (i + 96) ((p : Int) + 96)) (dp := fun _ => inferInstance) p 0 with ⟨e1, _⟩ | ⟨e1, _⟩
  · rw [e1, if_pos rfl, if_pos rfl]
  · generalize fd (fun i => kndS (M 4) (M 5) (i + 96) = kndS (M 4) (M 5) ((p : Int) + 96) ∧ smeS M (i + 96) ((p : Int) + 96)) (fun _ => inferInstance) 0 p = z at e1 ⊢
    rw [if_neg (show ¬ z = -1 by omega), if_neg (by omega), show z + 96 - 96 = z by omega]
/-- part q and its twin o, while q's places are given to o -/
def TW (M : am_M) (q o : Nat) (m : Int) : Prop := q < 160 ∧ o < 160 ∧ q ≠ o ∧ M 5 q = m ∧ M 5 o = m ∧ M 4 ((o : Int) + 96) ≠ 0 ∧ ∀ j : Nat, j < 8 → M 6 ((o : Int) * 8 + j) = M 6 ((q : Int) * 8 + j)
theorem up_step (d : Nat) {A0 A : Int → Int} {M0 M : am_M} (hF : FR A0 M0 M A) {q o : Nat} {m : Int} (hm : 0 ≤ m ∧ m ≤ 1) (hT : TW M q o m) {p k : Nat} (hp : p < 160) (hk : k < 8) (hu : M 4 ((p : Int) + 96) ≠ 0) (hkd : M 5 p = m + 1) (hpl : M 6 ((p : Int) * 8 + k) = (q : Int) + 96) (N0 : am_M) : ∃ A', FR A0 M0 (hangS M ((p : Int) + 96) k ((o : Int) + 96)) A' ∧ TW (hangS M ((p : Int) + 96) k ((o : Int) + 96)) q o m ∧ hangS M ((p : Int) + 96) k ((o : Int) + 96) 4 ((p : Int) + 96) ≠ 0 ∧ am_m am_P (d + 8) j_Md_hang [am_r 6 504, am_i (p : Int), am_i (k : Int), am_i (o : Int)] (am_st N0 505 (wc A (M 4))) = some (none, am_st N0 505 (wc A' (hangS M ((p : Int) + 96) k ((o : Int) + 96) 4))) := by
  obtain ⟨h1, h2, h3, h4, h5, h6, h7, h8⟩ := id hF
  obtain ⟨t1, t2, t3, t4, t5, t6, t7⟩ := hT
  have hb0 := fun x => h3.bd x
  have hpo : (p : Int) ≠ o := fun e => by have : p = o := by omega
                                          rw [this] at hkd; omega
  have hpq : (p : Int) ≠ q := fun e => by have : p = q := by omega
                                          rw [this] at hkd; omega
  have hFT : FT (M 5) (M 5 p) ((o : Int) + 96) := Or.inr ⟨by omega, by omega, by omega, by omega, by rw [show (o : Int) + 96 - 96 = o by omega, t5]; omega⟩
  have hdec : dec (M 5 p) ((o : Int) + 96) = o := by unfold dec; rw [if_neg (by omega), if_neg (by omega)]; omega
  obtain ⟨g1, g2, g3, g4⟩ := thing_hang h3 hp hk hu hFT t6 d N0
  rw [hdec] at g1 g2
  have hz := @hang_z M _ _ p k hp hk ((o : Int) + 96) (fun y => by have := hb0 y; omega) g2
  have hz' : ∀ x : Int, M 4 x = 0 → hangS M ((p : Int) + 96) k ((o : Int) + 96) 4 x = 0 := fun x q => hz (fun e => by rw [e] at q; exact t6 q) q
  have er : rs (M 4) ((o : Int) + 96) = am_up (M 4) ((o : Int) + 96) (M 4 ((o : Int) + 96) + 1) := if_pos ⟨by omega, by omega⟩
  have e4 := congrFun (hangS_pure M hp hk ((o : Int) + 96) (fun y => by have := hb0 y; omega)) 4
  rw [st_eq, er, hpl] at e4
  have hKW : KW (am_up (M 4) ((o : Int) + 96) (M 4 ((o : Int) + 96) + 1)) (M 5) (am_up (M 6) ((p : Int) * 8 + k) ((o : Int) + 96)) := by
    refine hang_KW (p := p) hk (h3.kw.mono (fun z hz h0 => ?_)) hFT
    by_cases e : (z : Int) + 96 = (o : Int) + 96
    · rw [e]; exact t6
    · rwa [up_ne _ _ e] at h0
  have hhi := fun x x1 x2 x3 x4 => LGc_hi hKW 4 m (am_up (M 4) ((o : Int) + 96) (M 4 ((o : Int) + 96) + 1)) ((q : Int) + 96) (fun _ => Int.le_refl _) (Or.inr (Or.inr ⟨by omega, by omega, by rw [show (q : Int) + 96 - 96 = q by omega]; omega⟩)) x x1 x2 x3 x4
  rw [← e4] at hhi
  have hused : 0 < M 4 ((q : Int) + 96) := by
    have := h3.child hp hk hu (by rw [hpl]; exact ⟨by omega, by omega⟩)
    rw [hpl] at this
    exact this
  refine ⟨am_up A (198 + 10 * (p : Int) + k) o, ⟨fun r r4 r6 r10 => by rw [g4 r r4 r6, h1 r r4 r6 r10], fun y hy hv => by rw [up_ne _ _ (by omega), h2 y hy hv], ?_, ?_, ?_, fun x hx => hz' x (h6 x hx), fun w hw a a1 a2 => ?_, fun v hv h0 => by rw [g4 10 (by decide) (by decide)]; exact h8 v hv h0⟩, ⟨t1, t2, t3, by rw [g4 5 (by decide) (by decide)]; exact t4, by rw [g4 5 (by decide) (by decide)]; exact t5, ?_, fun j hj => ?_⟩, ?_, g1⟩
  · rw [g4 5 (by decide) (by decide), g4 10 (by decide) (by decide)]; exact g2
  · exact hang_RV (by omega) h4 (g4 5 (by decide) (by decide)) (g4 7 (by decide) (by decide)) (g4 10 (by decide) (by decide))
  · exact RB_mono h5 (g4 3 (by decide) (by decide)) (fun y _ _ => up_ne _ _ (by omega)) (fun x _ _ => hz' x)
  · rw [g3, g4 10 (by decide) (by decide)]
    have hve := VE_cp h3 (pl' := am_up (M 6) ((p : Int) * 8 + k) ((o : Int) + 96)) (q := o) (kp := m) (w := (q : Int) + 96) t2 (fun r j hr hru hj => by
      by_cases e : (r : Int) * 8 + j = (p : Int) * 8 + k
      · have hrp : r = p := by omega
        subst hrp
        rw [e, up_eq]
        exact Or.inr ⟨hkd, rfl, hpl⟩
      · exact Or.inl (up_ne _ _ e)) (fun j hj => by
      rw [up_ne _ _ (by omega), t7 j hj, at_in ⟨by omega, by omega⟩ ⟨by omega, by omega⟩, show (q : Int) + 96 - 96 = q by omega]) hm.1 (Or.inr ⟨by omega, by omega, by omega, by rw [show (q : Int) + 96 - 96 = q by omega]; exact t4⟩) 3 (M 10 w) (by
      rcases h4.tr h3 hw with e | ⟨e1, e2, e3, e4⟩
      · exact Or.inl e
      · exact Or.inr (Or.inr ⟨e1, e2, e3, by rw [e4]; rfl⟩))
    rw [VE_ct hve a]
    exact h7 w hw a a1 a2
  · rw [hhi _ (by omega) (by omega) (by rw [show (o : Int) + 96 - 96 = o by omega]; omega) (by omega), up_eq]
    have := hb0 ((o : Int) + 96)
    omega
  · rw [g3, up_ne _ _ (by omega), up_ne _ _ (by omega)]
    exact t7 j hj
  · rw [hhi _ (by omega) (by omega) (by rw [show (p : Int) + 96 - 96 = p by omega]; omega) (by omega), up_ne _ _ (by omega)]
    exact hu
