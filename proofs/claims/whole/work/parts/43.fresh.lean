/-! A FRESH PART HUNG in a part, or from a volume -/
theorem rfT_up (tr : Int → Int) {v : Nat} (hv : v < 12) (x t : Int) : rfT (am_up tr v x) t = rfT tr t + ((if x = t then 1 else 0) - (if tr v = t then 1 else 0)) := by
  unfold rfT
  rw [sm_one (f := fun w => if tr w = t then 1 else 0) 12 v hv (fun i hi hiv => by (try dsimp only); rw [up_ne _ _ (by omega)])]
  (try dsimp only)
  rw [up_eq]
theorem up_bd {c : Int → Int} {x : Int} {b : Int} (h : ∀ y, 0 ≤ c y ∧ c y ≤ b) (y : Int) : 0 ≤ am_up c x (c x + 1) y ∧ am_up c x (c x + 1) y ≤ b + 1 := by
  have h1 := h y
  by_cases e : y = x
  · subst e; rw [up_eq]; omega
  · rw [up_ne _ _ e]; omega
theorem XC.bd {c pl tr ex : Int → Int} {b : Int} (h : XC TA c pl tr ex) (he : ∀ x, 0 ≤ ex x ∧ ex x ≤ b) (hz : ∀ x, ¬ TA x → c x = 0) (hb : 0 ≤ b) (x : Int) : 0 ≤ c x ∧ c x ≤ 1292 + b := by
  by_cases hx : TA x
  · have := h x hx
    have := he x
    have := rfP_nn c pl x
    have := rfP_le c pl x
    have := rfT_nn tr x
    have := rfT_le tr x
    omega
  · rw [hz x hx]; omega
/-- kinds and contents with a fresh part taken into use -/
theorem fresh_KC {A c kd pl : Int → Int} {q : Nat} {kp : Int} (hkp : 0 ≤ kp ∧ kp ≤ 2) (hK : KW c kd pl) (hC : CO A c kd pl) (hkq : kd q = kp) (hA0 : A (196 + 10 * (q : Int)) = kp) (hq8 : ∀ k : Nat, k < 8 → A (198 + 10 * (q : Int) + k) = dec kp (pl ((q : Int) * 8 + k)) ∧ (pl ((q : Int) * 8 + k) = -1 ∨ FT kd kp (pl ((q : Int) * 8 + k)))) : KW (am_up c ((q : Int) + 96) (c ((q : Int) + 96) + 1)) kd pl ∧ CO A (am_up c ((q : Int) + 96) (c ((q : Int) + 96) + 1)) kd pl := by
  refine ⟨fun p hp h0 => ?_, fun p hp h0 => ?_⟩
  · by_cases hpq : p = q
    · subst hpq
      rw [hkq]
      refine ⟨hkp, fun k hk => ?_⟩
      rcases (hq8 k hk).2 with h | ⟨a1, a2, a3⟩ | ⟨a1, a2, a3, a4, a5⟩
      · exact Or.inl h
      · exact Or.inr (Or.inl ⟨a1, a2, a3⟩)
      · exact Or.inr (Or.inr ⟨a1, a3, a4, a5⟩)
    · rw [up_ne _ _ (by omega)] at h0
      exact hK p hp h0
  · by_cases hpq : p = q
    · subst hpq
      rw [hkq]
      exact ⟨hA0, fun k hk => (hq8 k hk).1⟩
    · rw [up_ne _ _ (by omega)] at h0
      exact hC p hp h0
/-- all that hanging a fresh part q (like w, what was there) in place k of p asks and gives -/
theorem fresh_hang {A c kd pl tr ex : Int → Int} (h : PI A c kd pl tr ex) {q p k : Nat} (hq : q < 160) (hz : c ((q : Int) + 96) = 0) (hp : p < 160) (hk : k < 8) (hc0 : c ((p : Int) + 96) ≠ 0) {kp : Int} (hkp : 0 ≤ kp ∧ kp ≤ 1) (hkd : kd p = kp + 1) {s : (Int → Int) × (Int → Int) × (Int → Int)} (hs : nwS kp (pl ((p : Int) * 8 + k)) q A c pl = s) (hw : pl ((p : Int) * 8 + k) = -1 ∨ (96 ≤ pl ((p : Int) * 8 + k) ∧ pl ((p : Int) * 8 + k) < 256 ∧ c (pl ((p : Int) * 8 + k)) ≠ 0 ∧ kd (pl ((p : Int) * 8 + k) - 96) = kp)) (d : Nat) (M : am_M) :
    am_m am_P (d + 8) j_Md_hang [am_r 6 504, am_i p, am_i k, am_i q] (am_st M 505 (wc s.1 s.2.1)) = some (none, am_st M 505 (wc (am_up s.1 (198 + 10 * (p : Int) + k) q) (LGc (am_up s.2.2 ((p : Int) * 8 + k) ((q : Int) + 96)) 4 (rs s.2.1 ((q : Int) + 96)) (pl ((p : Int) * 8 + k))).2)) ∧
    s.2.2 ((p : Int) * 8 + k) = pl ((p : Int) * 8 + k) ∧ (∀ x, 0 ≤ s.2.1 x ∧ s.2.1 x ≤ 2300) ∧
    PI (am_up s.1 (198 + 10 * (p : Int) + k) q) (LGc (am_up s.2.2 ((p : Int) * 8 + k) ((q : Int) + 96)) 4 (rs s.2.1 ((q : Int) + 96)) (pl ((p : Int) * 8 + k))).2 (am_up kd q kp) (am_up s.2.2 ((p : Int) * 8 + k) ((q : Int) + 96)) tr ex := by
  have hpq : p ≠ q := fun e => hc0 (by rw [e]; exact hz)
  have hN := nw_NI (kp := kp) h hq hz (t := pl ((p : Int) * 8 + k)) (by
    rcases hw with h | ⟨h1, h2, h3, -⟩
    · exact Or.inl h
    · exact Or.inr ⟨h1, h2, h3⟩)
  rw [hs] at hN
  obtain ⟨j, -, -, -, -, hpl, -⟩ := hN
  have ew := hpl p k hpq hk
  obtain ⟨hu, hK, hX, hC, hzo, hA0, hq8⟩ := nw_PI h hq hz (show 0 ≤ kp ∧ kp ≤ 2 by omega) hw hs
  have hsz : s.2.1 ((q : Int) + 96) = 0 := (hu q hq).mpr hz
  have hsp : s.2.1 ((p : Int) + 96) ≠ 0 := fun e => hc0 ((hu p hp).mp e)
  have hkq : am_up kd q kp (q : Int) = kp := up_eq _ _ _
  have hkpp : am_up kd q kp (p : Int) = kp + 1 := by rw [up_ne _ _ (by omega)]; exact hkd
  have hF : FT (am_up kd q kp) (am_up kd q kp p) ((q : Int) + 96) := by
    rw [hkpp]
    refine Or.inr ⟨by omega, by omega, by omega, by omega, ?_⟩
    rw [show (q : Int) + 96 - 96 = (q : Int) by omega, hkq]
    omega
  have hdec : dec (am_up kd q kp p) ((q : Int) + 96) = q := by
    unfold dec
    rw [hkpp, if_neg (by omega), if_neg (by omega)]
    omega
  have hbd : ∀ x, 0 ≤ s.2.1 x ∧ s.2.1 x ≤ 2300 := fun x => by
    have := XC.bd (b := 1008) hX (fun y => by have := h.e0 y; have := tmP_nn s.2.2 q y; have := tmP_le s.2.2 q y; (try dsimp only); omega) hzo (by omega) x
    omega
  have er : rs s.2.1 ((q : Int) + 96) = am_up s.2.1 ((q : Int) + 96) (s.2.1 ((q : Int) + 96) + 1) := if_pos ⟨by omega, by omega⟩
  obtain ⟨hK1, hC1⟩ := fresh_KC (show 0 ≤ kp ∧ kp ≤ 2 by omega) hK hC hkq hA0 hq8
  have hX2 := hang_Xf hp hk hsp hq hsz hX
  have hK2 := hang_KW (p := p) hk hK1 hF
  have hC2 := hang_CO (p := p) hk hC1
  rw [hdec] at hC2
  rw [ew] at hX2
  have hwf : pl ((p : Int) * 8 + k) = -1 ∨ FT (am_up kd q kp) (am_up kd q kp p) (pl ((p : Int) * 8 + k)) := by
    have := hK.ft hp hk hsp
    rw [ew] at this
    exact this
  rw [er]
  refine ⟨?_, ew, hbd, PI.letGo h.e0 hK2 hX2 hC2 (fun x hx => ?_) (FT.wc (by rw [hkpp]; omega) hwf)⟩
  · have := S_Md_hang d (A := s.1) (kd := am_up kd q kp) (pl := s.2.2) (tr := tr) (c := s.2.1) (ex := ex) hp hk hF hsp hC (by have := hbd ((q : Int) + 96); omega) (by
      rw [ew]
      rcases hwf with h1 | h1
      · exact Or.inl h1
      · rw [hdec]
        exact Or.inr ⟨h1, LR_of h.e0 hK2 hX2 hC2 (fun x => by have := up_bd hbd (x := (q : Int) + 96) x; omega)⟩) M
    rw [hdec, ew] at this
    exact this
  · rw [up_ne _ _ (fun e => hx (by rw [e]; exact ⟨by omega, by omega⟩))]
    exact hzo x hx
