/-! GRAFTED: what is in use stays so through opening; any thing hung; (mkhand.py, gen80.py) -/
def kpU (M M' : am_M) : Prop := (∀ x : Int, TA x → M 4 x ≠ 0 → M' 4 x ≠ 0) ∧ ∀ p : Nat, p < 160 → M 4 ((p : Int) + 96) ≠ 0 → M' 5 p = M 5 p
theorem kpU.trans {M M' M'' : am_M} (h : kpU M M') (h' : kpU M' M'') : kpU M M'' := ⟨fun x hx h0 => h'.1 x hx (h.1 x hx h0), fun p hp h0 => (h'.2 p hp (h.1 _ ⟨by omega, by omega⟩ h0)).trans (h.2 p hp h0)⟩
theorem kpU_rfl (M : am_M) : kpU M M := ⟨fun _ _ h => h, fun _ _ _ => rfl⟩
theorem fresh_use {M : am_M} {A ex : Int → Int} (h : PI A (M 4) (M 5) (M 6) (M 10) ex) {q : Nat} (hq : frC (M 4) = q) {kp t : Int} (ht : t = -1 ∨ (96 ≤ t ∧ t < 256 ∧ M 4 t ≠ 0 ∧ M 5 (t - 96) = kp)) (hn : cntS (M 4) t ≠ 1) (pl' : Int → Int) {x : Int} (hx : TA x) (h0 : M 4 x ≠ 0) : (LGc pl' 4 (rs (nwS kp t q A (M 4) (M 6)).2.1 ((q : Int) + 96)) t).2 x ≠ 0 := by
  have hq2 : 0 ≤ (q : Int) ∧ (q : Int) < 160 ∧ M 4 ((q : Int) + 96) = 0 := by
    rcases frC_in (M 4) with e | e
    · omega
    · rw [hq] at e; exact e
  have hqn : q < 160 := by omega
  have c1 := fun x hx => nw_cnt (kp := kp) h hqn hq2.2.2 (us3 ht) (x := x) hx
  have hb : ∀ y, TA y → M 4 y ≤ rs (nwS kp t q A (M 4) (M 6)).2.1 ((q : Int) + 96) y := fun y hy => by
    have := c1 y hy
    have := hdP_nn (M 6) t 8 y
    have := (rs_bd (c := (nwS kp t q A (M 4) (M 6)).2.1) (x := (q : Int) + 96) (y := y)).1
    omega
  generalize rs (nwS kp t q A (M 4) (M 6)).2.1 ((q : Int) + 96) = c2 at hb ⊢
  have hx1 := hb x hx
  have hx2 := (h.bd x).1
  rcases ht with rfl | ⟨t1, t2, t3, t4⟩
  · rw [LGc_m1]; omega
  · have htt := hb t ⟨by omega, t2⟩
    have := (h.bd t).1
    have hcn : cntS (M 4) t = M 4 t := if_pos ⟨by omega, t2⟩
    rw [LGc_dec ⟨by omega, t2⟩ (by omega)]
    by_cases e : x = t
    · rw [e, up_eq]; omega
    · rw [up_ne _ _ e]; omega
theorem lvl_fk {M : am_M} {A ex : Int → Int} (h : PI A (M 4) (M 5) (M 6) (M 10) ex) {q p k : Nat} (hq : frC (M 4) = q) (hp : p < 160) (hk : k < 8) (hc0 : M 4 ((p : Int) + 96) ≠ 0) {kp : Int} (hkp : 0 ≤ kp ∧ kp ≤ 1) (hkd : M 5 p = kp + 1) (hn : cntS (M 4) (M 6 ((p : Int) * 8 + k)) ≠ 1) (hw : M 6 ((p : Int) * 8 + k) = -1 ∨ (96 ≤ M 6 ((p : Int) * 8 + k) ∧ M 6 ((p : Int) * 8 + k) < 256 ∧ M 4 (M 6 ((p : Int) * 8 + k)) ≠ 0 ∧ M 5 (M 6 ((p : Int) * 8 + k) - 96) = kp)) {M' : am_M} (hM : hangS (ownS M (M 6 ((p : Int) * 8 + k)) kp).2 ((p : Int) + 96) k ((q : Int) + 96) = M') (h5 : ∀ r : Nat, r < 160 → M 4 ((r : Int) + 96) ≠ 0 → M' 5 r = M 5 r) : kpU M M' := by
  refine ⟨fun x hx h0 => ?_, h5⟩
  obtain ⟨o1, o2⟩ := open_fresh h hq hp hk hc0 hkp hkd rfl hn hw
  rw [← hM, o2, m546_4]
  exact fresh_use h hq hw hn _ hx h0
theorem lvl_tk {M : am_M} {A ex : Int → Int} (h : PI A (M 4) (M 5) (M 6) (M 10) ex) (hV : RV M A) {q v : Nat} (hq : frC (M 4) = q) (hv : thS M v) (hn : cntS (M 4) (M 10 v) ≠ 1) {M' : am_M} (hM : hgTS (ownS M (M 10 v) 2).2 v ((q : Int) + 96) = M') (h5 : ∀ r : Nat, r < 160 → M 4 ((r : Int) + 96) ≠ 0 → M' 5 r = M 5 r) : kpU M M' := by
  have hv12 : v < 12 := by have := hv.2.1; omega
  have hw := hV.tr h hv12
  refine ⟨fun x hx h0 => ?_, h5⟩
  obtain ⟨o1, o2⟩ := open_trunk h hq hv rfl hn hw ((hV v hv12).2 hv.2.2)
  rw [← hM, o2, st_ne _ _ (by decide), m546_4]
  exact fresh_use h hq hw hn _ hx h0
theorem open_kl {ex : Int → Int} {v : Nat} {a low : Int} (hl : 0 ≤ low) : ∀ (m : Nat), m ≤ 2 → low ≤ m → ∀ (M : am_M) (A : Int → Int) (p : Nat), PI A (M 4) (M 5) (M 6) (M 10) ex → RV M A → thS M v → p < 160 → thgS M v a ((m : Int) + 1) = (p : Int) + 96 → M 5 p = m →
    (opS v a low m M ((p : Int) + 96)).1 ≠ -1 → kpU M (opS v a low m M ((p : Int) + 96)).2
  | 0, _, hlm, M, A, p, hPI, hV, hv, hp, hP, hk, _ => kpU_rfl M
  | m + 1, hm, hlm, M, A, p, hPI, hV, hv, hp, hP, hk, hne => by
    have hu := thg_used hPI hv a hm (by omega) hp hV hP
    by_cases hst : (m : Int) < low
    · have e : opS v a low (m + 1) M ((p : Int) + 96) = ((p : Int) + 96, M) := by unfold opS; rw [if_pos hst]
      rw [e]
      exact kpU_rfl M
    · have hx := thg_next hv a (m := m) (by omega) hp hP
      have h8 := plc_8 a ((m : Int) + 1)
      obtain ⟨k, hkk⟩ : ∃ k : Nat, plc a ((m : Int) + 1) = (k : Int) := ⟨(plc a ((m : Int) + 1)).toNat, by omega⟩
      have hk8 : k < 8 := by omega
      rw [hkk] at hx
      have hkd : M 5 p = (m : Int) + 1 := by omega
      have hw : M 6 ((p : Int) * 8 + k) = -1 ∨ (96 ≤ M 6 ((p : Int) * 8 + k) ∧ M 6 ((p : Int) * 8 + k) < 256 ∧ M 4 (M 6 ((p : Int) * 8 + k)) ≠ 0 ∧ M 5 (M 6 ((p : Int) * 8 + k) - 96) = m) := by
        rcases hPI.kw.ft hp hk8 hu with e | ⟨e, -⟩ | ⟨e1, e2, e3, e4, e5⟩
        · exact Or.inl e
        · omega
        · exact Or.inr ⟨e3, e4, by have := hPI.child hp hk8 hu ⟨by omega, e4⟩; omega, by omega⟩
      unfold opS at hne ⊢
      rw [if_neg hst, hx] at hne ⊢
      by_cases h1 : cntS (M 4) (M 6 ((p : Int) * 8 + k)) = 1
      · have hne1 : M 6 ((p : Int) * 8 + k) ≠ -1 := fun e => by rw [e] at h1; unfold cntS at h1; rw [if_neg (by omega)] at h1; omega
        obtain ⟨e1, e2, e3, e4⟩ : 96 ≤ M 6 ((p : Int) * 8 + k) ∧ M 6 ((p : Int) * 8 + k) < 256 ∧ M 4 (M 6 ((p : Int) * 8 + k)) ≠ 0 ∧ M 5 (M 6 ((p : Int) * 8 + k) - 96) = m := by
          rcases hw with e | e
          · exact absurd e hne1
          · exact e
        obtain ⟨o1, -⟩ := lvl_old hPI (kp := m) (by omega) ⟨e1, e2, e3, e4⟩ h1 0 M
        obtain ⟨o, ho⟩ : ∃ o : Nat, M 6 ((p : Int) * 8 + k) = (o : Int) + 96 := ⟨(M 6 ((p : Int) * 8 + k) - 96).toNat, by omega⟩
        rw [o1] at hne ⊢
        (try dsimp only at hne ⊢)
        rw [if_neg hne1, if_pos rfl, ho] at hne ⊢
        rw [ho] at hx
        rw [show M 6 ((p : Int) * 8 + k) - 96 = (o : Int) by omega] at e4
        exact open_kl hl m (by omega) (by omega) M A o hPI hV hv (by omega) hx e4 hne
      · rcases frC_in (M 4) with hf | ⟨f1, f2, f3⟩
        · obtain ⟨o1, -⟩ := lvl_none hPI (kp := m) (by omega) hw h1 hf 0 M
          rw [o1, if_pos rfl] at hne
          exact absurd rfl hne
        · obtain ⟨q, hq⟩ : ∃ q : Nat, frC (M 4) = (q : Int) := ⟨(frC (M 4)).toNat, by omega⟩
          obtain ⟨M', A', R, hqn, g1, g2, -, -, -, -, g7, g8, g9, g10, g11, g12, g13, -, -⟩ := lvl_fresh hPI hV hq hp hk8 hu (kp := m) (by omega) hkd h1 hw 0 M
          have ck := lvl_fk hPI hq hp hk8 hu (kp := m) (by omega) hkd h1 hw g2 g13
          obtain ⟨c1, c2, c3⟩ := lvl_fc hPI hV hq hp hk8 hu (kp := m) (by omega) hkd h1 hw g2
          have hqx : (q : Int) + 96 ≠ M 6 ((p : Int) * 8 + k) := fun e => by
            rcases hw with e' | ⟨-, -, e', -⟩
            · omega
            · rw [← e, ← hq] at e'; exact e' f3
          rw [g1, if_neg (by omega), if_neg hqx, if_neg (by omega), hkk, g2] at hne ⊢
          have hv' : thS M' v := by
            refine ⟨hv.1, hv.2.1, ?_⟩
            rw [g11 7 (by decide) (by decide) (by decide)]; exact hv.2.2
          have hv12 : v < 12 := by have := hv.2.1; omega
          have e10 : M' 10 = M 10 := g11 10 (by decide) (by decide) (by decide)
          -- the way above, and its counts
          have hup : ∀ j : Int, (m : Int) + 2 ≤ j → j ≤ 3 → thgS M' v a j = thgS M v a j ∧ M' 4 (thgS M v a j) = M 4 (thgS M v a j) := by
            intro j hj1 hj3
            have htr := hV.tr hPI hv12
            have hpm : M' 4 ((p : Int) + 96) = M 4 ((p : Int) + 96) := c2 _ (by omega) (by omega) hu (by rw [show (p : Int) + 96 - 96 = p by omega]; omega)
            rcases (show (m = 0 ∧ j = 2) ∨ j = 3 by omega) with ⟨rfl, rfl⟩ | rfl
            · have hP2 : thgS M v a 2 = (p : Int) + 96 := hP
              refine ⟨?_, by rw [hP2]; exact hpm⟩
              rw [thg_2 hv', thg_2 hv]
              unfold twS
              rw [e10]
              rcases htr with e | ⟨t1, t2, t3, t4⟩
              · rw [e, at_m1, at_m1]
              · obtain ⟨t, ht⟩ : ∃ t : Nat, M 10 v = (t : Int) + 96 := ⟨(M 10 v - 96).toNat, by omega⟩
                have h82 := plc_8 a 2
                obtain ⟨i, hi⟩ : ∃ i : Nat, plc a 2 = (i : Int) := ⟨(plc a 2).toNat, by omega⟩
                rw [hi, at_in ⟨t1, t2⟩ (by omega), at_in ⟨t1, t2⟩ (by omega), show M 10 v - 96 = (t : Int) by omega]
                have htp : t ≠ p := fun e => by
                  rw [show M 10 v - 96 = (t : Int) by omega, e] at t4
                  omega
                exact g12 t i (by omega) (by rw [← ht]; exact t3) (by omega) (fun q => htp q.1)
            · refine ⟨by rw [thg_3 hv', thg_3 hv, e10], ?_⟩
              rw [thg_3 hv]
              rcases htr with e | ⟨t1, t2, t3, t4⟩
              · rw [e, g7.zo (-1) (fun q => by have := q.1; omega), hPI.zo (-1) (fun q => by have := q.1; omega)]
              · exact c2 _ t1 t2 t3 (by omega)
          have hP' : thgS M' v a (((m + 1 : Nat) : Int) + 1) = (p : Int) + 96 := by
            rw [(hup (((m + 1 : Nat) : Int) + 1) (by omega) (by omega)).1]; exact hP
          have hx' := thg_next hv' a (m := m) (by omega) hp hP'
          rw [hkk, g9] at hx'
          exact ck.trans (open_kl hl m (by omega) (by omega) M' A' q g7 g8 hv' hqn hx' g10 hne)
theorem open_keep {ex : Int → Int} {v : Nat} {a low : Int} (hl : 0 ≤ low ∧ low ≤ 2) {M : am_M} {A : Int → Int} (hPI : PI A (M 4) (M 5) (M 6) (M 10) ex) (hV : RV M A) (hv : thS M v) (hne : (opS v a low 3 M (-1)).1 ≠ -1) : kpU M (opS v a low 3 M (-1)).2 := by
  have hv12 : v < 12 := by have := hv.2.1; omega
  have hw := hV.tr hPI hv12
  have e3 : thgS M v a (((2 : Nat) : Int) + 1) = M 10 v := thg_3 hv a
  unfold opS at hne ⊢
  rw [if_neg (show ¬ ((2 : Nat) : Int) < low by omega), e3] at hne ⊢
  by_cases h1 : cntS (M 4) (M 10 v) = 1
  · have hne1 : M 10 v ≠ -1 := fun e => by rw [e] at h1; unfold cntS at h1; rw [if_neg (by omega)] at h1; omega
    obtain ⟨t1, t2, t3, t4⟩ : 96 ≤ M 10 v ∧ M 10 v < 256 ∧ M 4 (M 10 v) ≠ 0 ∧ M 5 (M 10 v - 96) = 2 := by
      rcases hw with e | e
      · exact absurd e hne1
      · exact e
    obtain ⟨o1, -⟩ := lvl_old hPI (kp := 2) (by omega) ⟨t1, t2, t3, t4⟩ h1 0 M
    obtain ⟨o, ho⟩ : ∃ o : Nat, M 10 v = (o : Int) + 96 := ⟨(M 10 v - 96).toNat, by omega⟩
    have o1' : ownS M (M 10 v) ((2 : Nat) : Int) = (M 10 v, M) := o1
    rw [o1'] at hne ⊢
    (try dsimp only at hne ⊢)
    rw [if_neg hne1, if_pos rfl, ho] at hne ⊢
    have e3' := e3
    rw [ho] at e3'
    rw [show M 10 v - 96 = (o : Int) by omega] at t4
    exact open_kl hl.1 2 (by omega) (by omega) M A o hPI hV hv (by omega) e3' t4 hne
  · rcases frC_in (M 4) with hf | ⟨f1, f2, f3⟩
    · obtain ⟨o1, -⟩ := lvl_none hPI (kp := 2) (by omega) hw h1 hf 0 M
      have o1' : ownS M (M 10 v) ((2 : Nat) : Int) = (-1, M) := o1
      rw [o1', if_pos rfl] at hne
      exact absurd rfl hne
    · obtain ⟨q, hq⟩ : ∃ q : Nat, frC (M 4) = (q : Int) := ⟨(frC (M 4)).toNat, by omega⟩
      obtain ⟨M', A', R, hqn, g1, g1', g2, -, -, -, -, g7, g8, g9, g10, g11, g12, -, g14, -, -⟩ := lvl_trunk hPI hV hq hv h1 0 M
      have ck := lvl_tk hPI hV hq hv h1 g2 g14
      have g1c : (ownS M (M 10 v) ((2 : Nat) : Int)).1 = (q : Int) + 96 := g1
      have g2c : hgTS (ownS M (M 10 v) ((2 : Nat) : Int)).2 v ((q : Int) + 96) = M' := g2
      rw [g1c, if_neg (by omega), if_neg g1', if_pos rfl, g2c] at hne ⊢
      have hv' : thS M' v := by
        refine ⟨hv.1, hv.2.1, ?_⟩
        rw [g12 7 (by decide) (by decide) (by decide) (by decide)]; exact hv.2.2
      have hP' : thgS M' v a (((2 : Nat) : Int) + 1) = (q : Int) + 96 := (thg_3 hv' a).trans g9
      exact ck.trans (open_kl hl.1 2 (by omega) (by omega) M' A' q g7 g8 hv' hqn hP' g10 hne)
/-- any thing in use hung in a place of a part in use -/
theorem thing_hang {M : am_M} {A ex : Int → Int} (h : PI A (M 4) (M 5) (M 6) (M 10) ex) {p k : Nat} (hp : p < 160) (hk : k < 8) (hc0 : M 4 ((p : Int) + 96) ≠ 0) {x : Int} (hF : FT (M 5) (M 5 p) x) (hx0 : M 4 x ≠ 0) (d : Nat) (N : am_M) :
    am_m am_P (d + 8) j_Md_hang [am_r 6 504, am_i p, am_i k, am_i (dec (M 5 p) x)] (am_st N 505 (wc A (M 4))) = some (none, am_st N 505 (wc (am_up A (198 + 10 * (p : Int) + k) (dec (M 5 p) x)) (hangS M ((p : Int) + 96) k x 4))) ∧
    PI (am_up A (198 + 10 * (p : Int) + k) (dec (M 5 p) x)) (hangS M ((p : Int) + 96) k x 4) (M 5) (hangS M ((p : Int) + 96) k x 6) (M 10) ex ∧ hangS M ((p : Int) + 96) k x 6 = am_up (M 6) ((p : Int) * 8 + k) x ∧ ∀ r : Nat, r ≠ 4 → r ≠ 6 → hangS M ((p : Int) + 96) k x r = M r := by
  have hT : TA x := by
    rcases hF with ⟨_, e1, e2⟩ | ⟨_, _, e1, e2, _⟩
    · exact ⟨e1, by omega⟩
    · exact ⟨by omega, e2⟩
  have er : rs (M 4) x = am_up (M 4) x (M 4 x + 1) := if_pos hT
  have hb := h.bd x
  have hu : ∀ q : Nat, q < 160 → am_up (M 4) x (M 4 x + 1) ((q : Int) + 96) ≠ 0 → M 4 ((q : Int) + 96) ≠ 0 := fun q hq h0 => by
    by_cases e : (q : Int) + 96 = x
    · rw [e]; exact hx0
    · rwa [up_ne _ _ e] at h0
  have hX := hang_X hp hk hc0 h.xc (x := x) (fun q hq e => by omega)
  have hK := hang_KW (p := p) hk (h.kw.mono hu) hF
  have hC := hang_CO (p := p) hk (x := x) (h.co.mono hu)
  have hwf := h.kw.ft hp hk hc0
  have hpure := hangS_pure M hp hk x (fun y => by have := h.bd y; omega)
  rw [er] at hpure
  have e4 : hangS M ((p : Int) + 96) k x 4 = (LGc (am_up (M 6) ((p : Int) * 8 + k) x) 4 (am_up (M 4) x (M 4 x + 1)) (M 6 ((p : Int) * 8 + k))).2 := by rw [hpure, st_eq]
  have e6 : hangS M ((p : Int) + 96) k x 6 = am_up (M 6) ((p : Int) * 8 + k) x := by rw [hpure, st_ne _ _ (by decide), st_eq]
  rw [e4, e6]
  refine ⟨?_, PI.letGo h.e0 hK hX hC (fun y hy => ?_) (FT.wc (h.kw p hp hc0).1 hwf), rfl, fun r h4 h6 => by rw [hpure, st_ne _ _ h4, st_ne _ _ h6]⟩
  · exact S_Md_hang d (A := A) (kd := M 5) (pl := M 6) (tr := M 10) (c := M 4) (ex := ex) hp hk hF hc0 h.co (by omega) (by
      rcases hwf with e | e
      · exact Or.inl e
      · exact Or.inr ⟨e, LR_of h.e0 hK hX hC (fun y => by have := up_bd h.bd (x := x) y; omega)⟩) N
  · rw [up_ne _ _ (fun e => hy (by rw [e]; exact hT))]
    exact h.zo y hy
/-- the reference looks behind the end of the volume -/
theorem gs_loop (d : Nat) (v : Int) {E : am_M → Option am_O} (hE : ∀ N, E N = am_bI (am_m am_P (d + 10) j_Md_end [am_r 6 504, am_i v] N) fun x2 M1 => am_if (x2 = 0 ∨ x2 = 1) (some (some (am_i x2), M1))) {N : am_M} (h2 : N 504 2 = 1) : ∀ (m : Nat) (k : Int), 0 ≤ k → k + m = 512 → am_at am_P (d + 10) j_Md_graft 130 [am_r 6 504, am_u, am_u, am_u, am_i v, am_u, am_u, am_u, am_u, am_i k] [] N = E N
  | 0, k, hk, hm => by rw [E_Md_graft_130, if_neg (by omega), hE]
  | m + 1, k, hk, hm => by
    have e : am_set N 504 2 1 = N := by unfold am_set; rw [← h2, up_self, st_self]
    rw [E_Md_graft_130, if_pos (by omega), if_neg (by omega), if_t (by omega), e, w_eq, v_eq, wr_id (by omega) (by omega)]
    exact gs_loop d v hE h2 m (k + 1) (by omega) (by omega)
theorem gr_loop (d : Nat) {v : Nat} {E : am_M → Option am_O} (hE : ∀ N, E N = am_bI (am_m am_P (d + 10) j_Md_end [am_r 6 504, am_i v] N) fun x2 M1 => am_if (x2 = 0 ∨ x2 = 1) (some (some (am_i x2), M1))) {M N : am_M} {A ex : Int → Int} (h : PI A (M 4) (M 5) (M 6) (M 10) ex) (hV : RV M A) (hv : thS M v) (hN : N 505 = wc A (M 4)) (h2 : N 504 2 = 0) : ∀ (m : Nat) (k : Int), 0 ≤ k → k + m = 512 → am_at am_P (d + 10) j_Md_graft 130 [am_r 6 504, am_u, am_u, am_u, am_i (v : Int), am_u, am_u, am_u, am_u, am_i k] [] N = E (if fd (fun a => ¬ blkS M v a = -1) (fun _ => inferInstance) k m = -1 then N else am_set N 504 2 1)
  | 0, k, hk, hm => by
    have e : fd (fun a => ¬ blkS M v a = -1) (fun _ => inferInstance) k 0 = -1 := rfl
    rw [E_Md_graft_130, if_neg (by omega), e, if_pos rfl, hE]
  | m + 1, k, hk, hm => by
    have e : am_set N 504 2 0 = N := by unfold am_set; rw [← h2, up_self, st_self]
    have ef : fd (fun a => ¬ blkS M v a = -1) (fun _ => inferInstance) k (m + 1) = if ¬ blkS M v k = -1 then k else fd (fun a => ¬ blkS M v a = -1) (fun _ => inferInstance) (k + 1) m := rfl
    rw [E_Md_graft_130, if_pos (by omega), if_pos h2, R_blockAt (d + 7) h hV hv (by omega) hN, bI_some, ef]
    by_cases hb : blkS M v k = -1
    · rw [if_pos hb, if_t (by omega), e, w_eq, v_eq, wr_id (by omega) (by omega), if_neg (show ¬ ¬ blkS M v k = -1 from fun q => q hb)]
      exact gr_loop d hE h hV hv hN h2 m (k + 1) (by omega) (by omega)
    · rw [if_neg hb, if_t (by omega), w_eq, v_eq, wr_id (by omega) (by omega), if_pos hb, if_neg (show ¬ k = -1 by omega)]
      exact gs_loop d v hE (by rw [set_eq, up_eq]) m (k + 1) (by omega) (by omega)
theorem graft_opr (d : Nat) {A : Int → Int} {M N1 : am_M} {w : Nat} {n : Int} (hJ : JY M A n) (hw : thS M w) (hN5 : N1 505 = wc A (M 4)) (h2 : N1 504 2 = 0) {b kd t : Int} (hb : 0 ≤ b ∧ b < 512) (hkd : 0 ≤ kd ∧ kd ≤ 2) (ht0 : M 4 t ≠ 0) (ht : FT (M 5) kd t) :
    ∃ N2, ((am_bI (am_m am_P (d + 10) j_Md_openTo [am_r 6 504, am_i w, am_i b, am_i kd] N1) fun x30 M29 => am_v x30 fun x31 => if x31 = (-1) then (am_bI (am_m am_P (d + 10) j_Md_get [am_r 6 504, am_i w, am_i 1] M29) fun x33 M32 => am_v x33 fun x34 => am_at am_P (d + 10) j_Md_graft 130 [am_r 6 504, am_u, am_u, am_u, am_i w, am_u, am_u, am_u, am_u, am_i x34] [] M32) else (am_bI (am_m am_P (d + 10) j_Md_stepIn [am_i b, am_i kd] M29) fun x36 M35 => am_bV (am_m am_P (d + 10) j_Md_hang [am_r 6 504, am_i x31, am_i x36, am_i (dec kd t)] M35) fun M37 => am_bI (am_m am_P (d + 10) j_Md_get [am_r 6 504, am_i w, am_i 1] M37) fun x39 M38 => am_v x39 fun x40 => am_at am_P (d + 10) j_Md_graft 130 [am_r 6 504, am_u, am_u, am_u, am_i w, am_u, am_u, am_u, am_u, am_i x40] [] M38)) = am_bI (am_m am_P (d + 10) j_Md_end [am_r 6 504, am_i w] N2) fun x2 M1 => am_if (x2 = 0 ∨ x2 = 1) (some (some (am_i x2), M1))) ∧ ((inS M w b kd t).1 = 0 ∨ (inS M w b kd t).1 = 1) ∧ OPR A M N1 w (inS M w b kd t).1 (inS M w b kd t).2 N2 := by
  have hw12 : w < 12 := by have := hw.2.1; omega
  have hsz := (hJ.mv.2 w hw.1 hw.2.1).1
  have hA1 : A (1796 + 9 * (w : Int) + 1) = M 7 w := by rw [show 1796 + 9 * (w : Int) + 1 = 1797 + 9 * w by omega]; exact (hJ.mv.vd hw).1
  have hw0 := hw.2.2
  have hOZ := OZ_in M w b kd t
  have ho := open_both (d + 1) hb hkd N1 hJ.pi hJ.rv hw
  have hown := open_own (a := b) hkd hJ.pi hJ.rv hw
  have hkeep := open_keep (a := b) hkd hJ.pi hJ.rv hw
  rw [← hN5, st_self] at ho
  unfold inS at hOZ ⊢
  generalize opS w b kd 3 M (-1) = r at ho hown hkeep hOZ ⊢
  generalize am_m am_P (d + 1 + 9) j_Md_openTo [am_r 6 504, am_i (w : Int), am_i b, am_i kd] N1 = Y at ho ⊢
  rcases ho with ⟨R, r1, r2, r3, r4⟩ | ⟨o, A1, o1, o2, o3, o4, o5, o6, o7, o8, o9, o10, o11⟩
  · rw [if_pos r1] at hOZ ⊢
    rw [r2, bI_some, v_eq, if_pos rfl, S_Md_get (d + 9) (by omega) (by omega), bI_some, set_ne _ _ _ (by decide), st_eq, r3 _ (by omega) (by omega), hA1, v_eq]
    refine ⟨_, gs_loop d w (fun _ => rfl) (by rw [set_eq, up_eq]) (512 - M 7 w).toNat (M 7 w) (by omega) (by omega), Or.inl rfl, fun k _ h4 h5 h6 h10 => r4 k h4 h5 h6 h10, hOZ, Or.inl ⟨rfl, R, rfl, fun y hy => r3 y (by omega) (by omega)⟩⟩
  · have hne : r.1 ≠ -1 := by omega
    obtain ⟨w1, w2⟩ := hown hne
    obtain ⟨u1, u2⟩ := hkeep hne
    have h8 := plc_8 b kd
    obtain ⟨k, hk⟩ : ∃ k : Nat, plc b kd = (k : Int) := ⟨(plc b kd).toNat, by omega⟩
    have hk8 : k < 8 := by omega
    have hv1 : thS r.2 w := ⟨hw.1, hw.2.1, by rw [o8 7 (by decide) (by decide) (by decide) (by decide)]; exact hw.2.2⟩
    have hu : r.2 4 ((o : Int) + 96) ≠ 0 := by
      rcases thg_ok o5 o4 hv1 b (l := kd + 1) (by omega) with e | e
      · rw [o7] at e; omega
      · rw [o7] at e; exact e.2.2.1
    have hB1 : RB r.2 A1 := OP_RB (ex := fun _ => 0) (by omega) hJ.rb (o8 3 (by decide) (by decide) (by decide) (by decide)) o10 o11
    have hTt : TA t := by
      rcases ht with ⟨_, e1, e2⟩ | ⟨_, _, e1, e2, _⟩
      · exact ⟨e1, by omega⟩
      · exact ⟨by omega, e2⟩
    have ht1 : r.2 4 t ≠ 0 := u1 t hTt ht0
    have hF : FT (r.2 5) (r.2 5 o) t := by
      rw [o6]
      rcases ht with e | ⟨e0, e1, e2, e3, e4⟩
      · exact Or.inl e
      · refine Or.inr ⟨e0, e1, e2, e3, ?_⟩
        have := u2 (t - 96).toNat (by omega) (by rw [show (((t - 96).toNat : Nat) : Int) + 96 = t by omega]; exact ht0)
        rw [show (((t - 96).toNat : Nat) : Int) = t - 96 by omega] at this
        rw [this]; exact e4
    obtain ⟨g1, g2, g3, g4⟩ := thing_hang o4 o1 hk8 hu hF ht1 (d + 2) N1
    rw [o6] at g1 g2
    have hz := @hang_z r.2 _ (fun _ => 0) o k o1 hk8 t (fun y => by have := o4.bd y; omega) g2
    rw [if_neg hne] at hOZ ⊢
    rw [o2, hk] at hOZ ⊢
    rw [o3, bI_some, v_eq, if_neg (show ¬ (o : Int) = -1 by omega), S_Md_stepIn (d + 9) hb (by omega), bI_some, hk, g1, bV_some, R_get (d + 9) (by omega) (by omega), bI_some, up_ne _ _ (by omega), o10 _ (by omega) (by omega), hA1, v_eq]
    have hfr : ∀ i : Nat, i ≠ 3 → i ≠ 4 → i ≠ 5 → i ≠ 6 → i ≠ 10 → hangS r.2 ((o : Int) + 96) k t i = M i := fun i _ h4 h5 h6 h10 => by rw [g4 i h4 h6, o8 i h4 h5 h6 h10]
    have hct : ∀ z : Nat, z < 12 → z ≠ w → ∀ e : Int, 0 ≤ e ∧ e < 512 → ct (hangS r.2 ((o : Int) + 96) k t 6) (hangS r.2 ((o : Int) + 96) k t 10) z e = ct (M 6) (M 10) z e := fun z hz hzw e _ => by
      rw [g3, g4 10 (by decide) (by decide), hang_ct o5 o4 hv1 hkd w1 o1 hk8 o7 o6 t hz hzw e, w2 z hz e]
    have hPI2 : PI (am_up A1 (198 + 10 * (o : Int) + k) (dec kd t)) (hangS r.2 ((o : Int) + 96) k t 4) (hangS r.2 ((o : Int) + 96) k t 5) (hangS r.2 ((o : Int) + 96) k t 6) (hangS r.2 ((o : Int) + 96) k t 10) (fun _ => 0) := by
      rw [g4 5 (by decide) (by decide), g4 10 (by decide) (by decide)]; exact g2
    have hV2 : RV (hangS r.2 ((o : Int) + 96) k t) (am_up A1 (198 + 10 * (o : Int) + k) (dec kd t)) := hang_RV (by omega) o5 (g4 5 (by decide) (by decide)) (g4 7 (by decide) (by decide)) (g4 10 (by decide) (by decide))
    have hB2 : RB (hangS r.2 ((o : Int) + 96) k t) (am_up A1 (198 + 10 * (o : Int) + k) (dec kd t)) := RB_mono hB1 (g4 3 (by decide) (by decide)) (fun y _ hy => up_ne _ _ (by omega)) (fun x _ _ hx => hz (fun e => by rw [e] at hx; exact ht1 hx) hx)
    have e7 : hangS r.2 ((o : Int) + 96) k t 7 w = M 7 w := by rw [hfr 7 (by decide) (by decide) (by decide) (by decide) (by decide)]
    have hv2 : thS (hangS r.2 ((o : Int) + 96) k t) w := ⟨hw.1, hw.2.1, by rw [e7]; exact hw.2.2⟩
    have h10 : ∀ z : Int, z ≠ w → hangS r.2 ((o : Int) + 96) k t 10 z = M 10 z := fun z hz => by rw [g4 10 (by decide) (by decide), o9 z hz]
    have hAf : ∀ y : Int, (y < 4 ∨ 1796 ≤ y) → y ≠ 1796 + 9 * (w : Int) + 4 → am_up A1 (198 + 10 * (o : Int) + k) (dec kd t) y = A y := fun y hy hyw => by rw [up_ne _ _ (by omega), o10 y (by omega) hyw]
    (try dsimp only at hOZ ⊢)
    generalize hangS r.2 ((o : Int) + 96) k t = M2 at hfr hct hPI2 hV2 hB2 e7 hv2 h10 hOZ ⊢
    generalize am_up A1 (198 + 10 * (o : Int) + k) (dec kd t) = A2 at hPI2 hV2 hB2 hAf ⊢
    rw [e7]
    unfold fmS
    rw [gr_loop d (fun _ => rfl) hPI2 hV2 hv2 (st_eq _ _ _) (by rw [st_ne _ _ (by decide)]; exact h2) (512 - M 7 w).toNat (M 7 w) (by omega) (by omega)]
    have hsp := fd_spec (p := fun a => ¬ blkS M2 w a = -1) (dp := fun _ => inferInstance) (512 - M 7 w).toNat (M 7 w)
    by_cases hf : fd (fun a => ¬ blkS M2 w a = -1) (fun _ => inferInstance) (M 7 w) (512 - M 7 w).toNat = -1
    · rw [if_pos hf, b2_t hf]
      refine ⟨_, rfl, Or.inr rfl, hfr, hOZ, Or.inr ⟨rfl, A2, rfl, hAf, hPI2, hV2, hB2, h10, hct, fun e e1 e2 => ?_⟩⟩
      rcases hsp with ⟨_, q2⟩ | ⟨q1, _⟩
      · rw [← blk_ct hv2]
        exact Classical.byContradiction (fun q => q2 e e1 (by omega) q)
      · omega
    · rw [if_neg hf, b2_f hf]
      exact ⟨_, rfl, Or.inl rfl, hfr, hOZ, Or.inl ⟨rfl, _, rfl, fun y hy => by rw [wc_o _ _ (by omega)]; exact hAf y (by omega) (by omega)⟩⟩
