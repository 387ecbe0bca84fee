/-! TOLD: owners, parts -/
/-- what lies under a thing -/
def UND (pl : Int → Int) : Nat → Int → Int → Prop
  | 0, _, _ => False
  | n + 1, t, x => (96 ≤ t ∧ t < 256) ∧ (x = t ∨ ∃ k : Int, 0 ≤ k ∧ k < 8 ∧ UND pl n (atS pl t k) x)
theorem mk_sp (r : Nat) (hr : r ≠ 6) : ∀ (n : Nat) (N : am_M) (t : Int), (∀ k : Nat, k ≠ r → mkS r n N t k = N k) ∧ ∀ x : Int, mkS r n N t r x ≠ 0 ↔ (N r x ≠ 0 ∨ UND (N 6) n t x)
  | 0, N, t => ⟨fun _ _ => rfl, fun x => ⟨fun h => Or.inl h, fun h => by rcases h with h | h; exact h; exact h.elim⟩⟩
  | n + 1, N, t => by
    unfold mkS UND
    by_cases ht : 96 ≤ t ∧ t < 256
    · rw [if_pos ht]
      have h6 : (am_set N r t 1) 6 = N 6 := set_ne _ _ _ (Ne.symm hr)
      have hset : ∀ x : Int, am_set N r t 1 r x ≠ 0 ↔ (N r x ≠ 0 ∨ x = t) := fun x => by
        rw [set_eq]
        by_cases hx : x = t
        · subst hx; rw [up_eq]; exact ⟨fun _ => Or.inr rfl, fun _ => by decide⟩
        · rw [up_ne _ _ hx]; exact ⟨fun h => Or.inl h, fun h => by rcases h with h | h; exact h; exact absurd h hx⟩
      by_cases h0 : n = 0
      · subst h0
        rw [if_pos rfl]
        refine ⟨fun k hk => set_ne _ _ _ hk, fun x => ?_⟩
        rw [hset]
        constructor
        · rintro (h | h)
          · exact Or.inl h
          · exact Or.inr ⟨ht, Or.inl h⟩
        · rintro (h | ⟨_, h | ⟨k, _, _, h⟩⟩)
          · exact Or.inl h
          · exact Or.inr h
          · exact h.elim
      · rw [if_neg h0]
        have lp : ∀ (m : Nat) (i : Int) (K : am_M), K 6 = N 6 → (∀ k : Nat, k ≠ r → itS (fun k N => mkS r n N (atS (N 6) t k)) m i K k = K k) ∧ ∀ x : Int, itS (fun k N => mkS r n N (atS (N 6) t k)) m i K r x ≠ 0 ↔ (K r x ≠ 0 ∨ ∃ k : Int, i ≤ k ∧ k < i + m ∧ UND (N 6) n (atS (N 6) t k) x) := by
          intro m
          induction m with
          | zero => exact fun i K _ => ⟨fun _ _ => rfl, fun x => ⟨fun h => Or.inl h, fun h => by rcases h with h | ⟨k, h1, h2, _⟩; exact h; omega⟩⟩
          | succ m ih =>
            intro i K hK
            unfold itS
            obtain ⟨m1, m2⟩ := mk_sp r hr n K (atS (K 6) t i)
            obtain ⟨l1, l2⟩ := ih (i + 1) (mkS r n K (atS (K 6) t i)) (by rw [m1 6 (Ne.symm hr), hK])
            refine ⟨fun k hk => by rw [l1 k hk, m1 k hk], fun x => ?_⟩
            rw [l2, m2, hK]
            constructor
            · rintro ((h | h) | ⟨k, h1, h2, h3⟩)
              · exact Or.inl h
              · exact Or.inr ⟨i, by omega, by omega, h⟩
              · exact Or.inr ⟨k, by omega, by omega, h3⟩
            · rintro (h | ⟨k, h1, h2, h3⟩)
              · exact Or.inl (Or.inl h)
              · by_cases hk : k = i
                · subst hk; exact Or.inl (Or.inr h3)
                · exact Or.inr ⟨k, by omega, by omega, h3⟩
        obtain ⟨l1, l2⟩ := lp 8 0 (am_set N r t 1) h6
        refine ⟨fun k hk => by rw [l1 k hk, set_ne _ _ _ hk], fun x => ?_⟩
        rw [l2, hset]
        constructor
        · rintro ((h | h) | ⟨k, h1, h2, h3⟩)
          · exact Or.inl h
          · exact Or.inr ⟨ht, Or.inl h⟩
          · exact Or.inr ⟨ht, Or.inr ⟨k, h1, by omega, h3⟩⟩
        · rintro (h | ⟨_, h | ⟨k, h1, h2, h3⟩⟩)
          · exact Or.inl (Or.inl h)
          · exact Or.inl (Or.inr h)
          · exact Or.inr ⟨k, h1, by omega, h3⟩
    · rw [if_neg ht]
      exact ⟨fun _ _ => rfl, fun x => ⟨fun h => Or.inl h, fun h => by rcases h with h | h; exact h; exact absurd h.1 ht⟩⟩
theorem tm_pos (M : am_M) (t x : Int) : 0 < tmS M t x ↔ ∃ k : Int, 0 ≤ k ∧ k < 8 ∧ atS (M 6) t k = x := by
  constructor
  · intro h
    by_cases hx : ∃ k : Int, 0 ≤ k ∧ k < 8 ∧ atS (M 6) t k = x
    · exact hx
    · exfalso
      have : tmS M t x = 0 := sm_zero 8 (fun k hk => by (try dsimp only); exact if_neg (fun e => hx ⟨k, by omega, by omega, e⟩))
      omega
  · rintro ⟨k, h1, h2, h3⟩
    have := sm_ge (f := fun k => if atS (M 6) t k = x then 1 else 0) 8 k.toNat (by omega) (fun i _ => by (try dsimp only); split <;> omega)
    (try dsimp only at this)
    rw [show ((k.toNat : Nat) : Int) = k by omega, if_pos h3] at this
    unfold tmS
    omega
theorem fd_ex {p : Int → Prop} {dp : ∀ i, Decidable (p i)} (k : Nat) (i : Int) (hi : 0 ≤ i) : fd p dp i k ≠ -1 ↔ ∃ j : Int, i ≤ j ∧ j < i + k ∧ p j := by
  rcases fd_spec (p := p) (dp := dp) k i with ⟨e1, e2⟩ | ⟨e1, e2, e3, _⟩
  · exact ⟨fun h => absurd e1 h, fun ⟨j, h1, h2, h3⟩ => absurd h3 (e2 j h1 h2)⟩
  · exact ⟨fun _ => ⟨_, e1, e2, e3⟩, fun _ => by omega⟩
theorem b2_ne {p : Prop} [Decidable p] : b2 p ≠ 0 ↔ p := by
  by_cases h : p
  · rw [b2_t h]; exact ⟨fun _ => h, fun _ => by decide⟩
  · rw [b2_f h]; exact ⟨fun q => absurd rfl q, fun q => absurd q h⟩
theorem un_sp (M : am_M) {x : Int} (hx : x ≠ -1) : ∀ t : Int, unS M x 2 t ≠ 0 ↔ ∃ i j k : Int, (0 ≤ i ∧ i < 8) ∧ (0 ≤ j ∧ j < 8) ∧ (0 ≤ k ∧ k < 8) ∧ atS (M 6) (atS (M 6) (atS (M 6) t i) j) k = x := by
  have h0 : ∀ t : Int, unS M x 0 t ≠ 0 ↔ ∃ k : Int, (0 ≤ k ∧ k < 8) ∧ atS (M 6) t k = x := by
    intro t
    unfold unS
    by_cases ht : t = -1
    · subst ht
      rw [if_pos rfl]
      exact ⟨fun q => absurd rfl q, fun ⟨k, _, h⟩ => by rw [at_m1] at h; exact absurd h.symm hx⟩
    · rw [if_neg ht, b2_ne, tm_pos]
      exact ⟨fun ⟨k, h1, h2, h3⟩ => ⟨k, ⟨h1, h2⟩, h3⟩, fun ⟨k, ⟨h1, h2⟩, h3⟩ => ⟨k, h1, h2, h3⟩⟩
  have h1 : ∀ t : Int, unS M x 1 t ≠ 0 ↔ ∃ j k : Int, (0 ≤ j ∧ j < 8) ∧ (0 ≤ k ∧ k < 8) ∧ atS (M 6) (atS (M 6) t j) k = x := by
    intro t
    unfold unS
    by_cases ht : t = -1
    · subst ht
      rw [if_pos rfl]
      exact ⟨fun q => absurd rfl q, fun ⟨j, k, _, _, h⟩ => by rw [at_m1, at_m1] at h; exact absurd h.symm hx⟩
    · rw [if_neg ht, b2_ne, fd_ex 8 0 (by omega)]
      constructor
      · rintro ⟨j, h1, h2, h3⟩
        obtain ⟨k, k1, k2⟩ := (h0 _).mp h3
        exact ⟨j, k, ⟨h1, by omega⟩, k1, k2⟩
      · rintro ⟨j, k, h1, h2, h3⟩
        exact ⟨j, h1.1, by omega, (h0 _).mpr ⟨k, h2, h3⟩⟩
  intro t
  unfold unS
  by_cases ht : t = -1
  · subst ht
    rw [if_pos rfl]
    exact ⟨fun q => absurd rfl q, fun ⟨i, j, k, _, _, _, h⟩ => by rw [at_m1, at_m1, at_m1] at h; exact absurd h.symm hx⟩
  · rw [if_neg ht, b2_ne, fd_ex 8 0 (by omega)]
    constructor
    · rintro ⟨i, g1, g2, g3⟩
      obtain ⟨j, k, k1, k2, k3⟩ := (h1 _).mp g3
      exact ⟨i, j, k, ⟨g1, by omega⟩, k1, k2, k3⟩
    · rintro ⟨i, j, k, g1, g2, g3, g4⟩
      exact ⟨i, g1.1, by omega, (h1 _).mpr ⟨j, k, g2, g3, g4⟩⟩
theorem plc_mk {i j k : Int} (hi : 0 ≤ i ∧ i < 8) (hj : 0 ≤ j ∧ j < 8) (hk : 0 ≤ k ∧ k < 8) : plc (64 * i + 8 * j + k) 2 = i ∧ plc (64 * i + 8 * j + k) 1 = j ∧ plc (64 * i + 8 * j + k) 0 = k := by
  rw [plc_0 (by omega) (by omega), plc_1 (by omega) (by omega), plc_2 (by omega) (by omega)]
  omega
theorem un_blk {M : am_M} {v x : Int} (hv : thS M v) (hx : x ≠ -1) : unS M x 2 (M 10 v) ≠ 0 ↔ ∃ a : Int, 0 ≤ a ∧ a < 512 ∧ blkS M v a = x := by
  rw [un_sp M hx]
  constructor
  · rintro ⟨i, j, k, hi, hj, hk, h⟩
    obtain ⟨p2, p1, p0⟩ := plc_mk hi hj hk
    refine ⟨64 * i + 8 * j + k, by omega, by omega, ?_⟩
    rw [blk_ct hv]
    unfold ct
    rw [p2, p1, p0]
    exact h
  · rintro ⟨a, h1, h2, h3⟩
    rw [blk_ct hv] at h3
    exact ⟨plc a 2, plc a 1, plc a 0, plc_8 a 2, plc_8 a 1, plc_8 a 0, h3⟩
theorem J_owners (d : Nat) {M : am_M} {n : Int} (hG : GR M n) (x : Int) : AG M (n + 1) (am_m am_P (d + 20) j_Tv_owners [am_r 5 0, am_i x] M) (am_m am_P (d + 20) j_Md_owners [am_r 6 504, am_i x]) := by
  have hX : am_m am_P (d + 20) j_Tv_owners [am_r 5 0, am_i x] M = am_at am_P (d + 19) j_Tv_owners 0 [am_r 5 0, am_i x, am_u, am_u] [] M := rfl
  have hY : am_m am_P (d + 20) j_Md_owners [am_r 6 504, am_i x] M = am_at am_P (d + 19) j_Md_owners 0 [am_r 6 504, am_i x, am_u, am_u] [] M := rfl
  obtain ⟨A, c, hR, hJ, hP⟩ := hG.sr
  obtain ⟨u1, u2, u3⟩ := hJ.un
  have hiff := blk_iff hR hP x
  by_cases hb : 0 ≤ x ∧ x < 96 ∧ 0 < M 4 x
  · have hx : x ≠ -1 := by omega
    have hbd := fun k : Nat => sm_bd (f := fun v => if unS M x 2 (M 10 v) ≠ 0 then 1 else 0) (c := 1) k (fun i _ => by (try dsimp only); split <;> omega)
    refine AG.same hG (a := am_i (sm (fun v => if unS M x 2 (M 10 v) ≠ 0 then 1 else 0) 12)) ?_ ?_
    · rw [hX, E_Tv_owners_0]
      simp only [Nat.reduceAdd]
      rw [S_Po_isUsedBlock, bI_some, b2_t hb, if_neg (by decide), v_eq, v_eq]
      refine lp_sum (F := fun s i => am_at am_P (d + 19) j_Tv_owners 20 [am_r 5 0, am_i x, am_i s, am_i i] [] M) (f := fun v => if unS M x 2 (M 10 v) ≠ 0 then 1 else 0) (n := 12) ?_ ?_
      · (try dsimp only)
        rw [E_Tv_owners_20, if_neg (by omega)]
      · intro i hi
        (try dsimp only)
        have h1 := hbd i
        rw [E_Tv_owners_20, if_pos (by omega), if_t (by omega)]
        simp only [Nat.reduceAdd]
        have hu := S_Po_isUnder (d + 14) x M 2 (by omega) (M 10 i)
        rw [show am_m am_P (d + 19) j_Po_isUnder [am_r 2 2, am_i (M 10 i), am_i 2, am_i x] M = some (some (am_i (unS M x 2 (M 10 i))), M) from hu, bI_some]
        generalize sm (fun v => if unS M x 2 (M 10 v) ≠ 0 then 1 else 0) i = s at h1 ⊢
        by_cases h : unS M x 2 (M 10 i) = 0
        · rw [if_pos h, if_neg (fun q => q h), v_eq, wr_id (by omega) (by omega), Int.add_zero]
        · rw [if_neg h, if_pos h, v_eq, v_eq, wr_id (by omega) (by omega), wr_id (by omega) (by omega)]
    · rw [hY, E_Md_owners_0, S_Md_isBlock, bI_some, b2_t (hiff.mpr hb), if_neg (by decide), v_eq, v_eq]
      refine lp_sum (F := fun s i => am_at am_P (d + 19) j_Md_owners 14 [am_r 6 504, am_i x, am_i s, am_i i] [] M) (f := fun v => if unS M x 2 (M 10 v) ≠ 0 then 1 else 0) (n := 12) ?_ ?_
      · (try dsimp only)
        rw [E_Md_owners_14, if_neg (by omega)]
      · intro i hi
        (try dsimp only)
        have h1 := hbd i
        rw [E_Md_owners_14, if_pos (by omega), R_isVol (d + 17) u3 hR, bI_some]
        generalize sm (fun v => if unS M x 2 (M 10 v) ≠ 0 then 1 else 0) i = s at h1 ⊢
        by_cases hv : thS M i
        · have hhas : am_m am_P (d + 19) j_Md_hasBlock [am_r 6 504, am_i i, am_i x] M = some (some (am_i (b2 (unS M x 2 (M 10 i) ≠ 0))), M) := by
            show am_at am_P (d + 18) j_Md_hasBlock 0 [am_r 6 504, am_i i, am_i x, am_u] [] M = _
            rw [E_Md_hasBlock_0, v_eq]
            have key := lp_fd (F := fun a => am_at am_P (d + 18) j_Md_hasBlock 2 [am_r 6 504, am_i i, am_i x, am_i a] [] M) (p := fun a => blkS M i a = x) (dp := fun _ => inferInstance) (a := 0) (k := 512) (r := fun a => some (some (am_i (b2 (a ≠ -1))), M)) (by
              (try dsimp only)
              rw [E_Md_hasBlock_2, if_neg (by omega), if_t (by decide)]
              rfl) (by
              intro a a1 a2
              (try dsimp only)
              rw [E_Md_hasBlock_2, if_pos (by omega), A_blk (d + 15) hR hJ hv (by omega), bI_some]
              by_cases h : blkS M i a = x
              · rw [if_pos h, if_t (by decide), if_pos h, b2_t (by omega)]
              · rw [if_neg h, v_eq, if_neg h, wr_id (by omega) (by omega)])
            rw [key]
            have : fd (fun a => blkS M i a = x) (fun _ => inferInstance) 0 512 ≠ -1 ↔ unS M x 2 (M 10 i) ≠ 0 := by
              rw [fd_ex 512 0 (by omega), un_blk hv hx]
              exact ⟨fun ⟨a, h1, h2, h3⟩ => ⟨a, h1, by omega, h3⟩, fun ⟨a, h1, h2, h3⟩ => ⟨a, h1, by omega, h3⟩⟩
            generalize fd (fun a => blkS M i a = x) (fun _ => inferInstance) 0 512 = z at this ⊢
            rw [b2_iff this]
          rw [b2_t hv, if_neg (by decide), hhas, bI_some]
          by_cases h : unS M x 2 (M 10 i) = 0
          · rw [b2_f (fun q => q h), if_pos rfl, if_neg (fun q => q h), v_eq, v_eq, wr_id (by omega) (by omega), wr_id (by omega) (by omega)]
          · rw [b2_t h, if_neg (by decide), if_pos h, v_eq, v_eq, wr_id (by omega) (by omega), wr_id (by omega) (by omega)]
        · have h7 := (u3.2 i (by omega) (by omega)).1
          have ht : M 10 i = -1 := h7.2.2.2 (by
            by_cases q : M 7 i = 0
            · exact q
            · exact absurd ⟨by omega, by omega, by omega⟩ hv)
          have hz : unS M x 2 (-1) = 0 := by unfold unS; rw [if_pos rfl]
          rw [b2_f hv, if_pos rfl, ht, hz, if_neg (fun q => q rfl), v_eq, v_eq, wr_id (by omega) (by omega), wr_id (by omega) (by omega)]
  · refine AG.same hG (a := am_i (-1)) ?_ ?_
    · rw [hX, E_Tv_owners_0]
      simp only [Nat.reduceAdd]
      rw [S_Po_isUsedBlock, bI_some, b2_f hb, if_pos rfl]
    · rw [hY, E_Md_owners_0, S_Md_isBlock, bI_some, b2_f (fun q => hb (hiff.mp q)), if_pos rfl]
/-- a part of a kind under a volume's trunk -/
theorem und_thg {M : am_M} {A c : Int → Int} {n : Int} (hJ : JX (am_st M 4 c) A n) {v : Int} (hv : thS M v) {x w : Int} (hx : 96 ≤ x ∧ x < 256) (hw : 0 ≤ w ∧ w ≤ 2) : (UND (M 6) 3 (M 10 v) x ∧ M 5 (x - 96) = w) ↔ ∃ j : Int, 0 ≤ j ∧ j < 64 ∧ thgS M v (8 * j) (w + 1) = x := by
  obtain ⟨y, hy⟩ : ∃ y : Nat, v = (y : Int) := ⟨v.toNat, by have := hv.1; omega⟩
  subst hy
  have hok : ∀ (a : Int) {l : Int}, 1 ≤ l ∧ l ≤ 3 → thgS M y a l = -1 ∨ (96 ≤ thgS M y a l ∧ thgS M y a l < 256 ∧ M 5 (thgS M y a l - 96) = l - 1) := fun a l hl => by
    have := thg_ok hJ.1.rv hJ.1.pi ((th_st M c y).mpr hv) a (l := l) hl
    rw [thg_st, st_ne (i := 4) (k := 5) _ _ (by decide)] at this
    rcases this with e | ⟨e1, e2, _, e3⟩
    · exact Or.inl e
    · exact Or.inr ⟨e1, e2, e3⟩
  have e3 : ∀ a : Int, thgS M y a 3 = M 10 y := fun a => by unfold thgS; rw [if_pos hv, if_pos (by omega)]
  have e2 : ∀ a : Int, thgS M y a 2 = atS (M 6) (M 10 y) (plc a 2) := fun a => by unfold thgS; rw [if_pos hv, if_neg (by omega), if_pos rfl]; rfl
  have e1 : ∀ a : Int, thgS M y a 1 = atS (M 6) (atS (M 6) (M 10 y) (plc a 2)) (plc a 1) := fun a => by unfold thgS; rw [if_pos hv, if_neg (by omega), if_neg (by omega), if_pos rfl]; rfl
  constructor
  · rintro ⟨⟨h1, h2 | ⟨i, i1, i2, h3, h4 | ⟨j, j1, j2, h5, h6 | ⟨k, _, _, h7⟩⟩⟩⟩, hk⟩
    · have hq := hok 0 (l := 3) (by omega)
      rw [e3, ← h2] at hq
      rcases hq with q | ⟨_, _, q⟩
      · omega
      · refine ⟨0, by omega, by omega, ?_⟩
        rw [show w + 1 = 3 by omega, e3, h2]
    · have hp := plc_mk (i := i) (j := 0) (k := 0) (by omega) (by omega) (by omega)
      have hq := hok (64 * i + 8 * 0 + 0) (l := 2) (by omega)
      rw [e2, hp.1, ← h4] at hq
      rcases hq with q | ⟨_, _, q⟩
      · omega
      · refine ⟨8 * i, by omega, by omega, ?_⟩
        rw [show w + 1 = 2 by omega, e2, show 8 * (8 * i) = 64 * i + 8 * 0 + 0 by omega, hp.1, h4]
    · have hp := plc_mk (i := i) (j := j) (k := 0) (by omega) (by omega) (by omega)
      have hq := hok (64 * i + 8 * j + 0) (l := 1) (by omega)
      rw [e1, hp.1, hp.2.1, ← h6] at hq
      rcases hq with q | ⟨_, _, q⟩
      · omega
      · refine ⟨8 * i + j, by omega, by omega, ?_⟩
        rw [show w + 1 = 1 by omega, e1, show 8 * (8 * i + j) = 64 * i + 8 * j + 0 by omega, hp.1, hp.2.1, h6]
    · exact h7.elim
  · rintro ⟨j, j1, j2, h⟩
    have hq := hok (8 * j) (l := w + 1) (by omega)
    rw [h] at hq
    have hkd : M 5 (x - 96) = w := by
      rcases hq with q | ⟨_, _, q⟩
      · omega
      · omega
    refine ⟨?_, hkd⟩
    have ht := hok (8 * j) (l := 3) (by omega)
    rw [e3] at ht
    have htw := hok (8 * j) (l := 2) (by omega)
    rw [e2] at htw
    rcases (show w = 0 ∨ w = 1 ∨ w = 2 by omega) with rfl | rfl | rfl
    · rw [show (0 : Int) + 1 = 1 by decide, e1] at h
      rcases htw with q | ⟨q1, q2, _⟩
      · rw [q, at_m1] at h; omega
      · rcases ht with r | ⟨r1, r2, _⟩
        · rw [r, at_m1] at q1; omega
        · exact ⟨⟨r1, r2⟩, Or.inr ⟨plc (8 * j) 2, (plc_8 _ _).1, (plc_8 _ _).2, ⟨q1, q2⟩, Or.inr ⟨plc (8 * j) 1, (plc_8 _ _).1, (plc_8 _ _).2, by rw [h]; exact hx, Or.inl h.symm⟩⟩⟩
    · rw [show (1 : Int) + 1 = 2 by decide, e2] at h
      rcases ht with r | ⟨r1, r2, _⟩
      · rw [r, at_m1] at h; omega
      · exact ⟨⟨r1, r2⟩, Or.inr ⟨plc (8 * j) 2, (plc_8 _ _).1, (plc_8 _ _).2, by rw [h]; exact hx, Or.inl h.symm⟩⟩
    · rw [show (2 : Int) + 1 = 3 by decide, e3] at h
      exact ⟨by rw [h]; exact hx, Or.inl h.symm⟩
theorem J_parts (d : Nat) {M : am_M} {n : Int} (hG : GR M n) (v w : Int) : AG M (n + 1) (am_m am_P (d + 20) j_Tv_parts [am_r 5 0, am_i v, am_i w] M) (am_m am_P (d + 20) j_Md_parts [am_r 6 504, am_i v, am_i w]) := by
  have hX : am_m am_P (d + 20) j_Tv_parts [am_r 5 0, am_i v, am_i w] M = am_at am_P (d + 19) j_Tv_parts 0 [am_r 5 0, am_i v, am_i w, am_u, am_u] [] M := rfl
  have hY : ∀ N, am_m am_P (d + 20) j_Md_parts [am_r 6 504, am_i v, am_i w] N = am_at am_P (d + 19) j_Md_parts 0 [am_r 6 504, am_i v, am_i w, am_u, am_u] [] N := fun _ => rfl
  by_cases hvw : thS M v ∧ 0 ≤ w ∧ w ≤ 2
  rotate_left
  · obtain ⟨A, c, hR, hJ, hP⟩ := hG.sr
    obtain ⟨u1, u2, u3⟩ := hJ.un
    refine AG.same hG (a := am_i (-1)) ?_ ?_
    · rw [hX, E_Tv_parts_0]
      simp only [Nat.reduceAdd]
      rw [S_St_isThere, bI_some]
      by_cases hv : thS M v
      · rw [b2_t hv, if_neg (by decide)]
        by_cases h0 : w < 0
        · rw [if_pos h0]
        · rw [if_neg h0, if_pos (by have := fun q => hvw ⟨hv, q⟩; omega)]
      · rw [b2_f hv, if_pos rfl]
    · rw [hY, E_Md_parts_0, R_isVol (d + 17) u3 hR, bI_some]
      by_cases hv : thS M v
      · rw [b2_t hv, if_neg (by decide), S_Md_isIn, bI_some, b2_f (fun q => hvw ⟨hv, q⟩), if_pos rfl]
      · rw [b2_f hv, if_pos rfl]
  obtain ⟨hv, hw⟩ := hvw
  obtain ⟨f1, f2⟩ := fl_sp 503 256 0 M
  obtain ⟨g1, g2⟩ := mk_sp 503 (by decide) 3 (flS' 503 256 0 M) (M 10 v)
  have hN : ∀ k : Nat, k ≠ 503 → mkS 503 3 (flS' 503 256 0 M) (M 10 v) k = M k := fun k hk => by rw [g1 k hk, f1 k hk]
  have hmk : ∀ x : Int, 0 ≤ x → x < 256 → (mkS 503 3 (flS' 503 256 0 M) (M 10 v) 503 x ≠ 0 ↔ UND (M 6) 3 (M 10 v) x) := fun x h1 h2 => by
    rw [g2, f2, if_pos ⟨h1, by omega⟩, f1 6 (by decide)]
    exact ⟨fun h => by rcases h with h | h; exact absurd rfl h; exact h, Or.inr⟩
  have hcls : am_m am_P (d + 20) j_Tv_parts [am_r 5 0, am_i v, am_i w] M = am_at am_P (d + 19) j_Tv_parts 60 [am_r 5 0, am_u, am_i w, am_i 0, am_i 96] [] (mkS 503 3 (flS' 503 256 0 M) (M 10 v)) := by
    rw [hX, E_Tv_parts_0]
    simp only [Nat.reduceAdd]
    rw [S_St_isThere, bI_some, b2_t hv, if_neg (by decide), if_neg (by omega), if_neg (by omega), S_Ar_fill, bV_some, if_t ⟨hv.1, hv.2.1⟩, f1 10 (by decide)]
    have := S_Po_markUnder (d + 14) 503 3 (by omega) (M 10 v) (flS' 503 256 0 M)
    rw [show am_m am_P (d + 19) j_Po_markUnder [am_r 2 2, am_i (M 10 v), am_i 2, am_r 11 503] (flS' 503 256 0 M) = some (none, mkS 503 3 (flS' 503 256 0 M) (M 10 v)) from this, bV_some, v_eq, v_eq]
  generalize mkS 503 3 (flS' 503 256 0 M) (M 10 v) = N at hN hmk hcls
  obtain ⟨hGN, hfr⟩ := RF.gr (n' := n) hG (by omega) (K := N) (fun k hk => hN k (by omega)) (RF_rfl N)
  obtain ⟨hGN1, _⟩ := RF.gr (n' := n + 1) hG (by omega) (K := N) (fun k hk => hN k (by omega)) (RF_rfl N)
  have hvN : thS N v := by unfold thS; rw [hN 7 (by decide)]; exact hv
  rw [← hN 6 (by decide), ← hN 10 (by decide)] at hmk
  obtain ⟨A, c, hR, hJ, hP⟩ := hGN.sr
  obtain ⟨u1, u2, u3⟩ := hJ.un
  have hbd := fun k : Nat => sm_bd (f := fun p => if N 503 (p + 96) ≠ 0 ∧ kndS (N 4) (N 5) (p + 96) = w then 1 else 0) (c := 1) k (fun i _ => by (try dsimp only); split <;> omega)
  refine ⟨am_i (sm (fun p => if N 503 (p + 96) ≠ 0 ∧ kndS (N 4) (N 5) (p + 96) = w then 1 else 0) 160), N, N, ?_, ?_, hGN1, hfr⟩
  · rw [hcls]
    refine lp_sum (F := fun s i => am_at am_P (d + 19) j_Tv_parts 60 [am_r 5 0, am_u, am_i w, am_i s, am_i (i + 96)] [] N) (f := fun p => if N 503 (p + 96) ≠ 0 ∧ kndS (N 4) (N 5) (p + 96) = w then 1 else 0) (n := 160) ?_ ?_
    · (try dsimp only)
      rw [E_Tv_parts_60, if_neg (by omega)]
    · intro i hi
      (try dsimp only)
      have h1 := hbd i
      rw [E_Tv_parts_60, if_pos (by omega), if_t (by omega)]
      simp only [Nat.reduceAdd]
      rw [wr_id (z := (i : Int) + 96 + 1) (by omega) (by omega), show (i : Int) + 1 + 96 = (i : Int) + 96 + 1 by omega]
      generalize sm (fun p => if N 503 (p + 96) ≠ 0 ∧ kndS (N 4) (N 5) (p + 96) = w then 1 else 0) i = s at h1 ⊢
      by_cases h : N 503 ((i : Int) + 96) = 0
      · rw [if_pos h, if_neg (fun q => q.1 h), v_eq, Int.add_zero]
      · rw [if_neg h, S_Po_kindOf, bI_some]
        by_cases hk : kndS (N 4) (N 5) ((i : Int) + 96) = w
        · rw [if_pos hk, if_pos ⟨h, hk⟩, v_eq, v_eq, wr_id (by omega) (by omega)]
        · rw [if_neg hk, if_neg (fun q => hk q.2), v_eq, Int.add_zero]
  · rw [hY, E_Md_parts_0, R_isVol (d + 17) u3 hR, bI_some, b2_t hvN, if_neg (by decide), S_Md_isIn, bI_some, b2_t hw, if_neg (by decide), v_eq, v_eq]
    refine lp_sum (F := fun s i => am_at am_P (d + 19) j_Md_parts 24 [am_r 6 504, am_i v, am_i w, am_i s, am_i i] [] N) (f := fun p => if N 503 (p + 96) ≠ 0 ∧ kndS (N 4) (N 5) (p + 96) = w then 1 else 0) (n := 160) ?_ ?_
    · (try dsimp only)
      rw [E_Md_parts_24, if_neg (by omega)]
    · intro i hi
      (try dsimp only)
      have h1 := hbd i
      rw [E_Md_parts_24, if_pos (by omega), S_Md_isPart, bI_some, Int.add_zero]
      have hm := hmk ((i : Int) + 96) (by omega) (by omega)
      have hiff := isPart_iff hR hJ hP i
      generalize sm (fun p => if N 503 (p + 96) ≠ 0 ∧ kndS (N 4) (N 5) (p + 96) = w then 1 else 0) i = s at h1 ⊢
      by_cases hp : 0 ≤ (i : Int) ∧ (i : Int) < 160 ∧ 0 < N 4 ((i : Int) + 96)
      · have hu : c ((i : Int) + 96) ≠ 0 := by rw [← hP.1 _ (by omega)]; have := hp.2.2; omega
        have hkn : kndS (N 4) (N 5) ((i : Int) + 96) = N 5 i := by unfold kndS; rw [if_pos ⟨by omega, by omega, hp.2.2⟩, show (i : Int) + 96 - 96 = i by omega]
        rw [b2_t (hiff.mpr hp), if_neg (by decide), S_Md_kindOf (d + 18) (by omega), bI_some, hR, wc_k _ _ (by omega), (u1.co i (by omega) hu).1, hkn]
        by_cases hk : N 5 i = w
        · rw [if_pos hk]
          have hhas : am_m am_P (d + 19) j_Md_hasPart [am_r 6 504, am_i v, am_i i] N = some (some (am_i (b2 (N 503 ((i : Int) + 96) ≠ 0))), N) := by
            show am_at am_P (d + 18) j_Md_hasPart 0 [am_r 6 504, am_i v, am_i i, am_u] [] N = _
            rw [E_Md_hasPart_0, v_eq]
            have key := lp_fd (F := fun j => am_at am_P (d + 18) j_Md_hasPart 2 [am_r 6 504, am_i v, am_i i, am_i (8 * j)] [] N) (p := fun j => thgS N v (8 * j) (w + 1) = (i : Int) + 96) (dp := fun _ => inferInstance) (a := 0) (k := 64) (r := fun a => some (some (am_i (b2 (a ≠ -1))), N)) (by
              (try dsimp only)
              rw [E_Md_hasPart_2, if_neg (by omega), if_t (by decide)]
              rfl) (by
              intro a a1 a2
              (try dsimp only)
              rw [E_Md_hasPart_2, if_pos (by omega), S_Md_kindOf (d + 17) (by omega), bI_some, hR, wc_k _ _ (by omega), (u1.co i (by omega) hu).1, hk, A_part (d + 16) hR hJ hvN (by omega) hw, bI_some, wr_id (z := 8 * a + 8) (by omega) (by omega), show 8 * (a + 1) = 8 * a + 8 by omega]
              have hdec : decT (thgS N v (8 * a) (w + 1)) = i ↔ thgS N v (8 * a) (w + 1) = (i : Int) + 96 := by
                obtain ⟨y, hy⟩ : ∃ y : Nat, v = (y : Int) := ⟨v.toNat, by have := hvN.1; omega⟩
                have hq := thg_ok hJ.1.rv hJ.1.pi ((th_st N c y).mpr (by rw [← hy]; exact hvN)) (8 * a) (l := w + 1) (by omega)
                rw [thg_st, ← hy] at hq
                rcases hq with e | ⟨e1, e2, _⟩
                · rw [e]; unfold decT; rw [if_pos rfl]; omega
                · rw [decT_part ⟨e1, e2⟩]; omega
              by_cases h : thgS N v (8 * a) (w + 1) = (i : Int) + 96
              · rw [if_pos (hdec.mpr h), if_t (by decide), if_pos h, b2_t (by omega)]
              · rw [if_neg (fun q => h (hdec.mp q)), v_eq, if_neg h])
            refine Eq.trans key ?_
            have : fd (fun j => thgS N v (8 * j) (w + 1) = (i : Int) + 96) (fun _ => inferInstance) 0 64 ≠ -1 ↔ N 503 ((i : Int) + 96) ≠ 0 := by
              rw [fd_ex 64 0 (by omega), hm]
              have hut := und_thg hJ hvN (x := (i : Int) + 96) (w := w) (by omega) hw
              rw [show (i : Int) + 96 - 96 = i by omega] at hut
              constructor
              · rintro ⟨j, j1, j2, j3⟩
                exact (hut.mpr ⟨j, j1, by omega, j3⟩).1
              · intro q
                obtain ⟨j, j1, j2, j3⟩ := hut.mp ⟨q, hk⟩
                exact ⟨j, j1, by omega, j3⟩
            generalize fd (fun j => thgS N v (8 * j) (w + 1) = (i : Int) + 96) (fun _ => inferInstance) 0 64 = z at this ⊢
            rw [b2_iff this]
          rw [hhas, bI_some]
          by_cases h : N 503 ((i : Int) + 96) = 0
          · rw [b2_f (fun q => q h), if_pos rfl, if_neg (fun q => q.1 h), v_eq, v_eq, wr_id (by omega) (by omega), wr_id (by omega) (by omega), Int.add_zero]
          · rw [b2_t h, if_neg (by decide), if_pos ⟨h, hk⟩, v_eq, v_eq, wr_id (by omega) (by omega), wr_id (by omega) (by omega)]
        · rw [if_neg hk, if_neg (fun q => hk q.2), v_eq, v_eq, wr_id (by omega) (by omega), wr_id (by omega) (by omega), Int.add_zero]
      · have hkn : kndS (N 4) (N 5) ((i : Int) + 96) = -1 := by unfold kndS; rw [if_neg (fun q => hp ⟨by omega, by omega, q.2.2⟩)]
        rw [b2_f (fun q => hp (hiff.mp q)), if_pos rfl, hkn, if_neg (fun q => by have := q.2; omega), v_eq, v_eq, wr_id (by omega) (by omega), wr_id (by omega) (by omega), Int.add_zero]
