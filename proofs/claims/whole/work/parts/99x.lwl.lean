/-! the law's loop: every call of the class answers as the reference's -/
theorem np_mm {sc : Int → Int} {d j : Nat} {as : List am_V} {M M' : am_M} {r : Option am_V} (hj : j < am_nm) (h : am_m am_P d j as M = some (r, M')) (hM : np_m sc M) (has : np_l as) : np_m sc M' ∧ np_k (am_P j).2.1 r := by
  cases d with
  | zero => cases h
  | succ d =>
    obtain ⟨hlen, h2⟩ := if_some (show am_if ((am_in as).length ≤ (am_P j).1) (am_at am_P d j 0 (am_en (am_P j).1 as) [] M) = some (r, M') from h)
    obtain ⟨f, hf⟩ := (am_at_iff am_P).mp h2
    have := np_ex sc f d j 0 _ _ M (r, M') hj hf hM (np_en has) (fun w hw => by cases hw)
    exact ⟨this.1, this.2.2⟩
theorem np_i {z : Int} : np_v (am_i z) := trivial
theorem np_r0 : np_v (am_r 5 0) := ⟨by decide, rfl⟩
theorem np_r504 : np_v (am_r 6 504) := ⟨by decide, rfl⟩
theorem bL_som {x : Int64} {M : am_M} {f : Int64 → am_M → Option am_O} : am_bL (some (some (am_l x), M)) f = f x M := rfl
theorem bI_som {z : Int} {M : am_M} {f : Int → am_M → Option am_O} : am_bI (some (some (am_i z), M)) f = f z M := rfl
theorem cmp_self (x : Int64) : (lg_cmp x x).toInt = 0 := by
  have : lg_cmp x x = 0 := by unfold lg_cmp; simp
  rw [this]
  rfl
/-- what holds at the loop's head and in its cases -/
def lw_H (M : am_M) (i n : Int) : Prop := GR M n ∧ np_m (M 517) M ∧ (0 ≤ i ∧ i + 7 ≤ M 517 (-1) ∧ M 517 (-1) ≤ 3584) ∧ n < 1000 ∧ ∀ j, am_32 (M 517 j)
def lw_G (d : Nat) (M : am_M) (i n : Int) (X : Option am_O) : Prop := ∃ M2, X = am_at am_P d j_Lw_law 2167 [am_r 21 517, am_r 5 0, am_r 6 504, am_i i] [] M2 ∧ GR M2 (n + 1) ∧ np_m (M 517) M2
theorem GR.next {M : am_M} {n : Int} (hG : GR M n) : GR M (n + 1) := by
  obtain ⟨a, M1, M2, h1, h2, h3, -⟩ := (AG.same hG (a := am_i 0) rfl rfl : AG M (n + 1) (some (some (am_i 0), M)) (fun M => some (some (am_i 0), M)))
  cases h1
  cases h2
  exact h3
theorem lw_ints {d jT jM : Nat} {M : am_M} {n : Int} {as bs : List am_V} (hT : jT < am_nm) (hM : jM < am_nm) (hr : (am_P jT).2.1 = 1 ∨ (am_P jT).2.1 = 4) (hp : np_m (M 517) M) (has : np_l as) (hbs : np_l bs) (h : AG M n (am_m am_P d jT as M) (am_m am_P d jM bs)) : ∃ (z : Int) (M1 M2 : am_M), am_m am_P d jT as M = some (some (am_i z), M1) ∧ M1 517 = M 517 ∧ am_m am_P d jM bs M1 = some (some (am_i z), M2) ∧ GR M2 n ∧ np_m (M 517) M2 := by
  obtain ⟨a, M1, M2, h1, h2, h3, -⟩ := h
  obtain ⟨k1, k2⟩ := np_mm hT h1 hp has
  obtain ⟨z, hz⟩ := k2.1 hr
  cases hz
  exact ⟨z, M1, M2, h1, k1.1, h2, h3, (np_mm hM h2 k1 hbs).1⟩
theorem lw_longs {d jT jM : Nat} {M : am_M} {n : Int} {as bs : List am_V} (hT : jT < am_nm) (hM : jM < am_nm) (hr : (am_P jT).2.1 = 3) (hp : np_m (M 517) M) (has : np_l as) (hbs : np_l bs) (h : AG M n (am_m am_P d jT as M) (am_m am_P d jM bs)) : ∃ (z : Int64) (M1 M2 : am_M), am_m am_P d jT as M = some (some (am_l z), M1) ∧ M1 517 = M 517 ∧ am_m am_P d jM bs M1 = some (some (am_l z), M2) ∧ GR M2 n ∧ np_m (M 517) M2 := by
  obtain ⟨a, M1, M2, h1, h2, h3, -⟩ := h
  obtain ⟨k1, k2⟩ := np_mm hT h1 hp has
  obtain ⟨z, hz⟩ := k2.2 hr
  cases hz
  exact ⟨z, M1, M2, h1, k1.1, h2, h3, (np_mm hM h2 k1 hbs).1⟩
theorem lw_if {c : Prop} [Decidable c] {x : Option am_O} (h : c) : am_if c x = x := if_pos h
theorem lw_wr {M : am_M} {i n : Int} (h : lw_H M i n) {k : Int} (h1 : 0 ≤ k) (h2 : k < 7) : am_wr (i + k) = i + k ∧ (0 ≤ i + k ∧ i + k < M 517 (-1)) := by
  obtain ⟨-, -, ⟨a1, a2, a3⟩, -⟩ := h
  exact ⟨wr_id (by omega) (by omega), by omega, by omega⟩
set_option maxHeartbeats 1000000 in
theorem lw_make (d : Nat) {M : am_M} {i n : Int} (h : lw_H M i n) : lw_G (d + 21) M i n (am_at am_P (d + 21) j_Lw_law 296 [am_r 21 517, am_r 5 0, am_r 6 504, am_i i] [] M) := by
  rw [E_Lw_law_296]
  obtain ⟨w1, c1⟩ := lw_wr h (k := 1) (by decide) (by decide)
  obtain ⟨w2, c2⟩ := lw_wr h (k := 2) (by decide) (by decide)
  obtain ⟨hG, hp, -, hn, h32⟩ := h
  rw [w1]
  rw [w2]
  rw [lw_if c1]
  rw [lw_if c2]
  obtain ⟨z, M1, M2, h1, e1, h2, h3, h4⟩ := lw_ints (jT := j_Tv_make) (jM := j_Md_make) (by decide) (by decide) (Or.inl rfl) hp (np_cons np_r0 (np_cons np_i (np_cons np_i (fun w hw => by cases hw)))) (np_cons np_r504 (np_cons np_i (np_cons np_i (fun w hw => by cases hw)))) (show AG M (n + 1) (am_m am_P (d + 21) j_Tv_make [am_r 5 0, am_i (M 517 (i + 1)), am_i (M 517 (i + 2))] M) (am_m am_P (d + 21) j_Md_make [am_r 6 504, am_i (M 517 (i + 1)), am_i (M 517 (i + 2))]) from J_make (d + 1) hG hn _ _)
  rw [h1, bI_som]
  (try dsimp only)
  rw [e1]
  rw [lw_if c1]
  rw [lw_if c2]
  rw [h2, bI_som]
  (try dsimp only)
  rw [if_pos rfl]
  exact ⟨M2, rfl, h3, h4⟩
set_option maxHeartbeats 1000000 in
theorem lw_take (d : Nat) {M : am_M} {i n : Int} (h : lw_H M i n) : lw_G (d + 21) M i n (am_at am_P (d + 21) j_Lw_law 329 [am_r 21 517, am_r 5 0, am_r 6 504, am_i i] [] M) := by
  rw [E_Lw_law_329]
  obtain ⟨w1, c1⟩ := lw_wr h (k := 1) (by decide) (by decide)
  obtain ⟨w2, c2⟩ := lw_wr h (k := 2) (by decide) (by decide)
  obtain ⟨hG, hp, -, hn, h32⟩ := h
  rw [w1]
  rw [w2]
  rw [lw_if c1]
  rw [lw_if c2]
  by_cases h0 : M 517 (i + 2) = 0
  · rw [if_pos h0]
    obtain ⟨z, M1, M2, h1, e1, h2, h3, h4⟩ := lw_ints (jT := j_Tv_take) (jM := j_Md_take) (by decide) (by decide) (Or.inl rfl) hp (np_cons np_r0 (np_cons np_i (np_cons np_i (fun w hw => by cases hw)))) (np_cons np_r504 (np_cons np_i (np_cons np_i (fun w hw => by cases hw)))) (show AG M (n + 1) (am_m am_P (d + 21) j_Tv_take [am_r 5 0, am_i (M 517 (i + 1)), am_i 0] M) (am_m am_P (d + 21) j_Md_take [am_r 6 504, am_i (M 517 (i + 1)), am_i 0]) from J_take (d + 1) hG hn _ 0 (Or.inl rfl))
    rw [h1, bI_som]
    (try dsimp only)
    rw [e1]
    rw [lw_if c1]
    rw [lw_if c2]
    rw [if_pos h0]
    rw [h2, bI_som]
    (try dsimp only)
    rw [if_pos rfl]
    exact ⟨M2, rfl, h3, h4⟩
  · rw [if_neg h0]
    obtain ⟨z, M1, M2, h1, e1, h2, h3, h4⟩ := lw_ints (jT := j_Tv_take) (jM := j_Md_take) (by decide) (by decide) (Or.inl rfl) hp (np_cons np_r0 (np_cons np_i (np_cons np_i (fun w hw => by cases hw)))) (np_cons np_r504 (np_cons np_i (np_cons np_i (fun w hw => by cases hw)))) (show AG M (n + 1) (am_m am_P (d + 21) j_Tv_take [am_r 5 0, am_i (M 517 (i + 1)), am_i 1] M) (am_m am_P (d + 21) j_Md_take [am_r 6 504, am_i (M 517 (i + 1)), am_i 1]) from J_take (d + 1) hG hn _ 1 (Or.inr rfl))
    rw [h1, bI_som]
    (try dsimp only)
    rw [e1]
    rw [lw_if c1]
    rw [lw_if c2]
    rw [if_neg h0]
    rw [h2, bI_som]
    (try dsimp only)
    rw [if_pos rfl]
    exact ⟨M2, rfl, h3, h4⟩
set_option maxHeartbeats 1000000 in
theorem lw_write (d : Nat) {M : am_M} {i n : Int} (h : lw_H M i n) : lw_G (d + 21) M i n (am_at am_P (d + 21) j_Lw_law 378 [am_r 21 517, am_r 5 0, am_r 6 504, am_i i] [] M) := by
  rw [E_Lw_law_378]
  obtain ⟨w1, c1⟩ := lw_wr h (k := 1) (by decide) (by decide)
  obtain ⟨w2, c2⟩ := lw_wr h (k := 2) (by decide) (by decide)
  obtain ⟨w3, c3⟩ := lw_wr h (k := 3) (by decide) (by decide)
  obtain ⟨hG, hp, -, hn, h32⟩ := h
  rw [w1]
  rw [w2]
  rw [w3]
  rw [lw_if c1]
  rw [lw_if c2]
  rw [lw_if c3]
  obtain ⟨z, M1, M2, h1, e1, h2, h3, h4⟩ := lw_ints (jT := j_Tv_write) (jM := j_Md_write) (by decide) (by decide) (Or.inr rfl) hp (np_cons np_r0 (np_cons np_i (np_cons np_i (np_cons np_i (fun w hw => by cases hw))))) (np_cons np_r504 (np_cons np_i (np_cons np_i (np_cons np_i (fun w hw => by cases hw))))) (show AG M (n + 1) (am_m am_P (d + 21) j_Tv_write [am_r 5 0, am_i (M 517 (i + 1)), am_i (M 517 (i + 2)), am_i (M 517 (i + 3))] M) (am_m am_P (d + 21) j_Md_write [am_r 6 504, am_i (M 517 (i + 1)), am_i (M 517 (i + 2)), am_i (M 517 (i + 3))]) from J_write (d + 1) hG _ _ _)
  rw [h1, bI_som]
  (try dsimp only)
  rw [e1]
  rw [lw_if c1]
  rw [lw_if c2]
  rw [lw_if c3]
  rw [h2, bI_som]
  (try dsimp only)
  rw [if_pos rfl]
  exact ⟨M2, rfl, h3, h4⟩
set_option maxHeartbeats 1000000 in
theorem lw_wipe (d : Nat) {M : am_M} {i n : Int} (h : lw_H M i n) : lw_G (d + 21) M i n (am_at am_P (d + 21) j_Lw_law 421 [am_r 21 517, am_r 5 0, am_r 6 504, am_i i] [] M) := by
  rw [E_Lw_law_421]
  obtain ⟨w1, c1⟩ := lw_wr h (k := 1) (by decide) (by decide)
  obtain ⟨w2, c2⟩ := lw_wr h (k := 2) (by decide) (by decide)
  obtain ⟨hG, hp, -, hn, h32⟩ := h
  rw [w1]
  rw [w2]
  rw [lw_if c1]
  rw [lw_if c2]
  obtain ⟨z, M1, M2, h1, e1, h2, h3, h4⟩ := lw_ints (jT := j_Tv_wipe) (jM := j_Md_wipe) (by decide) (by decide) (Or.inr rfl) hp (np_cons np_r0 (np_cons np_i (np_cons np_i (fun w hw => by cases hw)))) (np_cons np_r504 (np_cons np_i (np_cons np_i (fun w hw => by cases hw)))) (show AG M (n + 1) (am_m am_P (d + 21) j_Tv_wipe [am_r 5 0, am_i (M 517 (i + 1)), am_i (M 517 (i + 2))] M) (am_m am_P (d + 21) j_Md_wipe [am_r 6 504, am_i (M 517 (i + 1)), am_i (M 517 (i + 2))]) from J_wipe (d + 1) hG _ _)
  rw [h1, bI_som]
  (try dsimp only)
  rw [e1]
  rw [lw_if c1]
  rw [lw_if c2]
  rw [h2, bI_som]
  (try dsimp only)
  rw [if_pos rfl]
  exact ⟨M2, rfl, h3, h4⟩
set_option maxHeartbeats 1000000 in
theorem lw_bring (d : Nat) {M : am_M} {i n : Int} (h : lw_H M i n) : lw_G (d + 21) M i n (am_at am_P (d + 21) j_Lw_law 454 [am_r 21 517, am_r 5 0, am_r 6 504, am_i i] [] M) := by
  rw [E_Lw_law_454]
  obtain ⟨w1, c1⟩ := lw_wr h (k := 1) (by decide) (by decide)
  obtain ⟨w2, c2⟩ := lw_wr h (k := 2) (by decide) (by decide)
  obtain ⟨hG, hp, -, hn, h32⟩ := h
  rw [w1]
  rw [w2]
  rw [lw_if c1]
  rw [lw_if c2]
  obtain ⟨z, M1, M2, h1, e1, h2, h3, h4⟩ := lw_ints (jT := j_Tv_bring) (jM := j_Md_bring) (by decide) (by decide) (Or.inr rfl) hp (np_cons np_r0 (np_cons np_i (np_cons np_i (fun w hw => by cases hw)))) (np_cons np_r504 (np_cons np_i (np_cons np_i (fun w hw => by cases hw)))) (show AG M (n + 1) (am_m am_P (d + 21) j_Tv_bring [am_r 5 0, am_i (M 517 (i + 1)), am_i (M 517 (i + 2))] M) (am_m am_P (d + 21) j_Md_bring [am_r 6 504, am_i (M 517 (i + 1)), am_i (M 517 (i + 2))]) from J_bring (d + 1) hG _ _)
  rw [h1, bI_som]
  (try dsimp only)
  rw [e1]
  rw [lw_if c1]
  rw [lw_if c2]
  rw [h2, bI_som]
  (try dsimp only)
  rw [if_pos rfl]
  exact ⟨M2, rfl, h3, h4⟩
set_option maxHeartbeats 1000000 in
theorem lw_size (d : Nat) {M : am_M} {i n : Int} (h : lw_H M i n) : lw_G (d + 21) M i n (am_at am_P (d + 21) j_Lw_law 487 [am_r 21 517, am_r 5 0, am_r 6 504, am_i i] [] M) := by
  rw [E_Lw_law_487]
  obtain ⟨w1, c1⟩ := lw_wr h (k := 1) (by decide) (by decide)
  obtain ⟨w2, c2⟩ := lw_wr h (k := 2) (by decide) (by decide)
  obtain ⟨hG, hp, -, hn, h32⟩ := h
  rw [w1]
  rw [w2]
  rw [lw_if c1]
  rw [lw_if c2]
  obtain ⟨z, M1, M2, h1, e1, h2, h3, h4⟩ := lw_ints (jT := j_Tv_size) (jM := j_Md_size) (by decide) (by decide) (Or.inr rfl) hp (np_cons np_r0 (np_cons np_i (np_cons np_i (fun w hw => by cases hw)))) (np_cons np_r504 (np_cons np_i (np_cons np_i (fun w hw => by cases hw)))) (show AG M (n + 1) (am_m am_P (d + 21) j_Tv_size [am_r 5 0, am_i (M 517 (i + 1)), am_i (M 517 (i + 2))] M) (am_m am_P (d + 21) j_Md_size [am_r 6 504, am_i (M 517 (i + 1)), am_i (M 517 (i + 2))]) from J_size (d + 1) hG _ _)
  rw [h1, bI_som]
  (try dsimp only)
  rw [e1]
  rw [lw_if c1]
  rw [lw_if c2]
  rw [h2, bI_som]
  (try dsimp only)
  rw [if_pos rfl]
  exact ⟨M2, rfl, h3, h4⟩
set_option maxHeartbeats 1000000 in
theorem lw_quota (d : Nat) {M : am_M} {i n : Int} (h : lw_H M i n) : lw_G (d + 21) M i n (am_at am_P (d + 21) j_Lw_law 520 [am_r 21 517, am_r 5 0, am_r 6 504, am_i i] [] M) := by
  rw [E_Lw_law_520]
  obtain ⟨w1, c1⟩ := lw_wr h (k := 1) (by decide) (by decide)
  obtain ⟨w2, c2⟩ := lw_wr h (k := 2) (by decide) (by decide)
  obtain ⟨hG, hp, -, hn, h32⟩ := h
  rw [w1]
  rw [w2]
  rw [lw_if c1]
  rw [lw_if c2]
  obtain ⟨z, M1, M2, h1, e1, h2, h3, h4⟩ := lw_ints (jT := j_Tv_quota) (jM := j_Md_quota) (by decide) (by decide) (Or.inr rfl) hp (np_cons np_r0 (np_cons np_i (np_cons np_i (fun w hw => by cases hw)))) (np_cons np_r504 (np_cons np_i (np_cons np_i (fun w hw => by cases hw)))) (show AG M (n + 1) (am_m am_P (d + 21) j_Tv_quota [am_r 5 0, am_i (M 517 (i + 1)), am_i (M 517 (i + 2))] M) (am_m am_P (d + 21) j_Md_quota [am_r 6 504, am_i (M 517 (i + 1)), am_i (M 517 (i + 2))]) from J_quota (d + 1) hG _ _)
  rw [h1, bI_som]
  (try dsimp only)
  rw [e1]
  rw [lw_if c1]
  rw [lw_if c2]
  rw [h2, bI_som]
  (try dsimp only)
  rw [if_pos rfl]
  exact ⟨M2, rfl, h3, h4⟩
set_option maxHeartbeats 1000000 in
theorem lw_share (d : Nat) {M : am_M} {i n : Int} (h : lw_H M i n) : lw_G (d + 21) M i n (am_at am_P (d + 21) j_Lw_law 553 [am_r 21 517, am_r 5 0, am_r 6 504, am_i i] [] M) := by
  rw [E_Lw_law_553]
  obtain ⟨w1, c1⟩ := lw_wr h (k := 1) (by decide) (by decide)
  obtain ⟨w2, c2⟩ := lw_wr h (k := 2) (by decide) (by decide)
  obtain ⟨w3, c3⟩ := lw_wr h (k := 3) (by decide) (by decide)
  obtain ⟨w4, c4⟩ := lw_wr h (k := 4) (by decide) (by decide)
  obtain ⟨w5, c5⟩ := lw_wr h (k := 5) (by decide) (by decide)
  obtain ⟨hG, hp, -, hn, h32⟩ := h
  rw [w1]
  rw [w2]
  rw [w3]
  rw [w4]
  rw [w5]
  rw [lw_if c1]
  rw [lw_if c2]
  rw [lw_if c3]
  rw [lw_if c4]
  rw [lw_if c5]
  obtain ⟨z, M1, M2, h1, e1, h2, h3, h4⟩ := lw_ints (jT := j_Tv_share) (jM := j_Md_share) (by decide) (by decide) (Or.inr rfl) hp (np_cons np_r0 (np_cons np_i (np_cons np_i (np_cons np_i (np_cons np_i (np_cons np_i (fun w hw => by cases hw))))))) (np_cons np_r504 (np_cons np_i (np_cons np_i (np_cons np_i (np_cons np_i (np_cons np_i (fun w hw => by cases hw))))))) (show AG M (n + 1) (am_m am_P (d + 21) j_Tv_share [am_r 5 0, am_i (M 517 (i + 1)), am_i (M 517 (i + 2)), am_i (M 517 (i + 3)), am_i (M 517 (i + 4)), am_i (M 517 (i + 5))] M) (am_m am_P (d + 21) j_Md_share [am_r 6 504, am_i (M 517 (i + 1)), am_i (M 517 (i + 2)), am_i (M 517 (i + 3)), am_i (M 517 (i + 4)), am_i (M 517 (i + 5))]) from J_share (d + 1) hG _ _ _ _ _)
  rw [h1, bI_som]
  (try dsimp only)
  rw [e1]
  rw [lw_if c1]
  rw [lw_if c2]
  rw [lw_if c3]
  rw [lw_if c4]
  rw [lw_if c5]
  rw [h2, bI_som]
  (try dsimp only)
  rw [if_pos rfl]
  exact ⟨M2, rfl, h3, h4⟩
set_option maxHeartbeats 1000000 in
theorem lw_graft (d : Nat) {M : am_M} {i n : Int} (h : lw_H M i n) : lw_G (d + 21) M i n (am_at am_P (d + 21) j_Lw_law 616 [am_r 21 517, am_r 5 0, am_r 6 504, am_i i] [] M) := by
  rw [E_Lw_law_616]
  obtain ⟨w1, c1⟩ := lw_wr h (k := 1) (by decide) (by decide)
  obtain ⟨w2, c2⟩ := lw_wr h (k := 2) (by decide) (by decide)
  obtain ⟨w3, c3⟩ := lw_wr h (k := 3) (by decide) (by decide)
  obtain ⟨w4, c4⟩ := lw_wr h (k := 4) (by decide) (by decide)
  obtain ⟨w5, c5⟩ := lw_wr h (k := 5) (by decide) (by decide)
  obtain ⟨w6, c6⟩ := lw_wr h (k := 6) (by decide) (by decide)
  obtain ⟨hG, hp, -, hn, h32⟩ := h
  rw [w1]
  rw [w2]
  rw [w3]
  rw [w4]
  rw [w5]
  rw [w6]
  rw [lw_if c1]
  rw [lw_if c2]
  rw [lw_if c3]
  rw [lw_if c4]
  rw [lw_if c5]
  rw [lw_if c6]
  obtain ⟨z, M1, M2, h1, e1, h2, h3, h4⟩ := lw_ints (jT := j_Tv_graft) (jM := j_Md_graft) (by decide) (by decide) (Or.inr rfl) hp (np_cons np_r0 (np_cons np_i (np_cons np_i (np_cons np_i (np_cons np_i (np_cons np_i (np_cons np_i (fun w hw => by cases hw)))))))) (np_cons np_r504 (np_cons np_i (np_cons np_i (np_cons np_i (np_cons np_i (np_cons np_i (np_cons np_i (fun w hw => by cases hw)))))))) (show AG M (n + 1) (am_m am_P (d + 21) j_Tv_graft [am_r 5 0, am_i (M 517 (i + 1)), am_i (M 517 (i + 2)), am_i (M 517 (i + 3)), am_i (M 517 (i + 4)), am_i (M 517 (i + 5)), am_i (M 517 (i + 6))] M) (am_m am_P (d + 21) j_Md_graft [am_r 6 504, am_i (M 517 (i + 1)), am_i (M 517 (i + 2)), am_i (M 517 (i + 3)), am_i (M 517 (i + 4)), am_i (M 517 (i + 5)), am_i (M 517 (i + 6))]) from J_graft (d + 1) hG _ _ _ _ _ _)
  rw [h1, bI_som]
  (try dsimp only)
  rw [e1]
  rw [lw_if c1]
  rw [lw_if c2]
  rw [lw_if c3]
  rw [lw_if c4]
  rw [lw_if c5]
  rw [lw_if c6]
  rw [h2, bI_som]
  (try dsimp only)
  rw [if_pos rfl]
  exact ⟨M2, rfl, h3, h4⟩
set_option maxHeartbeats 1000000 in
theorem lw_fill (d : Nat) {M : am_M} {i n : Int} (h : lw_H M i n) : lw_G (d + 21) M i n (am_at am_P (d + 21) j_Lw_law 691 [am_r 21 517, am_r 5 0, am_r 6 504, am_i i] [] M) := by
  rw [E_Lw_law_691]
  obtain ⟨w1, c1⟩ := lw_wr h (k := 1) (by decide) (by decide)
  obtain ⟨w2, c2⟩ := lw_wr h (k := 2) (by decide) (by decide)
  obtain ⟨w3, c3⟩ := lw_wr h (k := 3) (by decide) (by decide)
  obtain ⟨w4, c4⟩ := lw_wr h (k := 4) (by decide) (by decide)
  obtain ⟨hG, hp, -, hn, h32⟩ := h
  rw [w1]
  rw [w2]
  rw [w3]
  rw [w4]
  rw [lw_if c1]
  rw [lw_if c2]
  rw [lw_if c3]
  rw [lw_if c4]
  obtain ⟨z, M1, M2, h1, e1, h2, h3, h4⟩ := lw_ints (jT := j_Tv_fill) (jM := j_Md_fill) (by decide) (by decide) (Or.inr rfl) hp (np_cons np_r0 (np_cons np_i (np_cons np_i (np_cons np_i (np_cons np_i (fun w hw => by cases hw)))))) (np_cons np_r504 (np_cons np_i (np_cons np_i (np_cons np_i (np_cons np_i (fun w hw => by cases hw)))))) (show AG M (n + 1) (am_m am_P (d + 21) j_Tv_fill [am_r 5 0, am_i (M 517 (i + 1)), am_i (M 517 (i + 2)), am_i (M 517 (i + 3)), am_i (M 517 (i + 4))] M) (am_m am_P (d + 21) j_Md_fill [am_r 6 504, am_i (M 517 (i + 1)), am_i (M 517 (i + 2)), am_i (M 517 (i + 3)), am_i (M 517 (i + 4))]) from J_fill (d + 1) hG _ _ _ _)
  rw [h1, bI_som]
  (try dsimp only)
  rw [e1]
  rw [lw_if c1]
  rw [lw_if c2]
  rw [lw_if c3]
  rw [lw_if c4]
  rw [h2, bI_som]
  (try dsimp only)
  rw [if_pos rfl]
  exact ⟨M2, rfl, h3, h4⟩
set_option maxHeartbeats 1000000 in
theorem lw_reserve (d : Nat) {M : am_M} {i n : Int} (h : lw_H M i n) : lw_G (d + 21) M i n (am_at am_P (d + 21) j_Lw_law 744 [am_r 21 517, am_r 5 0, am_r 6 504, am_i i] [] M) := by
  rw [E_Lw_law_744]
  obtain ⟨w1, c1⟩ := lw_wr h (k := 1) (by decide) (by decide)
  obtain ⟨w2, c2⟩ := lw_wr h (k := 2) (by decide) (by decide)
  obtain ⟨hG, hp, -, hn, h32⟩ := h
  rw [w1]
  rw [w2]
  rw [lw_if c1]
  rw [lw_if c2]
  obtain ⟨z, M1, M2, h1, e1, h2, h3, h4⟩ := lw_ints (jT := j_Tv_reserve) (jM := j_Md_reserve) (by decide) (by decide) (Or.inr rfl) hp (np_cons np_r0 (np_cons np_i (np_cons np_i (fun w hw => by cases hw)))) (np_cons np_r504 (np_cons np_i (np_cons np_i (fun w hw => by cases hw)))) (show AG M (n + 1) (am_m am_P (d + 21) j_Tv_reserve [am_r 5 0, am_i (M 517 (i + 1)), am_i (M 517 (i + 2))] M) (am_m am_P (d + 21) j_Md_reserve [am_r 6 504, am_i (M 517 (i + 1)), am_i (M 517 (i + 2))]) from J_reserve (d + 1) hG _ _)
  rw [h1, bI_som]
  (try dsimp only)
  rw [e1]
  rw [lw_if c1]
  rw [lw_if c2]
  rw [h2, bI_som]
  (try dsimp only)
  rw [if_pos rfl]
  exact ⟨M2, rfl, h3, h4⟩
set_option maxHeartbeats 1000000 in
theorem lw_hold (d : Nat) {M : am_M} {i n : Int} (h : lw_H M i n) : lw_G (d + 21) M i n (am_at am_P (d + 21) j_Lw_law 777 [am_r 21 517, am_r 5 0, am_r 6 504, am_i i] [] M) := by
  rw [E_Lw_law_777]
  obtain ⟨w1, c1⟩ := lw_wr h (k := 1) (by decide) (by decide)
  obtain ⟨w2, c2⟩ := lw_wr h (k := 2) (by decide) (by decide)
  obtain ⟨hG, hp, -, hn, h32⟩ := h
  rw [w1]
  rw [w2]
  rw [lw_if c1]
  rw [lw_if c2]
  by_cases h0 : M 517 (i + 2) = 0
  · rw [if_pos h0]
    obtain ⟨z, M1, M2, h1, e1, h2, h3, h4⟩ := lw_ints (jT := j_Tv_hold) (jM := j_Md_hold) (by decide) (by decide) (Or.inl rfl) hp (np_cons np_r0 (np_cons np_i (np_cons np_i (fun w hw => by cases hw)))) (np_cons np_r504 (np_cons np_i (np_cons np_i (fun w hw => by cases hw)))) (show AG M (n + 1) (am_m am_P (d + 21) j_Tv_hold [am_r 5 0, am_i (M 517 (i + 1)), am_i 0] M) (am_m am_P (d + 21) j_Md_hold [am_r 6 504, am_i (M 517 (i + 1)), am_i 0]) from J_hold (d + 1) hG _ 0)
    rw [h1, bI_som]
    (try dsimp only)
    rw [e1]
    rw [lw_if c1]
    rw [lw_if c2]
    rw [if_pos h0]
    rw [h2, bI_som]
    (try dsimp only)
    rw [if_pos rfl]
    exact ⟨M2, rfl, h3, h4⟩
  · rw [if_neg h0]
    obtain ⟨z, M1, M2, h1, e1, h2, h3, h4⟩ := lw_ints (jT := j_Tv_hold) (jM := j_Md_hold) (by decide) (by decide) (Or.inl rfl) hp (np_cons np_r0 (np_cons np_i (np_cons np_i (fun w hw => by cases hw)))) (np_cons np_r504 (np_cons np_i (np_cons np_i (fun w hw => by cases hw)))) (show AG M (n + 1) (am_m am_P (d + 21) j_Tv_hold [am_r 5 0, am_i (M 517 (i + 1)), am_i 1] M) (am_m am_P (d + 21) j_Md_hold [am_r 6 504, am_i (M 517 (i + 1)), am_i 1]) from J_hold (d + 1) hG _ 1)
    rw [h1, bI_som]
    (try dsimp only)
    rw [e1]
    rw [lw_if c1]
    rw [lw_if c2]
    rw [if_neg h0]
    rw [h2, bI_som]
    (try dsimp only)
    rw [if_pos rfl]
    exact ⟨M2, rfl, h3, h4⟩
set_option maxHeartbeats 1000000 in
theorem lw_prune (d : Nat) {M : am_M} {i n : Int} (h : lw_H M i n) : lw_G (d + 21) M i n (am_at am_P (d + 21) j_Lw_law 826 [am_r 21 517, am_r 5 0, am_r 6 504, am_i i] [] M) := by
  rw [E_Lw_law_826]
  obtain ⟨w1, c1⟩ := lw_wr h (k := 1) (by decide) (by decide)
  obtain ⟨hG, hp, -, hn, h32⟩ := h
  rw [w1]
  rw [lw_if c1]
  obtain ⟨z, M1, M2, h1, e1, h2, h3, h4⟩ := lw_ints (jT := j_Tv_prune) (jM := j_Md_prune) (by decide) (by decide) (Or.inl rfl) hp (np_cons np_r0 (np_cons np_i (fun w hw => by cases hw))) (np_cons np_r504 (np_cons np_i (fun w hw => by cases hw))) (show AG M (n + 1) (am_m am_P (d + 21) j_Tv_prune [am_r 5 0, am_i (M 517 (i + 1))] M) (am_m am_P (d + 21) j_Md_prune [am_r 6 504, am_i (M 517 (i + 1))]) from J_prune (d + 1) hG _)
  rw [h1, bI_som]
  (try dsimp only)
  rw [e1]
  rw [lw_if c1]
  rw [h2, bI_som]
  (try dsimp only)
  rw [if_pos rfl]
  exact ⟨M2, rfl, h3, h4⟩
set_option maxHeartbeats 1000000 in
theorem lw_send (d : Nat) {M : am_M} {i n : Int} (h : lw_H M i n) : lw_G (d + 21) M i n (am_at am_P (d + 21) j_Lw_law 849 [am_r 21 517, am_r 5 0, am_r 6 504, am_i i] [] M) := by
  rw [E_Lw_law_849]
  obtain ⟨w1, c1⟩ := lw_wr h (k := 1) (by decide) (by decide)
  obtain ⟨w2, c2⟩ := lw_wr h (k := 2) (by decide) (by decide)
  obtain ⟨hG, hp, -, hn, h32⟩ := h
  rw [w1]
  rw [w2]
  rw [lw_if c1]
  rw [lw_if c2]
  obtain ⟨z, M1, M2, h1, e1, h2, h3, h4⟩ := lw_ints (jT := j_Tv_send) (jM := j_Md_send) (by decide) (by decide) (Or.inl rfl) hp (np_cons np_r0 (np_cons np_i (np_cons np_i (fun w hw => by cases hw)))) (np_cons np_r504 (np_cons np_i (np_cons np_i (fun w hw => by cases hw)))) (show AG M (n + 1) (am_m am_P (d + 21) j_Tv_send [am_r 5 0, am_i (M 517 (i + 1)), am_i (M 517 (i + 2))] M) (am_m am_P (d + 21) j_Md_send [am_r 6 504, am_i (M 517 (i + 1)), am_i (M 517 (i + 2))]) from J_send (d + 1) hG _ _)
  rw [h1, bI_som]
  (try dsimp only)
  rw [e1]
  rw [lw_if c1]
  rw [lw_if c2]
  rw [h2, bI_som]
  (try dsimp only)
  rw [if_pos rfl]
  exact ⟨M2, rfl, h3, h4⟩
set_option maxHeartbeats 1000000 in
theorem lw_receive (d : Nat) {M : am_M} {i n : Int} (h : lw_H M i n) : lw_G (d + 21) M i n (am_at am_P (d + 21) j_Lw_law 882 [am_r 21 517, am_r 5 0, am_r 6 504, am_i i] [] M) := by
  rw [E_Lw_law_882]
  obtain ⟨w1, c1⟩ := lw_wr h (k := 1) (by decide) (by decide)
  obtain ⟨hG, hp, -, hn, h32⟩ := h
  rw [w1]
  rw [lw_if c1]
  obtain ⟨z, M1, M2, h1, e1, h2, h3, h4⟩ := lw_ints (jT := j_Tv_receive) (jM := j_Md_receive) (by decide) (by decide) (Or.inr rfl) hp (np_cons np_r0 (np_cons np_i (fun w hw => by cases hw))) (np_cons np_r504 (np_cons np_i (fun w hw => by cases hw))) (show AG M (n + 1) (am_m am_P (d + 21) j_Tv_receive [am_r 5 0, am_i (M 517 (i + 1))] M) (am_m am_P (d + 21) j_Md_receive [am_r 6 504, am_i (M 517 (i + 1))]) from J_receive (d + 1) hG _)
  rw [h1, bI_som]
  (try dsimp only)
  rw [e1]
  rw [lw_if c1]
  rw [h2, bI_som]
  (try dsimp only)
  rw [if_pos rfl]
  exact ⟨M2, rfl, h3, h4⟩
set_option maxHeartbeats 1000000 in
theorem lw_move (d : Nat) {M : am_M} {i n : Int} (h : lw_H M i n) : lw_G (d + 21) M i n (am_at am_P (d + 21) j_Lw_law 905 [am_r 21 517, am_r 5 0, am_r 6 504, am_i i] [] M) := by
  rw [E_Lw_law_905]
  obtain ⟨w1, c1⟩ := lw_wr h (k := 1) (by decide) (by decide)
  obtain ⟨w2, c2⟩ := lw_wr h (k := 2) (by decide) (by decide)
  obtain ⟨w3, c3⟩ := lw_wr h (k := 3) (by decide) (by decide)
  obtain ⟨w4, c4⟩ := lw_wr h (k := 4) (by decide) (by decide)
  obtain ⟨hG, hp, -, hn, h32⟩ := h
  rw [w1]
  rw [w2]
  rw [w3]
  rw [w4]
  rw [lw_if c1]
  rw [lw_if c2]
  rw [lw_if c3]
  rw [lw_if c4]
  obtain ⟨z, M1, M2, h1, e1, h2, h3, h4⟩ := lw_ints (jT := j_Tv_move) (jM := j_Md_move) (by decide) (by decide) (Or.inr rfl) hp (np_cons np_r0 (np_cons np_i (np_cons np_i (np_cons np_i (np_cons np_i (fun w hw => by cases hw)))))) (np_cons np_r504 (np_cons np_i (np_cons np_i (np_cons np_i (np_cons np_i (fun w hw => by cases hw)))))) (show AG M (n + 1) (am_m am_P (d + 21) j_Tv_move [am_r 5 0, am_i (M 517 (i + 1)), am_i (M 517 (i + 2)), am_i (M 517 (i + 3)), am_i (M 517 (i + 4))] M) (am_m am_P (d + 21) j_Md_move [am_r 6 504, am_i (M 517 (i + 1)), am_i (M 517 (i + 2)), am_i (M 517 (i + 3)), am_i (M 517 (i + 4))]) from J_move (d + 1) hG _ _ _ _)
  rw [h1, bI_som]
  (try dsimp only)
  rw [e1]
  rw [lw_if c1]
  rw [lw_if c2]
  rw [lw_if c3]
  rw [lw_if c4]
  rw [h2, bI_som]
  (try dsimp only)
  rw [if_pos rfl]
  exact ⟨M2, rfl, h3, h4⟩
set_option maxHeartbeats 1000000 in
theorem lw_swap (d : Nat) {M : am_M} {i n : Int} (h : lw_H M i n) : lw_G (d + 21) M i n (am_at am_P (d + 21) j_Lw_law 958 [am_r 21 517, am_r 5 0, am_r 6 504, am_i i] [] M) := by
  rw [E_Lw_law_958]
  obtain ⟨w1, c1⟩ := lw_wr h (k := 1) (by decide) (by decide)
  obtain ⟨w2, c2⟩ := lw_wr h (k := 2) (by decide) (by decide)
  obtain ⟨hG, hp, -, hn, h32⟩ := h
  rw [w1]
  rw [w2]
  rw [lw_if c1]
  rw [lw_if c2]
  obtain ⟨z, M1, M2, h1, e1, h2, h3, h4⟩ := lw_ints (jT := j_Tv_swap) (jM := j_Md_swap) (by decide) (by decide) (Or.inr rfl) hp (np_cons np_r0 (np_cons np_i (np_cons np_i (fun w hw => by cases hw)))) (np_cons np_r504 (np_cons np_i (np_cons np_i (fun w hw => by cases hw)))) (show AG M (n + 1) (am_m am_P (d + 21) j_Tv_swap [am_r 5 0, am_i (M 517 (i + 1)), am_i (M 517 (i + 2))] M) (am_m am_P (d + 21) j_Md_swap [am_r 6 504, am_i (M 517 (i + 1)), am_i (M 517 (i + 2))]) from J_swap (d + 1) hG _ _)
  rw [h1, bI_som]
  (try dsimp only)
  rw [e1]
  rw [lw_if c1]
  rw [lw_if c2]
  rw [h2, bI_som]
  (try dsimp only)
  rw [if_pos rfl]
  exact ⟨M2, rfl, h3, h4⟩
set_option maxHeartbeats 1000000 in
theorem lw_stage (d : Nat) {M : am_M} {i n : Int} (h : lw_H M i n) : lw_G (d + 21) M i n (am_at am_P (d + 21) j_Lw_law 991 [am_r 21 517, am_r 5 0, am_r 6 504, am_i i] [] M) := by
  rw [E_Lw_law_991]
  obtain ⟨w1, c1⟩ := lw_wr h (k := 1) (by decide) (by decide)
  obtain ⟨w2, c2⟩ := lw_wr h (k := 2) (by decide) (by decide)
  obtain ⟨hG, hp, -, hn, h32⟩ := h
  rw [w1]
  rw [w2]
  rw [lw_if c1]
  rw [lw_if c2]
  obtain ⟨z, M1, M2, h1, e1, h2, h3, h4⟩ := lw_ints (jT := j_Tv_stage) (jM := j_Md_stage) (by decide) (by decide) (Or.inl rfl) hp (np_cons np_r0 (np_cons np_i (np_cons np_i (fun w hw => by cases hw)))) (np_cons np_r504 (np_cons np_i (np_cons np_i (fun w hw => by cases hw)))) (show AG M (n + 1) (am_m am_P (d + 21) j_Tv_stage [am_r 5 0, am_i (M 517 (i + 1)), am_i (M 517 (i + 2))] M) (am_m am_P (d + 21) j_Md_stage [am_r 6 504, am_i (M 517 (i + 1)), am_i (M 517 (i + 2))]) from J_stage (d + 1) hG _ _)
  rw [h1, bI_som]
  (try dsimp only)
  rw [e1]
  rw [lw_if c1]
  rw [lw_if c2]
  rw [h2, bI_som]
  (try dsimp only)
  rw [if_pos rfl]
  exact ⟨M2, rfl, h3, h4⟩
set_option maxHeartbeats 1000000 in
theorem lw_commit (d : Nat) {M : am_M} {i n : Int} (h : lw_H M i n) : lw_G (d + 21) M i n (am_at am_P (d + 21) j_Lw_law 1024 [am_r 21 517, am_r 5 0, am_r 6 504, am_i i] [] M) := by
  rw [E_Lw_law_1024]
  obtain ⟨w1, c1⟩ := lw_wr h (k := 1) (by decide) (by decide)
  obtain ⟨hG, hp, -, hn, h32⟩ := h
  rw [w1]
  rw [lw_if c1]
  obtain ⟨z, M1, M2, h1, e1, h2, h3, h4⟩ := lw_ints (jT := j_Tv_commit) (jM := j_Md_commit) (by decide) (by decide) (Or.inr rfl) hp (np_cons np_r0 (np_cons np_i (fun w hw => by cases hw))) (np_cons np_r504 (np_cons np_i (fun w hw => by cases hw))) (show AG M (n + 1) (am_m am_P (d + 21) j_Tv_commit [am_r 5 0, am_i (M 517 (i + 1))] M) (am_m am_P (d + 21) j_Md_commit [am_r 6 504, am_i (M 517 (i + 1))]) from J_commit (d + 1) hG _)
  rw [h1, bI_som]
  (try dsimp only)
  rw [e1]
  rw [lw_if c1]
  rw [h2, bI_som]
  (try dsimp only)
  rw [if_pos rfl]
  exact ⟨M2, rfl, h3, h4⟩
set_option maxHeartbeats 1000000 in
theorem lw_merge (d : Nat) {M : am_M} {i n : Int} (h : lw_H M i n) : lw_G (d + 21) M i n (am_at am_P (d + 21) j_Lw_law 1047 [am_r 21 517, am_r 5 0, am_r 6 504, am_i i] [] M) := by
  rw [E_Lw_law_1047]
  obtain ⟨hG, hp, -, hn, h32⟩ := h
  obtain ⟨z, M1, M2, h1, e1, h2, h3, h4⟩ := lw_ints (jT := j_Tv_merge) (jM := j_Md_merge) (by decide) (by decide) (Or.inl rfl) hp (np_cons np_r0 (fun w hw => by cases hw)) (np_cons np_r504 (fun w hw => by cases hw)) (show AG M (n + 1) (am_m am_P (d + 21) j_Tv_merge [am_r 5 0] M) (am_m am_P (d + 21) j_Md_merge [am_r 6 504]) from J_merge (d + 1) hG)
  rw [h1, bI_som]
  (try dsimp only)
  rw [h2, bI_som]
  (try dsimp only)
  rw [if_pos rfl]
  exact ⟨M2, rfl, h3, h4⟩
set_option maxHeartbeats 1000000 in
theorem lw_fold (d : Nat) {M : am_M} {i n : Int} (h : lw_H M i n) : lw_G (d + 21) M i n (am_at am_P (d + 21) j_Lw_law 1060 [am_r 21 517, am_r 5 0, am_r 6 504, am_i i] [] M) := by
  rw [E_Lw_law_1060]
  obtain ⟨hG, hp, -, hn, h32⟩ := h
  obtain ⟨z, M1, M2, h1, e1, h2, h3, h4⟩ := lw_ints (jT := j_Tv_fold) (jM := j_Md_fold) (by decide) (by decide) (Or.inl rfl) hp (np_cons np_r0 (fun w hw => by cases hw)) (np_cons np_r504 (fun w hw => by cases hw)) (show AG M (n + 1) (am_m am_P (d + 21) j_Tv_fold [am_r 5 0] M) (am_m am_P (d + 21) j_Md_fold [am_r 6 504]) from J_fold d hG)
  rw [h1, bI_som]
  (try dsimp only)
  rw [h2, bI_som]
  (try dsimp only)
  rw [if_pos rfl]
  exact ⟨M2, rfl, h3, h4⟩
set_option maxHeartbeats 1000000 in
theorem lw_free (d : Nat) {M : am_M} {i n : Int} (h : lw_H M i n) : lw_G (d + 21) M i n (am_at am_P (d + 21) j_Lw_law 1073 [am_r 21 517, am_r 5 0, am_r 6 504, am_i i] [] M) := by
  rw [E_Lw_law_1073]
  obtain ⟨w1, c1⟩ := lw_wr h (k := 1) (by decide) (by decide)
  obtain ⟨hG, hp, -, hn, h32⟩ := h
  rw [w1]
  rw [lw_if c1]
  obtain ⟨z, M1, M2, h1, e1, h2, h3, h4⟩ := lw_ints (jT := j_Tv_free) (jM := j_Md_free) (by decide) (by decide) (Or.inl rfl) hp (np_cons np_r0 (np_cons np_i (fun w hw => by cases hw))) (np_cons np_r504 (np_cons np_i (fun w hw => by cases hw))) (show AG M (n + 1) (am_m am_P (d + 21) j_Tv_free [am_r 5 0, am_i (M 517 (i + 1))] M) (am_m am_P (d + 21) j_Md_free [am_r 6 504, am_i (M 517 (i + 1))]) from J_free (d + 1) hG _)
  rw [h1, bI_som]
  (try dsimp only)
  rw [e1]
  rw [lw_if c1]
  rw [h2, bI_som]
  (try dsimp only)
  rw [if_pos rfl]
  exact ⟨M2, rfl, h3, h4⟩
set_option maxHeartbeats 1000000 in
theorem lw_like (d : Nat) {M : am_M} {i n : Int} (h : lw_H M i n) : lw_G (d + 21) M i n (am_at am_P (d + 21) j_Lw_law 1096 [am_r 21 517, am_r 5 0, am_r 6 504, am_i i] [] M) := by
  rw [E_Lw_law_1096]
  obtain ⟨w1, c1⟩ := lw_wr h (k := 1) (by decide) (by decide)
  obtain ⟨hG, hp, -, hn, h32⟩ := h
  rw [w1]
  rw [lw_if c1]
  obtain ⟨z, M1, M2, h1, e1, h2, h3, h4⟩ := lw_ints (jT := j_Tv_like) (jM := j_Md_like) (by decide) (by decide) (Or.inr rfl) hp (np_cons np_r0 (np_cons np_i (fun w hw => by cases hw))) (np_cons np_r504 (np_cons np_i (fun w hw => by cases hw))) (show AG M (n + 1) (am_m am_P (d + 21) j_Tv_like [am_r 5 0, am_i (M 517 (i + 1))] M) (am_m am_P (d + 21) j_Md_like [am_r 6 504, am_i (M 517 (i + 1))]) from J_like (d + 1) hG _)
  rw [h1, bI_som]
  (try dsimp only)
  rw [e1]
  rw [lw_if c1]
  rw [h2, bI_som]
  (try dsimp only)
  rw [if_pos rfl]
  exact ⟨M2, rfl, h3, h4⟩
set_option maxHeartbeats 1000000 in
theorem lw_spoil (d : Nat) {M : am_M} {i n : Int} (h : lw_H M i n) : lw_G (d + 21) M i n (am_at am_P (d + 21) j_Lw_law 1119 [am_r 21 517, am_r 5 0, am_r 6 504, am_i i] [] M) := by
  rw [E_Lw_law_1119]
  obtain ⟨w1, c1⟩ := lw_wr h (k := 1) (by decide) (by decide)
  obtain ⟨w2, c2⟩ := lw_wr h (k := 2) (by decide) (by decide)
  obtain ⟨hG, hp, -, hn, h32⟩ := h
  rw [w1]
  rw [w2]
  rw [lw_if c1]
  rw [lw_if c2]
  obtain ⟨z, M1, M2, h1, e1, h2, h3, h4⟩ := lw_ints (jT := j_Tv_spoil) (jM := j_Md_spoil) (by decide) (by decide) (Or.inr rfl) hp (np_cons np_r0 (np_cons np_i (np_cons np_i (fun w hw => by cases hw)))) (np_cons np_r504 (np_cons np_i (np_cons np_i (fun w hw => by cases hw)))) (show AG M (n + 1) (am_m am_P (d + 21) j_Tv_spoil [am_r 5 0, am_i (M 517 (i + 1)), am_i (M 517 (i + 2))] M) (am_m am_P (d + 21) j_Md_spoil [am_r 6 504, am_i (M 517 (i + 1)), am_i (M 517 (i + 2))]) from J_spoil (d + 1) hG _ _)
  rw [h1, bI_som]
  (try dsimp only)
  rw [e1]
  rw [lw_if c1]
  rw [lw_if c2]
  rw [h2, bI_som]
  (try dsimp only)
  rw [if_pos rfl]
  exact ⟨M2, rfl, h3, h4⟩
set_option maxHeartbeats 1000000 in
theorem lw_mend (d : Nat) {M : am_M} {i n : Int} (h : lw_H M i n) : lw_G (d + 21) M i n (am_at am_P (d + 21) j_Lw_law 1152 [am_r 21 517, am_r 5 0, am_r 6 504, am_i i] [] M) := by
  rw [E_Lw_law_1152]
  obtain ⟨hG, hp, -, hn, h32⟩ := h
  obtain ⟨z, M1, M2, h1, e1, h2, h3, h4⟩ := lw_ints (jT := j_Tv_mend) (jM := j_Md_mend) (by decide) (by decide) (Or.inl rfl) hp (np_cons np_r0 (fun w hw => by cases hw)) (np_cons np_r504 (fun w hw => by cases hw)) (show AG M (n + 1) (am_m am_P (d + 21) j_Tv_mend [am_r 5 0] M) (am_m am_P (d + 21) j_Md_mend [am_r 6 504]) from J_mend (d + 1) hG)
  rw [h1, bI_som]
  (try dsimp only)
  rw [h2, bI_som]
  (try dsimp only)
  rw [if_pos rfl]
  exact ⟨M2, rfl, h3, h4⟩
set_option maxHeartbeats 1000000 in
theorem lw_close (d : Nat) {M : am_M} {i n : Int} (h : lw_H M i n) : lw_G (d + 21) M i n (am_at am_P (d + 21) j_Lw_law 1165 [am_r 21 517, am_r 5 0, am_r 6 504, am_i i] [] M) := by
  rw [E_Lw_law_1165]
  obtain ⟨hG, hp, -, hn, h32⟩ := h
  obtain ⟨z, M1, M2, h1, e1, h2, h3, h4⟩ := lw_ints (jT := j_Tv_close) (jM := j_Md_close) (by decide) (by decide) (Or.inl rfl) hp (np_cons np_r0 (fun w hw => by cases hw)) (np_cons np_r504 (fun w hw => by cases hw)) (show AG M (n + 1) (am_m am_P (d + 21) j_Tv_close [am_r 5 0] M) (am_m am_P (d + 21) j_Md_close [am_r 6 504]) from J_close (d + 1) hG)
  rw [h1, bI_som]
  (try dsimp only)
  rw [h2, bI_som]
  (try dsimp only)
  rw [if_pos rfl]
  exact ⟨M2, rfl, h3, h4⟩
set_option maxHeartbeats 1000000 in
theorem lw_undo (d : Nat) {M : am_M} {i n : Int} (h : lw_H M i n) : lw_G (d + 21) M i n (am_at am_P (d + 21) j_Lw_law 1178 [am_r 21 517, am_r 5 0, am_r 6 504, am_i i] [] M) := by
  rw [E_Lw_law_1178]
  obtain ⟨hG, hp, -, hn, h32⟩ := h
  obtain ⟨z, M1, M2, h1, e1, h2, h3, h4⟩ := lw_ints (jT := j_Tv_undo) (jM := j_Md_undo) (by decide) (by decide) (Or.inl rfl) hp (np_cons np_r0 (fun w hw => by cases hw)) (np_cons np_r504 (fun w hw => by cases hw)) (show AG M (n + 1) (am_m am_P (d + 21) j_Tv_undo [am_r 5 0] M) (am_m am_P (d + 21) j_Md_undo [am_r 6 504]) from J_undo (d + 1) hG)
  rw [h1, bI_som]
  (try dsimp only)
  rw [h2, bI_som]
  (try dsimp only)
  rw [if_pos rfl]
  exact ⟨M2, rfl, h3, h4⟩
set_option maxHeartbeats 1000000 in
theorem lw_is (d : Nat) {M : am_M} {i n : Int} (h : lw_H M i n) : lw_G (d + 21) M i n (am_at am_P (d + 21) j_Lw_law 1191 [am_r 21 517, am_r 5 0, am_r 6 504, am_i i] [] M) := by
  rw [E_Lw_law_1191]
  obtain ⟨w1, c1⟩ := lw_wr h (k := 1) (by decide) (by decide)
  obtain ⟨hG, hp, -, hn, h32⟩ := h
  rw [w1]
  rw [lw_if c1]
  obtain ⟨z, M1, M2, h1, e1, h2, h3, h4⟩ := lw_ints (jT := j_Tv_is) (jM := j_Md_is) (by decide) (by decide) (Or.inl rfl) hp (np_cons np_r0 (np_cons np_i (fun w hw => by cases hw))) (np_cons np_r504 (np_cons np_i (fun w hw => by cases hw))) (show AG M (n + 1) (am_m am_P (d + 21) j_Tv_is [am_r 5 0, am_i (M 517 (i + 1))] M) (am_m am_P (d + 21) j_Md_is [am_r 6 504, am_i (M 517 (i + 1))]) from J_is (d + 1) hG _)
  rw [h1, bI_som]
  (try dsimp only)
  rw [e1]
  rw [lw_if c1]
  rw [h2, bI_som]
  (try dsimp only)
  rw [if_pos rfl]
  exact ⟨M2, rfl, h3, h4⟩
set_option maxHeartbeats 1000000 in
theorem lw_of (d : Nat) {M : am_M} {i n : Int} (h : lw_H M i n) : lw_G (d + 21) M i n (am_at am_P (d + 21) j_Lw_law 1214 [am_r 21 517, am_r 5 0, am_r 6 504, am_i i] [] M) := by
  rw [E_Lw_law_1214]
  obtain ⟨w1, c1⟩ := lw_wr h (k := 1) (by decide) (by decide)
  obtain ⟨w2, c2⟩ := lw_wr h (k := 2) (by decide) (by decide)
  obtain ⟨hG, hp, -, hn, h32⟩ := h
  rw [w1]
  rw [w2]
  rw [lw_if c1]
  rw [lw_if c2]
  obtain ⟨z, M1, M2, h1, e1, h2, h3, h4⟩ := lw_ints (jT := j_Tv_of) (jM := j_Md_of) (by decide) (by decide) (Or.inl rfl) hp (np_cons np_r0 (np_cons np_i (np_cons np_i (fun w hw => by cases hw)))) (np_cons np_r504 (np_cons np_i (np_cons np_i (fun w hw => by cases hw)))) (show AG M (n + 1) (am_m am_P (d + 21) j_Tv_of [am_r 5 0, am_i (M 517 (i + 1)), am_i (M 517 (i + 2))] M) (am_m am_P (d + 21) j_Md_of [am_r 6 504, am_i (M 517 (i + 1)), am_i (M 517 (i + 2))]) from J_of (d + 1) hG _ _)
  rw [h1, bI_som]
  (try dsimp only)
  rw [e1]
  rw [lw_if c1]
  rw [lw_if c2]
  rw [h2, bI_som]
  (try dsimp only)
  rw [if_pos rfl]
  exact ⟨M2, rfl, h3, h4⟩
set_option maxHeartbeats 1000000 in
theorem lw_read (d : Nat) {M : am_M} {i n : Int} (h : lw_H M i n) : lw_G (d + 21) M i n (am_at am_P (d + 21) j_Lw_law 1247 [am_r 21 517, am_r 5 0, am_r 6 504, am_i i] [] M) := by
  rw [E_Lw_law_1247]
  obtain ⟨w1, c1⟩ := lw_wr h (k := 1) (by decide) (by decide)
  obtain ⟨w2, c2⟩ := lw_wr h (k := 2) (by decide) (by decide)
  obtain ⟨hG, hp, -, hn, h32⟩ := h
  rw [w1]
  rw [w2]
  rw [lw_if c1]
  rw [lw_if c2]
  obtain ⟨z, M1, M2, h1, e1, h2, h3, h4⟩ := lw_ints (jT := j_Tv_read) (jM := j_Md_read) (by decide) (by decide) (Or.inl rfl) hp (np_cons np_r0 (np_cons np_i (np_cons np_i (fun w hw => by cases hw)))) (np_cons np_r504 (np_cons np_i (np_cons np_i (fun w hw => by cases hw)))) (show AG M (n + 1) (am_m am_P (d + 21) j_Tv_read [am_r 5 0, am_i (M 517 (i + 1)), am_i (M 517 (i + 2))] M) (am_m am_P (d + 21) j_Md_read [am_r 6 504, am_i (M 517 (i + 1)), am_i (M 517 (i + 2))]) from J_read (d + 1) hG _ _)
  rw [h1, bI_som]
  (try dsimp only)
  rw [e1]
  rw [lw_if c1]
  rw [lw_if c2]
  rw [h2, bI_som]
  (try dsimp only)
  rw [if_pos rfl]
  exact ⟨M2, rfl, h3, h4⟩
set_option maxHeartbeats 1000000 in
theorem lw_block (d : Nat) {M : am_M} {i n : Int} (h : lw_H M i n) : lw_G (d + 21) M i n (am_at am_P (d + 21) j_Lw_law 1280 [am_r 21 517, am_r 5 0, am_r 6 504, am_i i] [] M) := by
  rw [E_Lw_law_1280]
  obtain ⟨w1, c1⟩ := lw_wr h (k := 1) (by decide) (by decide)
  obtain ⟨w2, c2⟩ := lw_wr h (k := 2) (by decide) (by decide)
  obtain ⟨hG, hp, -, hn, h32⟩ := h
  rw [w1]
  rw [w2]
  rw [lw_if c1]
  rw [lw_if c2]
  obtain ⟨z, M1, M2, h1, e1, h2, h3, h4⟩ := lw_ints (jT := j_Tv_block) (jM := j_Md_block) (by decide) (by decide) (Or.inl rfl) hp (np_cons np_r0 (np_cons np_i (np_cons np_i (fun w hw => by cases hw)))) (np_cons np_r504 (np_cons np_i (np_cons np_i (fun w hw => by cases hw)))) (show AG M (n + 1) (am_m am_P (d + 21) j_Tv_block [am_r 5 0, am_i (M 517 (i + 1)), am_i (M 517 (i + 2))] M) (am_m am_P (d + 21) j_Md_block [am_r 6 504, am_i (M 517 (i + 1)), am_i (M 517 (i + 2))]) from J_block (d + 1) hG _ _)
  rw [h1, bI_som]
  (try dsimp only)
  rw [e1]
  rw [lw_if c1]
  rw [lw_if c2]
  rw [h2, bI_som]
  (try dsimp only)
  rw [if_pos rfl]
  exact ⟨M2, rfl, h3, h4⟩
set_option maxHeartbeats 1000000 in
theorem lw_ofBlock (d : Nat) {M : am_M} {i n : Int} (h : lw_H M i n) : lw_G (d + 21) M i n (am_at am_P (d + 21) j_Lw_law 1313 [am_r 21 517, am_r 5 0, am_r 6 504, am_i i] [] M) := by
  rw [E_Lw_law_1313]
  obtain ⟨w1, c1⟩ := lw_wr h (k := 1) (by decide) (by decide)
  obtain ⟨w2, c2⟩ := lw_wr h (k := 2) (by decide) (by decide)
  obtain ⟨hG, hp, -, hn, h32⟩ := h
  rw [w1]
  rw [w2]
  rw [lw_if c1]
  rw [lw_if c2]
  obtain ⟨z, M1, M2, h1, e1, h2, h3, h4⟩ := lw_ints (jT := j_Tv_ofBlock) (jM := j_Md_ofBlock) (by decide) (by decide) (Or.inl rfl) hp (np_cons np_r0 (np_cons np_i (np_cons np_i (fun w hw => by cases hw)))) (np_cons np_r504 (np_cons np_i (np_cons np_i (fun w hw => by cases hw)))) (show AG M (n + 1) (am_m am_P (d + 21) j_Tv_ofBlock [am_r 5 0, am_i (M 517 (i + 1)), am_i (M 517 (i + 2))] M) (am_m am_P (d + 21) j_Md_ofBlock [am_r 6 504, am_i (M 517 (i + 1)), am_i (M 517 (i + 2))]) from J_ofBlock (d + 1) hG _ _)
  rw [h1, bI_som]
  (try dsimp only)
  rw [e1]
  rw [lw_if c1]
  rw [lw_if c2]
  rw [h2, bI_som]
  (try dsimp only)
  rw [if_pos rfl]
  exact ⟨M2, rfl, h3, h4⟩
set_option maxHeartbeats 1000000 in
theorem lw_ofPart (d : Nat) {M : am_M} {i n : Int} (h : lw_H M i n) : lw_G (d + 21) M i n (am_at am_P (d + 21) j_Lw_law 1346 [am_r 21 517, am_r 5 0, am_r 6 504, am_i i] [] M) := by
  rw [E_Lw_law_1346]
  obtain ⟨w1, c1⟩ := lw_wr h (k := 1) (by decide) (by decide)
  obtain ⟨w2, c2⟩ := lw_wr h (k := 2) (by decide) (by decide)
  obtain ⟨hG, hp, -, hn, h32⟩ := h
  rw [w1]
  rw [w2]
  rw [lw_if c1]
  rw [lw_if c2]
  obtain ⟨z, M1, M2, h1, e1, h2, h3, h4⟩ := lw_ints (jT := j_Tv_ofPart) (jM := j_Md_ofPart) (by decide) (by decide) (Or.inl rfl) hp (np_cons np_r0 (np_cons np_i (np_cons np_i (fun w hw => by cases hw)))) (np_cons np_r504 (np_cons np_i (np_cons np_i (fun w hw => by cases hw)))) (show AG M (n + 1) (am_m am_P (d + 21) j_Tv_ofPart [am_r 5 0, am_i (M 517 (i + 1)), am_i (M 517 (i + 2))] M) (am_m am_P (d + 21) j_Md_ofPart [am_r 6 504, am_i (M 517 (i + 1)), am_i (M 517 (i + 2))]) from J_ofPart (d + 1) hG _ _)
  rw [h1, bI_som]
  (try dsimp only)
  rw [e1]
  rw [lw_if c1]
  rw [lw_if c2]
  rw [h2, bI_som]
  (try dsimp only)
  rw [if_pos rfl]
  exact ⟨M2, rfl, h3, h4⟩
set_option maxHeartbeats 1000000 in
theorem lw_place (d : Nat) {M : am_M} {i n : Int} (h : lw_H M i n) : lw_G (d + 21) M i n (am_at am_P (d + 21) j_Lw_law 1379 [am_r 21 517, am_r 5 0, am_r 6 504, am_i i] [] M) := by
  rw [E_Lw_law_1379]
  obtain ⟨w1, c1⟩ := lw_wr h (k := 1) (by decide) (by decide)
  obtain ⟨w2, c2⟩ := lw_wr h (k := 2) (by decide) (by decide)
  obtain ⟨hG, hp, -, hn, h32⟩ := h
  rw [w1]
  rw [w2]
  rw [lw_if c1]
  rw [lw_if c2]
  obtain ⟨z, M1, M2, h1, e1, h2, h3, h4⟩ := lw_ints (jT := j_Tv_place) (jM := j_Md_place) (by decide) (by decide) (Or.inl rfl) hp (np_cons np_r0 (np_cons np_i (np_cons np_i (fun w hw => by cases hw)))) (np_cons np_r504 (np_cons np_i (np_cons np_i (fun w hw => by cases hw)))) (show AG M (n + 1) (am_m am_P (d + 21) j_Tv_place [am_r 5 0, am_i (M 517 (i + 1)), am_i (M 517 (i + 2))] M) (am_m am_P (d + 21) j_Md_place [am_r 6 504, am_i (M 517 (i + 1)), am_i (M 517 (i + 2))]) from J_place (d + 1) hG _ _)
  rw [h1, bI_som]
  (try dsimp only)
  rw [e1]
  rw [lw_if c1]
  rw [lw_if c2]
  rw [h2, bI_som]
  (try dsimp only)
  rw [if_pos rfl]
  exact ⟨M2, rfl, h3, h4⟩
set_option maxHeartbeats 1000000 in
theorem lw_owners (d : Nat) {M : am_M} {i n : Int} (h : lw_H M i n) : lw_G (d + 21) M i n (am_at am_P (d + 21) j_Lw_law 1412 [am_r 21 517, am_r 5 0, am_r 6 504, am_i i] [] M) := by
  rw [E_Lw_law_1412]
  obtain ⟨w1, c1⟩ := lw_wr h (k := 1) (by decide) (by decide)
  obtain ⟨hG, hp, -, hn, h32⟩ := h
  rw [w1]
  rw [lw_if c1]
  obtain ⟨z, M1, M2, h1, e1, h2, h3, h4⟩ := lw_ints (jT := j_Tv_owners) (jM := j_Md_owners) (by decide) (by decide) (Or.inl rfl) hp (np_cons np_r0 (np_cons np_i (fun w hw => by cases hw))) (np_cons np_r504 (np_cons np_i (fun w hw => by cases hw))) (show AG M (n + 1) (am_m am_P (d + 21) j_Tv_owners [am_r 5 0, am_i (M 517 (i + 1))] M) (am_m am_P (d + 21) j_Md_owners [am_r 6 504, am_i (M 517 (i + 1))]) from J_owners (d + 1) hG _)
  rw [h1, bI_som]
  (try dsimp only)
  rw [e1]
  rw [lw_if c1]
  rw [h2, bI_som]
  (try dsimp only)
  rw [if_pos rfl]
  exact ⟨M2, rfl, h3, h4⟩
set_option maxHeartbeats 1000000 in
theorem lw_wrong (d : Nat) {M : am_M} {i n : Int} (h : lw_H M i n) : lw_G (d + 21) M i n (am_at am_P (d + 21) j_Lw_law 1435 [am_r 21 517, am_r 5 0, am_r 6 504, am_i i] [] M) := by
  rw [E_Lw_law_1435]
  obtain ⟨hG, hp, -, hn, h32⟩ := h
  obtain ⟨z, M1, M2, h1, e1, h2, h3, h4⟩ := lw_ints (jT := j_Tv_wrong) (jM := j_Md_wrong) (by decide) (by decide) (Or.inl rfl) hp (np_cons np_r0 (fun w hw => by cases hw)) (np_cons np_r504 (fun w hw => by cases hw)) (show AG M (n + 1) (am_m am_P (d + 21) j_Tv_wrong [am_r 5 0] M) (am_m am_P (d + 21) j_Md_wrong [am_r 6 504]) from J_wrong (d + 1) hG)
  rw [h1, bI_som]
  (try dsimp only)
  rw [h2, bI_som]
  (try dsimp only)
  rw [if_pos rfl]
  exact ⟨M2, rfl, h3, h4⟩
set_option maxHeartbeats 1000000 in
theorem lw_differs (d : Nat) {M : am_M} {i n : Int} (h : lw_H M i n) : lw_G (d + 21) M i n (am_at am_P (d + 21) j_Lw_law 1448 [am_r 21 517, am_r 5 0, am_r 6 504, am_i i] [] M) := by
  rw [E_Lw_law_1448]
  obtain ⟨w1, c1⟩ := lw_wr h (k := 1) (by decide) (by decide)
  obtain ⟨w2, c2⟩ := lw_wr h (k := 2) (by decide) (by decide)
  obtain ⟨w3, c3⟩ := lw_wr h (k := 3) (by decide) (by decide)
  obtain ⟨hG, hp, -, hn, h32⟩ := h
  rw [w1]
  rw [w2]
  rw [w3]
  rw [lw_if c1]
  rw [lw_if c2]
  rw [lw_if c3]
  obtain ⟨z, M1, M2, h1, e1, h2, h3, h4⟩ := lw_ints (jT := j_Tv_differs) (jM := j_Md_differs) (by decide) (by decide) (Or.inl rfl) hp (np_cons np_r0 (np_cons np_i (np_cons np_i (np_cons np_i (fun w hw => by cases hw))))) (np_cons np_r504 (np_cons np_i (np_cons np_i (np_cons np_i (fun w hw => by cases hw))))) (show AG M (n + 1) (am_m am_P (d + 21) j_Tv_differs [am_r 5 0, am_i (M 517 (i + 1)), am_i (M 517 (i + 2)), am_i (M 517 (i + 3))] M) (am_m am_P (d + 21) j_Md_differs [am_r 6 504, am_i (M 517 (i + 1)), am_i (M 517 (i + 2)), am_i (M 517 (i + 3))]) from J_differs (d + 1) hG _ _ _)
  rw [h1, bI_som]
  (try dsimp only)
  rw [e1]
  rw [lw_if c1]
  rw [lw_if c2]
  rw [lw_if c3]
  rw [h2, bI_som]
  (try dsimp only)
  rw [if_pos rfl]
  exact ⟨M2, rfl, h3, h4⟩
set_option maxHeartbeats 1000000 in
theorem lw_walked (d : Nat) {M : am_M} {i n : Int} (h : lw_H M i n) : lw_G (d + 21) M i n (am_at am_P (d + 21) j_Lw_law 1491 [am_r 21 517, am_r 5 0, am_r 6 504, am_i i] [] M) := by
  rw [E_Lw_law_1491]
  obtain ⟨w1, c1⟩ := lw_wr h (k := 1) (by decide) (by decide)
  obtain ⟨w2, c2⟩ := lw_wr h (k := 2) (by decide) (by decide)
  obtain ⟨hG, hp, -, hn, h32⟩ := h
  rw [w1]
  rw [w2]
  rw [lw_if c1]
  rw [lw_if c2]
  obtain ⟨z, M1, M2, h1, e1, h2, h3, h4⟩ := lw_ints (jT := j_Tv_walked) (jM := j_Md_walked) (by decide) (by decide) (Or.inl rfl) hp (np_cons np_r0 (np_cons np_i (np_cons np_i (fun w hw => by cases hw)))) (np_cons np_r504 (np_cons np_i (np_cons np_i (fun w hw => by cases hw)))) (show AG M (n + 1) (am_m am_P (d + 21) j_Tv_walked [am_r 5 0, am_i (M 517 (i + 1)), am_i (M 517 (i + 2))] M) (am_m am_P (d + 21) j_Md_walked [am_r 6 504, am_i (M 517 (i + 1)), am_i (M 517 (i + 2))]) from J_walked (d + 1) hG _ _)
  rw [h1, bI_som]
  (try dsimp only)
  rw [e1]
  rw [lw_if c1]
  rw [lw_if c2]
  rw [h2, bI_som]
  (try dsimp only)
  rw [if_pos rfl]
  exact ⟨M2, rfl, h3, h4⟩
set_option maxHeartbeats 1000000 in
theorem lw_changed (d : Nat) {M : am_M} {i n : Int} (h : lw_H M i n) : lw_G (d + 21) M i n (am_at am_P (d + 21) j_Lw_law 1524 [am_r 21 517, am_r 5 0, am_r 6 504, am_i i] [] M) := by
  rw [E_Lw_law_1524]
  obtain ⟨w1, c1⟩ := lw_wr h (k := 1) (by decide) (by decide)
  obtain ⟨w2, c2⟩ := lw_wr h (k := 2) (by decide) (by decide)
  obtain ⟨w3, c3⟩ := lw_wr h (k := 3) (by decide) (by decide)
  obtain ⟨hG, hp, -, hn, h32⟩ := h
  rw [w1]
  rw [w2]
  rw [w3]
  rw [lw_if c1]
  rw [lw_if c2]
  rw [lw_if c3]
  obtain ⟨z, M1, M2, h1, e1, h2, h3, h4⟩ := lw_ints (jT := j_Tv_changed) (jM := j_Md_changed) (by decide) (by decide) (Or.inl rfl) hp (np_cons np_r0 (np_cons np_i (np_cons np_i (np_cons np_i (fun w hw => by cases hw))))) (np_cons np_r504 (np_cons np_i (np_cons np_i (np_cons np_i (fun w hw => by cases hw))))) (show AG M (n + 1) (am_m am_P (d + 21) j_Tv_changed [am_r 5 0, am_i (M 517 (i + 1)), am_i (M 517 (i + 2)), am_i (M 517 (i + 3))] M) (am_m am_P (d + 21) j_Md_changed [am_r 6 504, am_i (M 517 (i + 1)), am_i (M 517 (i + 2)), am_i (M 517 (i + 3))]) from J_changed (d + 1) hG _ _ _)
  rw [h1, bI_som]
  (try dsimp only)
  rw [e1]
  rw [lw_if c1]
  rw [lw_if c2]
  rw [lw_if c3]
  rw [h2, bI_som]
  (try dsimp only)
  rw [if_pos rfl]
  exact ⟨M2, rfl, h3, h4⟩
set_option maxHeartbeats 1000000 in
theorem lw_frees (d : Nat) {M : am_M} {i n : Int} (h : lw_H M i n) : lw_G (d + 21) M i n (am_at am_P (d + 21) j_Lw_law 1567 [am_r 21 517, am_r 5 0, am_r 6 504, am_i i] [] M) := by
  rw [E_Lw_law_1567]
  obtain ⟨w1, c1⟩ := lw_wr h (k := 1) (by decide) (by decide)
  obtain ⟨hG, hp, -, hn, h32⟩ := h
  rw [w1]
  rw [lw_if c1]
  obtain ⟨z, M1, M2, h1, e1, h2, h3, h4⟩ := lw_ints (jT := j_Tv_frees) (jM := j_Md_frees) (by decide) (by decide) (Or.inl rfl) hp (np_cons np_r0 (np_cons np_i (fun w hw => by cases hw))) (np_cons np_r504 (np_cons np_i (fun w hw => by cases hw))) (show AG M (n + 1) (am_m am_P (d + 21) j_Tv_frees [am_r 5 0, am_i (M 517 (i + 1))] M) (am_m am_P (d + 21) j_Md_frees [am_r 6 504, am_i (M 517 (i + 1))]) from J_frees (d + 1) hG (h32 _))
  rw [h1, bI_som]
  (try dsimp only)
  rw [e1]
  rw [lw_if c1]
  rw [h2, bI_som]
  (try dsimp only)
  rw [if_pos rfl]
  exact ⟨M2, rfl, h3, h4⟩
set_option maxHeartbeats 1000000 in
theorem lw_heaviest (d : Nat) {M : am_M} {i n : Int} (h : lw_H M i n) : lw_G (d + 21) M i n (am_at am_P (d + 21) j_Lw_law 1590 [am_r 21 517, am_r 5 0, am_r 6 504, am_i i] [] M) := by
  rw [E_Lw_law_1590]
  obtain ⟨hG, hp, -, hn, h32⟩ := h
  obtain ⟨z, M1, M2, h1, e1, h2, h3, h4⟩ := lw_ints (jT := j_Tv_heaviest) (jM := j_Md_heaviest) (by decide) (by decide) (Or.inl rfl) hp (np_cons np_r0 (fun w hw => by cases hw)) (np_cons np_r504 (fun w hw => by cases hw)) (show AG M (n + 1) (am_m am_P (d + 21) j_Tv_heaviest [am_r 5 0] M) (am_m am_P (d + 21) j_Md_heaviest [am_r 6 504]) from J_heaviest (d + 1) hG)
  rw [h1, bI_som]
  (try dsimp only)
  rw [h2, bI_som]
  (try dsimp only)
  rw [if_pos rfl]
  exact ⟨M2, rfl, h3, h4⟩
set_option maxHeartbeats 1000000 in
theorem lw_path (d : Nat) {M : am_M} {i n : Int} (h : lw_H M i n) : lw_G (d + 21) M i n (am_at am_P (d + 21) j_Lw_law 1603 [am_r 21 517, am_r 5 0, am_r 6 504, am_i i] [] M) := by
  rw [E_Lw_law_1603]
  obtain ⟨w1, c1⟩ := lw_wr h (k := 1) (by decide) (by decide)
  obtain ⟨w2, c2⟩ := lw_wr h (k := 2) (by decide) (by decide)
  obtain ⟨w3, c3⟩ := lw_wr h (k := 3) (by decide) (by decide)
  obtain ⟨hG, hp, -, hn, h32⟩ := h
  rw [w1]
  rw [w2]
  rw [w3]
  rw [lw_if c1]
  rw [lw_if c2]
  rw [lw_if c3]
  obtain ⟨z, M1, M2, h1, e1, h2, h3, h4⟩ := lw_ints (jT := j_Tv_path) (jM := j_Md_path) (by decide) (by decide) (Or.inl rfl) hp (np_cons np_r0 (np_cons np_i (np_cons np_i (np_cons np_i (fun w hw => by cases hw))))) (np_cons np_r504 (np_cons np_i (np_cons np_i (np_cons np_i (fun w hw => by cases hw))))) (show AG M (n + 1) (am_m am_P (d + 21) j_Tv_path [am_r 5 0, am_i (M 517 (i + 1)), am_i (M 517 (i + 2)), am_i (M 517 (i + 3))] M) (am_m am_P (d + 21) j_Md_path [am_r 6 504, am_i (M 517 (i + 1)), am_i (M 517 (i + 2)), am_i (M 517 (i + 3))]) from J_path (d + 1) hG _ _ _)
  rw [h1, bI_som]
  (try dsimp only)
  rw [e1]
  rw [lw_if c1]
  rw [lw_if c2]
  rw [lw_if c3]
  rw [h2, bI_som]
  (try dsimp only)
  rw [if_pos rfl]
  exact ⟨M2, rfl, h3, h4⟩
set_option maxHeartbeats 1000000 in
theorem lw_find (d : Nat) {M : am_M} {i n : Int} (h : lw_H M i n) : lw_G (d + 21) M i n (am_at am_P (d + 21) j_Lw_law 1646 [am_r 21 517, am_r 5 0, am_r 6 504, am_i i] [] M) := by
  rw [E_Lw_law_1646]
  obtain ⟨w1, c1⟩ := lw_wr h (k := 1) (by decide) (by decide)
  obtain ⟨hG, hp, -, hn, h32⟩ := h
  rw [w1]
  rw [lw_if c1]
  obtain ⟨z, M1, M2, h1, e1, h2, h3, h4⟩ := lw_ints (jT := j_Tv_find) (jM := j_Md_find) (by decide) (by decide) (Or.inl rfl) hp (np_cons np_r0 (np_cons np_i (fun w hw => by cases hw))) (np_cons np_r504 (np_cons np_i (fun w hw => by cases hw))) (show AG M (n + 1) (am_m am_P (d + 21) j_Tv_find [am_r 5 0, am_i (M 517 (i + 1))] M) (am_m am_P (d + 21) j_Md_find [am_r 6 504, am_i (M 517 (i + 1))]) from J_find (d + 1) hG _)
  rw [h1, bI_som]
  (try dsimp only)
  rw [e1]
  rw [lw_if c1]
  rw [h2, bI_som]
  (try dsimp only)
  rw [if_pos rfl]
  exact ⟨M2, rfl, h3, h4⟩
set_option maxHeartbeats 1000000 in
theorem lw_times (d : Nat) {M : am_M} {i n : Int} (h : lw_H M i n) : lw_G (d + 21) M i n (am_at am_P (d + 21) j_Lw_law 1669 [am_r 21 517, am_r 5 0, am_r 6 504, am_i i] [] M) := by
  rw [E_Lw_law_1669]
  obtain ⟨w1, c1⟩ := lw_wr h (k := 1) (by decide) (by decide)
  obtain ⟨w2, c2⟩ := lw_wr h (k := 2) (by decide) (by decide)
  obtain ⟨hG, hp, -, hn, h32⟩ := h
  rw [w1]
  rw [w2]
  rw [lw_if c1]
  rw [lw_if c2]
  obtain ⟨z, M1, M2, h1, e1, h2, h3, h4⟩ := lw_ints (jT := j_Tv_times) (jM := j_Md_times) (by decide) (by decide) (Or.inl rfl) hp (np_cons np_r0 (np_cons np_i (np_cons np_i (fun w hw => by cases hw)))) (np_cons np_r504 (np_cons np_i (np_cons np_i (fun w hw => by cases hw)))) (show AG M (n + 1) (am_m am_P (d + 21) j_Tv_times [am_r 5 0, am_i (M 517 (i + 1)), am_i (M 517 (i + 2))] M) (am_m am_P (d + 21) j_Md_times [am_r 6 504, am_i (M 517 (i + 1)), am_i (M 517 (i + 2))]) from J_times (d + 1) hG _ _)
  rw [h1, bI_som]
  (try dsimp only)
  rw [e1]
  rw [lw_if c1]
  rw [lw_if c2]
  rw [h2, bI_som]
  (try dsimp only)
  rw [if_pos rfl]
  exact ⟨M2, rfl, h3, h4⟩
set_option maxHeartbeats 1000000 in
theorem lw_counted (d : Nat) {M : am_M} {i n : Int} (h : lw_H M i n) : lw_G (d + 21) M i n (am_at am_P (d + 21) j_Lw_law 1702 [am_r 21 517, am_r 5 0, am_r 6 504, am_i i] [] M) := by
  rw [E_Lw_law_1702]
  obtain ⟨w1, c1⟩ := lw_wr h (k := 1) (by decide) (by decide)
  obtain ⟨hG, hp, -, hn, h32⟩ := h
  rw [w1]
  rw [lw_if c1]
  obtain ⟨z, M1, M2, h1, e1, h2, h3, h4⟩ := lw_ints (jT := j_Tv_counted) (jM := j_Md_counted) (by decide) (by decide) (Or.inl rfl) hp (np_cons np_r0 (np_cons np_i (fun w hw => by cases hw))) (np_cons np_r504 (np_cons np_i (fun w hw => by cases hw))) (show AG M (n + 1) (am_m am_P (d + 21) j_Tv_counted [am_r 5 0, am_i (M 517 (i + 1))] M) (am_m am_P (d + 21) j_Md_counted [am_r 6 504, am_i (M 517 (i + 1))]) from J_counted (d + 1) hG _)
  rw [h1, bI_som]
  (try dsimp only)
  rw [e1]
  rw [lw_if c1]
  rw [h2, bI_som]
  (try dsimp only)
  rw [if_pos rfl]
  exact ⟨M2, rfl, h3, h4⟩
set_option maxHeartbeats 1000000 in
theorem lw_hottest (d : Nat) {M : am_M} {i n : Int} (h : lw_H M i n) : lw_G (d + 21) M i n (am_at am_P (d + 21) j_Lw_law 1725 [am_r 21 517, am_r 5 0, am_r 6 504, am_i i] [] M) := by
  rw [E_Lw_law_1725]
  obtain ⟨hG, hp, -, hn, h32⟩ := h
  obtain ⟨z, M1, M2, h1, e1, h2, h3, h4⟩ := lw_ints (jT := j_Tv_hottest) (jM := j_Md_hottest) (by decide) (by decide) (Or.inl rfl) hp (np_cons np_r0 (fun w hw => by cases hw)) (np_cons np_r504 (fun w hw => by cases hw)) (show AG M (n + 1) (am_m am_P (d + 21) j_Tv_hottest [am_r 5 0] M) (am_m am_P (d + 21) j_Md_hottest [am_r 6 504]) from J_hottest (d + 1) hG)
  rw [h1, bI_som]
  (try dsimp only)
  rw [h2, bI_som]
  (try dsimp only)
  rw [if_pos rfl]
  exact ⟨M2, rfl, h3, h4⟩
set_option maxHeartbeats 1000000 in
theorem lw_leaves (d : Nat) {M : am_M} {i n : Int} (h : lw_H M i n) : lw_G (d + 21) M i n (am_at am_P (d + 21) j_Lw_law 1738 [am_r 21 517, am_r 5 0, am_r 6 504, am_i i] [] M) := by
  rw [E_Lw_law_1738]
  obtain ⟨w1, c1⟩ := lw_wr h (k := 1) (by decide) (by decide)
  obtain ⟨hG, hp, -, hn, h32⟩ := h
  rw [w1]
  rw [lw_if c1]
  obtain ⟨z, M1, M2, h1, e1, h2, h3, h4⟩ := lw_ints (jT := j_Tv_leaves) (jM := j_Md_leaves) (by decide) (by decide) (Or.inl rfl) hp (np_cons np_r0 (np_cons np_i (fun w hw => by cases hw))) (np_cons np_r504 (np_cons np_i (fun w hw => by cases hw))) (show AG M (n + 1) (am_m am_P (d + 21) j_Tv_leaves [am_r 5 0, am_i (M 517 (i + 1))] M) (am_m am_P (d + 21) j_Md_leaves [am_r 6 504, am_i (M 517 (i + 1))]) from J_leaves (d + 1) hG _)
  rw [h1, bI_som]
  (try dsimp only)
  rw [e1]
  rw [lw_if c1]
  rw [h2, bI_som]
  (try dsimp only)
  rw [if_pos rfl]
  exact ⟨M2, rfl, h3, h4⟩
set_option maxHeartbeats 1000000 in
theorem lw_parts (d : Nat) {M : am_M} {i n : Int} (h : lw_H M i n) : lw_G (d + 21) M i n (am_at am_P (d + 21) j_Lw_law 1761 [am_r 21 517, am_r 5 0, am_r 6 504, am_i i] [] M) := by
  rw [E_Lw_law_1761]
  obtain ⟨w1, c1⟩ := lw_wr h (k := 1) (by decide) (by decide)
  obtain ⟨w2, c2⟩ := lw_wr h (k := 2) (by decide) (by decide)
  obtain ⟨hG, hp, -, hn, h32⟩ := h
  rw [w1]
  rw [w2]
  rw [lw_if c1]
  rw [lw_if c2]
  obtain ⟨z, M1, M2, h1, e1, h2, h3, h4⟩ := lw_ints (jT := j_Tv_parts) (jM := j_Md_parts) (by decide) (by decide) (Or.inl rfl) hp (np_cons np_r0 (np_cons np_i (np_cons np_i (fun w hw => by cases hw)))) (np_cons np_r504 (np_cons np_i (np_cons np_i (fun w hw => by cases hw)))) (show AG M (n + 1) (am_m am_P (d + 21) j_Tv_parts [am_r 5 0, am_i (M 517 (i + 1)), am_i (M 517 (i + 2))] M) (am_m am_P (d + 21) j_Md_parts [am_r 6 504, am_i (M 517 (i + 1)), am_i (M 517 (i + 2))]) from J_parts (d + 1) hG _ _)
  rw [h1, bI_som]
  (try dsimp only)
  rw [e1]
  rw [lw_if c1]
  rw [lw_if c2]
  rw [h2, bI_som]
  (try dsimp only)
  rw [if_pos rfl]
  exact ⟨M2, rfl, h3, h4⟩
set_option maxHeartbeats 1000000 in
theorem lw_staged (d : Nat) {M : am_M} {i n : Int} (h : lw_H M i n) : lw_G (d + 21) M i n (am_at am_P (d + 21) j_Lw_law 1794 [am_r 21 517, am_r 5 0, am_r 6 504, am_i i] [] M) := by
  rw [E_Lw_law_1794]
  obtain ⟨w1, c1⟩ := lw_wr h (k := 1) (by decide) (by decide)
  obtain ⟨w2, c2⟩ := lw_wr h (k := 2) (by decide) (by decide)
  obtain ⟨hG, hp, -, hn, h32⟩ := h
  rw [w1]
  rw [w2]
  rw [lw_if c1]
  rw [lw_if c2]
  obtain ⟨z, M1, M2, h1, e1, h2, h3, h4⟩ := lw_ints (jT := j_Tv_staged) (jM := j_Md_staged) (by decide) (by decide) (Or.inl rfl) hp (np_cons np_r0 (np_cons np_i (np_cons np_i (fun w hw => by cases hw)))) (np_cons np_r504 (np_cons np_i (np_cons np_i (fun w hw => by cases hw)))) (show AG M (n + 1) (am_m am_P (d + 21) j_Tv_staged [am_r 5 0, am_i (M 517 (i + 1)), am_i (M 517 (i + 2))] M) (am_m am_P (d + 21) j_Md_staged [am_r 6 504, am_i (M 517 (i + 1)), am_i (M 517 (i + 2))]) from J_staged (d + 1) hG _ _)
  rw [h1, bI_som]
  (try dsimp only)
  rw [e1]
  rw [lw_if c1]
  rw [lw_if c2]
  rw [h2, bI_som]
  (try dsimp only)
  rw [if_pos rfl]
  exact ⟨M2, rfl, h3, h4⟩
set_option maxHeartbeats 1000000 in
theorem lw_stream (d : Nat) {M : am_M} {i n : Int} (h : lw_H M i n) : lw_G (d + 21) M i n (am_at am_P (d + 21) j_Lw_law 1827 [am_r 21 517, am_r 5 0, am_r 6 504, am_i i] [] M) := by
  rw [E_Lw_law_1827]
  obtain ⟨w1, c1⟩ := lw_wr h (k := 1) (by decide) (by decide)
  obtain ⟨w2, c2⟩ := lw_wr h (k := 2) (by decide) (by decide)
  obtain ⟨hG, hp, -, hn, h32⟩ := h
  rw [w1]
  rw [w2]
  rw [lw_if c1]
  rw [lw_if c2]
  obtain ⟨z, M1, M2, h1, e1, h2, h3, h4⟩ := lw_ints (jT := j_Tv_stream) (jM := j_Md_stream) (by decide) (by decide) (Or.inl rfl) hp (np_cons np_r0 (np_cons np_i (np_cons np_i (fun w hw => by cases hw)))) (np_cons np_r504 (np_cons np_i (np_cons np_i (fun w hw => by cases hw)))) (show AG M (n + 1) (am_m am_P (d + 21) j_Tv_stream [am_r 5 0, am_i (M 517 (i + 1)), am_i (M 517 (i + 2))] M) (am_m am_P (d + 21) j_Md_stream [am_r 6 504, am_i (M 517 (i + 1)), am_i (M 517 (i + 2))]) from J_stream (d + 1) hG _ _)
  rw [h1, bI_som]
  (try dsimp only)
  rw [e1]
  rw [lw_if c1]
  rw [lw_if c2]
  rw [h2, bI_som]
  (try dsimp only)
  rw [if_pos rfl]
  exact ⟨M2, rfl, h3, h4⟩
set_option maxHeartbeats 1000000 in
theorem lw_children (d : Nat) {M : am_M} {i n : Int} (h : lw_H M i n) : lw_G (d + 21) M i n (am_at am_P (d + 21) j_Lw_law 1860 [am_r 21 517, am_r 5 0, am_r 6 504, am_i i] [] M) := by
  rw [E_Lw_law_1860]
  obtain ⟨w1, c1⟩ := lw_wr h (k := 1) (by decide) (by decide)
  obtain ⟨hG, hp, -, hn, h32⟩ := h
  rw [w1]
  rw [lw_if c1]
  obtain ⟨z, M1, M2, h1, e1, h2, h3, h4⟩ := lw_ints (jT := j_Tv_children) (jM := j_Md_children) (by decide) (by decide) (Or.inl rfl) hp (np_cons np_r0 (np_cons np_i (fun w hw => by cases hw))) (np_cons np_r504 (np_cons np_i (fun w hw => by cases hw))) (show AG M (n + 1) (am_m am_P (d + 21) j_Tv_children [am_r 5 0, am_i (M 517 (i + 1))] M) (am_m am_P (d + 21) j_Md_children [am_r 6 504, am_i (M 517 (i + 1))]) from J_children (d + 1) hG _)
  rw [h1, bI_som]
  (try dsimp only)
  rw [e1]
  rw [lw_if c1]
  rw [h2, bI_som]
  (try dsimp only)
  rw [if_pos rfl]
  exact ⟨M2, rfl, h3, h4⟩
set_option maxHeartbeats 1000000 in
theorem lw_nearest (d : Nat) {M : am_M} {i n : Int} (h : lw_H M i n) : lw_G (d + 21) M i n (am_at am_P (d + 21) j_Lw_law 1883 [am_r 21 517, am_r 5 0, am_r 6 504, am_i i] [] M) := by
  rw [E_Lw_law_1883]
  obtain ⟨w1, c1⟩ := lw_wr h (k := 1) (by decide) (by decide)
  obtain ⟨w2, c2⟩ := lw_wr h (k := 2) (by decide) (by decide)
  obtain ⟨hG, hp, -, hn, h32⟩ := h
  rw [w1]
  rw [w2]
  rw [lw_if c1]
  rw [lw_if c2]
  obtain ⟨z, M1, M2, h1, e1, h2, h3, h4⟩ := lw_ints (jT := j_Tv_nearest) (jM := j_Md_nearest) (by decide) (by decide) (Or.inl rfl) hp (np_cons np_r0 (np_cons np_i (np_cons np_i (fun w hw => by cases hw)))) (np_cons np_r504 (np_cons np_i (np_cons np_i (fun w hw => by cases hw)))) (show AG M (n + 1) (am_m am_P (d + 21) j_Tv_nearest [am_r 5 0, am_i (M 517 (i + 1)), am_i (M 517 (i + 2))] M) (am_m am_P (d + 21) j_Md_nearest [am_r 6 504, am_i (M 517 (i + 1)), am_i (M 517 (i + 2))]) from J_nearest (d + 1) hG _ _)
  rw [h1, bI_som]
  (try dsimp only)
  rw [e1]
  rw [lw_if c1]
  rw [lw_if c2]
  rw [h2, bI_som]
  (try dsimp only)
  rw [if_pos rfl]
  exact ⟨M2, rfl, h3, h4⟩
set_option maxHeartbeats 1000000 in
theorem lw_run (d : Nat) {M : am_M} {i n : Int} (h : lw_H M i n) : lw_G (d + 21) M i n (am_at am_P (d + 21) j_Lw_law 1916 [am_r 21 517, am_r 5 0, am_r 6 504, am_i i] [] M) := by
  rw [E_Lw_law_1916]
  obtain ⟨w1, c1⟩ := lw_wr h (k := 1) (by decide) (by decide)
  obtain ⟨w2, c2⟩ := lw_wr h (k := 2) (by decide) (by decide)
  obtain ⟨w3, c3⟩ := lw_wr h (k := 3) (by decide) (by decide)
  obtain ⟨hG, hp, -, hn, h32⟩ := h
  rw [w1]
  rw [w2]
  rw [w3]
  rw [lw_if c1]
  rw [lw_if c2]
  rw [lw_if c3]
  obtain ⟨z, M1, M2, h1, e1, h2, h3, h4⟩ := lw_ints (jT := j_Tv_run) (jM := j_Md_run) (by decide) (by decide) (Or.inl rfl) hp (np_cons np_r0 (np_cons np_i (np_cons np_i (np_cons np_i (fun w hw => by cases hw))))) (np_cons np_r504 (np_cons np_i (np_cons np_i (np_cons np_i (fun w hw => by cases hw))))) (show AG M (n + 1) (am_m am_P (d + 21) j_Tv_run [am_r 5 0, am_i (M 517 (i + 1)), am_i (M 517 (i + 2)), am_i (M 517 (i + 3))] M) (am_m am_P (d + 21) j_Md_run [am_r 6 504, am_i (M 517 (i + 1)), am_i (M 517 (i + 2)), am_i (M 517 (i + 3))]) from J_run (d + 1) hG _ _ _)
  rw [h1, bI_som]
  (try dsimp only)
  rw [e1]
  rw [lw_if c1]
  rw [lw_if c2]
  rw [lw_if c3]
  rw [h2, bI_som]
  (try dsimp only)
  rw [if_pos rfl]
  exact ⟨M2, rfl, h3, h4⟩
set_option maxHeartbeats 1000000 in
theorem lw_next (d : Nat) {M : am_M} {i n : Int} (h : lw_H M i n) : lw_G (d + 21) M i n (am_at am_P (d + 21) j_Lw_law 1959 [am_r 21 517, am_r 5 0, am_r 6 504, am_i i] [] M) := by
  rw [E_Lw_law_1959]
  obtain ⟨w1, c1⟩ := lw_wr h (k := 1) (by decide) (by decide)
  obtain ⟨w2, c2⟩ := lw_wr h (k := 2) (by decide) (by decide)
  obtain ⟨hG, hp, -, hn, h32⟩ := h
  rw [w1]
  rw [w2]
  rw [lw_if c1]
  rw [lw_if c2]
  obtain ⟨z, M1, M2, h1, e1, h2, h3, h4⟩ := lw_ints (jT := j_Tv_next) (jM := j_Md_next) (by decide) (by decide) (Or.inl rfl) hp (np_cons np_r0 (np_cons np_i (np_cons np_i (fun w hw => by cases hw)))) (np_cons np_r504 (np_cons np_i (np_cons np_i (fun w hw => by cases hw)))) (show AG M (n + 1) (am_m am_P (d + 21) j_Tv_next [am_r 5 0, am_i (M 517 (i + 1)), am_i (M 517 (i + 2))] M) (am_m am_P (d + 21) j_Md_next [am_r 6 504, am_i (M 517 (i + 1)), am_i (M 517 (i + 2))]) from J_next (d + 1) hG _ _)
  rw [h1, bI_som]
  (try dsimp only)
  rw [e1]
  rw [lw_if c1]
  rw [lw_if c2]
  rw [h2, bI_som]
  (try dsimp only)
  rw [if_pos rfl]
  exact ⟨M2, rfl, h3, h4⟩
set_option maxHeartbeats 1000000 in
theorem lw_needs (d : Nat) {M : am_M} {i n : Int} (h : lw_H M i n) : lw_G (d + 21) M i n (am_at am_P (d + 21) j_Lw_law 1992 [am_r 21 517, am_r 5 0, am_r 6 504, am_i i] [] M) := by
  rw [E_Lw_law_1992]
  obtain ⟨w1, c1⟩ := lw_wr h (k := 1) (by decide) (by decide)
  obtain ⟨w2, c2⟩ := lw_wr h (k := 2) (by decide) (by decide)
  obtain ⟨w3, c3⟩ := lw_wr h (k := 3) (by decide) (by decide)
  obtain ⟨w4, c4⟩ := lw_wr h (k := 4) (by decide) (by decide)
  obtain ⟨hG, hp, -, hn, h32⟩ := h
  rw [w1]
  rw [w2]
  rw [w3]
  rw [w4]
  rw [lw_if c1]
  rw [lw_if c2]
  rw [lw_if c3]
  rw [lw_if c4]
  obtain ⟨z, M1, M2, h1, e1, h2, h3, h4⟩ := lw_ints (jT := j_Tv_needs) (jM := j_Md_needs) (by decide) (by decide) (Or.inl rfl) hp (np_cons np_r0 (np_cons np_i (np_cons np_i (np_cons np_i (np_cons np_i (fun w hw => by cases hw)))))) (np_cons np_r504 (np_cons np_i (np_cons np_i (np_cons np_i (np_cons np_i (fun w hw => by cases hw)))))) (show AG M (n + 1) (am_m am_P (d + 21) j_Tv_needs [am_r 5 0, am_i (M 517 (i + 1)), am_i (M 517 (i + 2)), am_i (M 517 (i + 3)), am_i (M 517 (i + 4))] M) (am_m am_P (d + 21) j_Md_needs [am_r 6 504, am_i (M 517 (i + 1)), am_i (M 517 (i + 2)), am_i (M 517 (i + 3)), am_i (M 517 (i + 4))]) from J_needs (d + 1) hG _ _ _ _)
  rw [h1, bI_som]
  (try dsimp only)
  rw [e1]
  rw [lw_if c1]
  rw [lw_if c2]
  rw [lw_if c3]
  rw [lw_if c4]
  rw [h2, bI_som]
  (try dsimp only)
  rw [if_pos rfl]
  exact ⟨M2, rfl, h3, h4⟩
set_option maxHeartbeats 1000000 in
theorem lw_saved (d : Nat) {M : am_M} {i n : Int} (h : lw_H M i n) : lw_G (d + 21) M i n (am_at am_P (d + 21) j_Lw_law 2045 [am_r 21 517, am_r 5 0, am_r 6 504, am_i i] [] M) := by
  rw [E_Lw_law_2045]
  obtain ⟨hG, hp, -, hn, h32⟩ := h
  obtain ⟨z, M1, M2, h1, e1, h2, h3, h4⟩ := lw_ints (jT := j_Tv_saved) (jM := j_Md_saved) (by decide) (by decide) (Or.inl rfl) hp (np_cons np_r0 (fun w hw => by cases hw)) (np_cons np_r504 (fun w hw => by cases hw)) (show AG M (n + 1) (am_m am_P (d + 21) j_Tv_saved [am_r 5 0] M) (am_m am_P (d + 21) j_Md_saved [am_r 6 504]) from J_saved (d + 1) hG)
  rw [h1, bI_som]
  (try dsimp only)
  rw [h2, bI_som]
  (try dsimp only)
  rw [if_pos rfl]
  exact ⟨M2, rfl, h3, h4⟩
set_option maxHeartbeats 1000000 in
theorem lw_full (d : Nat) {M : am_M} {i n : Int} (h : lw_H M i n) : lw_G (d + 21) M i n (am_at am_P (d + 21) j_Lw_law 2058 [am_r 21 517, am_r 5 0, am_r 6 504, am_i i] [] M) := by
  rw [E_Lw_law_2058]
  obtain ⟨w1, c1⟩ := lw_wr h (k := 1) (by decide) (by decide)
  obtain ⟨hG, hp, -, hn, h32⟩ := h
  rw [w1]
  rw [lw_if c1]
  obtain ⟨z, M1, M2, h1, e1, h2, h3, h4⟩ := lw_ints (jT := j_Tv_full) (jM := j_Md_full) (by decide) (by decide) (Or.inl rfl) hp (np_cons np_r0 (np_cons np_i (fun w hw => by cases hw))) (np_cons np_r504 (np_cons np_i (fun w hw => by cases hw))) (show AG M (n + 1) (am_m am_P (d + 21) j_Tv_full [am_r 5 0, am_i (M 517 (i + 1))] M) (am_m am_P (d + 21) j_Md_full [am_r 6 504, am_i (M 517 (i + 1))]) from J_full (d + 1) hG _)
  rw [h1, bI_som]
  (try dsimp only)
  rw [e1]
  rw [lw_if c1]
  rw [h2, bI_som]
  (try dsimp only)
  rw [if_pos rfl]
  exact ⟨M2, rfl, h3, h4⟩
set_option maxHeartbeats 1000000 in
theorem lw_mean (d : Nat) {M : am_M} {i n : Int} (h : lw_H M i n) : lw_G (d + 21) M i n (am_at am_P (d + 21) j_Lw_law 2081 [am_r 21 517, am_r 5 0, am_r 6 504, am_i i] [] M) := by
  rw [E_Lw_law_2081]
  obtain ⟨w1, c1⟩ := lw_wr h (k := 1) (by decide) (by decide)
  obtain ⟨hG, hp, -, hn, h32⟩ := h
  rw [w1]
  rw [lw_if c1]
  obtain ⟨z, M1, M2, h1, e1, h2, h3, h4⟩ := lw_longs (jT := j_Tv_mean) (jM := j_Md_mean) (by decide) (by decide) rfl hp (np_cons np_r0 (np_cons np_i (fun w hw => by cases hw))) (np_cons np_r504 (np_cons np_i (fun w hw => by cases hw))) (show AG M (n + 1) (am_m am_P (d + 21) j_Tv_mean [am_r 5 0, am_i (M 517 (i + 1))] M) (am_m am_P (d + 21) j_Md_mean [am_r 6 504, am_i (M 517 (i + 1))]) from J_mean (d + 1) hG _)
  rw [h1, bL_som]
  (try dsimp only)
  rw [e1]
  rw [lw_if c1]
  rw [h2, bL_som]
  (try dsimp only)
  rw [if_pos (cmp_self z)]
  exact ⟨M2, rfl, h3, h4⟩
set_option maxHeartbeats 1000000 in
theorem lw_digest (d : Nat) {M : am_M} {i n : Int} (h : lw_H M i n) : lw_G (d + 21) M i n (am_at am_P (d + 21) j_Lw_law 2105 [am_r 21 517, am_r 5 0, am_r 6 504, am_i i] [] M) := by
  rw [E_Lw_law_2105]
  obtain ⟨w1, c1⟩ := lw_wr h (k := 1) (by decide) (by decide)
  obtain ⟨hG, hp, -, hn, h32⟩ := h
  rw [w1]
  rw [lw_if c1]
  obtain ⟨z, M1, M2, h1, e1, h2, h3, h4⟩ := lw_ints (jT := j_Tv_digest) (jM := j_Md_digest) (by decide) (by decide) (Or.inl rfl) hp (np_cons np_r0 (np_cons np_i (fun w hw => by cases hw))) (np_cons np_r504 (np_cons np_i (fun w hw => by cases hw))) (show AG M (n + 1) (am_m am_P (d + 21) j_Tv_digest [am_r 5 0, am_i (M 517 (i + 1))] M) (am_m am_P (d + 21) j_Md_digest [am_r 6 504, am_i (M 517 (i + 1))]) from J_digest (d + 1) hG _)
  rw [h1, bI_som]
  (try dsimp only)
  rw [e1]
  rw [lw_if c1]
  rw [h2, bI_som]
  (try dsimp only)
  rw [if_pos rfl]
  exact ⟨M2, rfl, h3, h4⟩
set_option maxHeartbeats 1000000 in
theorem lw_image (d : Nat) {M : am_M} {i n : Int} (h : lw_H M i n) : lw_G (d + 21) M i n (am_at am_P (d + 21) j_Lw_law 2128 [am_r 21 517, am_r 5 0, am_r 6 504, am_i i] [] M) := by
  rw [E_Lw_law_2128]
  obtain ⟨hG, hp, -, hn, h32⟩ := h
  obtain ⟨z, M1, M2, h1, e1, h2, h3, h4⟩ := lw_ints (jT := j_Tv_image) (jM := j_Md_image) (by decide) (by decide) (Or.inl rfl) hp (np_cons np_r0 (fun w hw => by cases hw)) (np_cons np_r504 (fun w hw => by cases hw)) (show AG M (n + 1) (am_m am_P (d + 21) j_Tv_image [am_r 5 0] M) (am_m am_P (d + 21) j_Md_image [am_r 6 504]) from J_image (d + 1) hG)
  rw [h1, bI_som]
  (try dsimp only)
  rw [h2, bI_som]
  (try dsimp only)
  rw [if_pos rfl]
  exact ⟨M2, rfl, h3, h4⟩
set_option maxHeartbeats 1000000 in
theorem lw_back (d : Nat) {M : am_M} {i n : Int} (h : lw_H M i n) : lw_G (d + 21) M i n (am_at am_P (d + 21) j_Lw_law 2141 [am_r 21 517, am_r 5 0, am_r 6 504, am_i i] [] M) := by
  rw [E_Lw_law_2141]
  obtain ⟨hG, hp, -, hn, h32⟩ := h
  obtain ⟨z, M1, M2, h1, e1, h2, h3, h4⟩ := lw_ints (jT := j_Tv_back) (jM := j_Md_back) (by decide) (by decide) (Or.inl rfl) hp (np_cons np_r0 (fun w hw => by cases hw)) (np_cons np_r504 (fun w hw => by cases hw)) (show AG M (n + 1) (am_m am_P (d + 21) j_Tv_back [am_r 5 0] M) (am_m am_P (d + 21) j_Md_back [am_r 6 504]) from J_back (d + 1) hG)
  rw [h1, bI_som]
  (try dsimp only)
  rw [h2, bI_som]
  (try dsimp only)
  rw [if_pos rfl]
  exact ⟨M2, rfl, h3, h4⟩
set_option maxHeartbeats 1000000 in
theorem lw_steps (d : Nat) {M : am_M} {i n : Int} (h : lw_H M i n) : lw_G (d + 21) M i n (am_at am_P (d + 21) j_Lw_law 2154 [am_r 21 517, am_r 5 0, am_r 6 504, am_i i] [] M) := by
  rw [E_Lw_law_2154]
  obtain ⟨hG, hp, -, hn, h32⟩ := h
  obtain ⟨z, M1, M2, h1, e1, h2, h3, h4⟩ := lw_ints (jT := j_Tv_steps) (jM := j_Md_steps) (by decide) (by decide) (Or.inl rfl) hp (np_cons np_r0 (fun w hw => by cases hw)) (np_cons np_r504 (fun w hw => by cases hw)) (show AG M (n + 1) (am_m am_P (d + 21) j_Tv_steps [am_r 5 0] M) (am_m am_P (d + 21) j_Md_steps [am_r 6 504]) from J_steps (d + 1) hG)
  rw [h1, bI_som]
  (try dsimp only)
  rw [h2, bI_som]
  (try dsimp only)
  rw [if_pos rfl]
  exact ⟨M2, rfl, h3, h4⟩
set_option maxHeartbeats 4000000 in
set_option maxRecDepth 20000 in
theorem lw_cases (d : Nat) {M : am_M} {i n : Int} (h : lw_H M i n) : lw_G (d + 21) M i n (am_at am_P (d + 21) j_Lw_law 18 [am_r 21 517, am_r 5 0, am_r 6 504, am_i i] [] M) := by
  obtain ⟨w7, -⟩ : am_wr (M 517 (-1) - 7) = M 517 (-1) - 7 ∧ True := ⟨wr_id (by have := h.2.2.1; omega) (by have := h.2.2.1; omega), trivial⟩
  rw [E_Lw_law_18, w7, if_neg (by have := h.2.2.1; omega), lw_if (by have := h.2.2.1; omega)]
  by_cases q0 : am_and (M 517 i) 63 = 0
  · rw [if_pos q0]; exact lw_make d h
  rw [if_neg q0]; clear q0
  by_cases q1 : am_and (M 517 i) 63 = 1
  · rw [if_pos q1]; exact lw_take d h
  rw [if_neg q1]; clear q1
  by_cases q2 : am_and (M 517 i) 63 = 2
  · rw [if_pos q2]; exact lw_write d h
  rw [if_neg q2]; clear q2
  by_cases q3 : am_and (M 517 i) 63 = 3
  · rw [if_pos q3]; exact lw_wipe d h
  rw [if_neg q3]; clear q3
  by_cases q4 : am_and (M 517 i) 63 = 4
  · rw [if_pos q4]; exact lw_bring d h
  rw [if_neg q4]; clear q4
  by_cases q5 : am_and (M 517 i) 63 = 5
  · rw [if_pos q5]; exact lw_size d h
  rw [if_neg q5]; clear q5
  by_cases q6 : am_and (M 517 i) 63 = 6
  · rw [if_pos q6]; exact lw_quota d h
  rw [if_neg q6]; clear q6
  by_cases q7 : am_and (M 517 i) 63 = 7
  · rw [if_pos q7]; exact lw_share d h
  rw [if_neg q7]; clear q7
  by_cases q8 : am_and (M 517 i) 63 = 8
  · rw [if_pos q8]; exact lw_graft d h
  rw [if_neg q8]; clear q8
  by_cases q9 : am_and (M 517 i) 63 = 9
  · rw [if_pos q9]; exact lw_fill d h
  rw [if_neg q9]; clear q9
  by_cases q10 : am_and (M 517 i) 63 = 10
  · rw [if_pos q10]; exact lw_reserve d h
  rw [if_neg q10]; clear q10
  by_cases q11 : am_and (M 517 i) 63 = 11
  · rw [if_pos q11]; exact lw_hold d h
  rw [if_neg q11]; clear q11
  by_cases q12 : am_and (M 517 i) 63 = 12
  · rw [if_pos q12]; exact lw_prune d h
  rw [if_neg q12]; clear q12
  by_cases q13 : am_and (M 517 i) 63 = 13
  · rw [if_pos q13]; exact lw_send d h
  rw [if_neg q13]; clear q13
  by_cases q14 : am_and (M 517 i) 63 = 14
  · rw [if_pos q14]; exact lw_receive d h
  rw [if_neg q14]; clear q14
  by_cases q15 : am_and (M 517 i) 63 = 15
  · rw [if_pos q15]; exact lw_move d h
  rw [if_neg q15]; clear q15
  by_cases q16 : am_and (M 517 i) 63 = 16
  · rw [if_pos q16]; exact lw_swap d h
  rw [if_neg q16]; clear q16
  by_cases q17 : am_and (M 517 i) 63 = 17
  · rw [if_pos q17]; exact lw_stage d h
  rw [if_neg q17]; clear q17
  by_cases q18 : am_and (M 517 i) 63 = 18
  · rw [if_pos q18]; exact lw_commit d h
  rw [if_neg q18]; clear q18
  by_cases q19 : am_and (M 517 i) 63 = 19
  · rw [if_pos q19]; exact lw_merge d h
  rw [if_neg q19]; clear q19
  by_cases q20 : am_and (M 517 i) 63 = 20
  · rw [if_pos q20]; exact lw_fold d h
  rw [if_neg q20]; clear q20
  by_cases q21 : am_and (M 517 i) 63 = 21
  · rw [if_pos q21]; exact lw_free d h
  rw [if_neg q21]; clear q21
  by_cases q22 : am_and (M 517 i) 63 = 22
  · rw [if_pos q22]; exact lw_like d h
  rw [if_neg q22]; clear q22
  by_cases q23 : am_and (M 517 i) 63 = 23
  · rw [if_pos q23]; exact lw_spoil d h
  rw [if_neg q23]; clear q23
  by_cases q24 : am_and (M 517 i) 63 = 24
  · rw [if_pos q24]; exact lw_mend d h
  rw [if_neg q24]; clear q24
  by_cases q25 : am_and (M 517 i) 63 = 25
  · rw [if_pos q25]; exact lw_close d h
  rw [if_neg q25]; clear q25
  by_cases q26 : am_and (M 517 i) 63 = 26
  · rw [if_pos q26]; exact lw_undo d h
  rw [if_neg q26]; clear q26
  by_cases q27 : am_and (M 517 i) 63 = 27
  · rw [if_pos q27]; exact lw_is d h
  rw [if_neg q27]; clear q27
  by_cases q28 : am_and (M 517 i) 63 = 28
  · rw [if_pos q28]; exact lw_of d h
  rw [if_neg q28]; clear q28
  by_cases q29 : am_and (M 517 i) 63 = 29
  · rw [if_pos q29]; exact lw_read d h
  rw [if_neg q29]; clear q29
  by_cases q30 : am_and (M 517 i) 63 = 30
  · rw [if_pos q30]; exact lw_block d h
  rw [if_neg q30]; clear q30
  by_cases q31 : am_and (M 517 i) 63 = 31
  · rw [if_pos q31]; exact lw_ofBlock d h
  rw [if_neg q31]; clear q31
  by_cases q32 : am_and (M 517 i) 63 = 32
  · rw [if_pos q32]; exact lw_ofPart d h
  rw [if_neg q32]; clear q32
  by_cases q33 : am_and (M 517 i) 63 = 33
  · rw [if_pos q33]; exact lw_place d h
  rw [if_neg q33]; clear q33
  by_cases q34 : am_and (M 517 i) 63 = 34
  · rw [if_pos q34]; exact lw_owners d h
  rw [if_neg q34]; clear q34
  by_cases q35 : am_and (M 517 i) 63 = 35
  · rw [if_pos q35]; exact lw_wrong d h
  rw [if_neg q35]; clear q35
  by_cases q36 : am_and (M 517 i) 63 = 36
  · rw [if_pos q36]; exact lw_differs d h
  rw [if_neg q36]; clear q36
  by_cases q37 : am_and (M 517 i) 63 = 37
  · rw [if_pos q37]; exact lw_walked d h
  rw [if_neg q37]; clear q37
  by_cases q38 : am_and (M 517 i) 63 = 38
  · rw [if_pos q38]; exact lw_changed d h
  rw [if_neg q38]; clear q38
  by_cases q39 : am_and (M 517 i) 63 = 39
  · rw [if_pos q39]; exact lw_frees d h
  rw [if_neg q39]; clear q39
  by_cases q40 : am_and (M 517 i) 63 = 40
  · rw [if_pos q40]; exact lw_heaviest d h
  rw [if_neg q40]; clear q40
  by_cases q41 : am_and (M 517 i) 63 = 41
  · rw [if_pos q41]; exact lw_path d h
  rw [if_neg q41]; clear q41
  by_cases q42 : am_and (M 517 i) 63 = 42
  · rw [if_pos q42]; exact lw_find d h
  rw [if_neg q42]; clear q42
  by_cases q43 : am_and (M 517 i) 63 = 43
  · rw [if_pos q43]; exact lw_times d h
  rw [if_neg q43]; clear q43
  by_cases q44 : am_and (M 517 i) 63 = 44
  · rw [if_pos q44]; exact lw_counted d h
  rw [if_neg q44]; clear q44
  by_cases q45 : am_and (M 517 i) 63 = 45
  · rw [if_pos q45]; exact lw_hottest d h
  rw [if_neg q45]; clear q45
  by_cases q46 : am_and (M 517 i) 63 = 46
  · rw [if_pos q46]; exact lw_leaves d h
  rw [if_neg q46]; clear q46
  by_cases q47 : am_and (M 517 i) 63 = 47
  · rw [if_pos q47]; exact lw_parts d h
  rw [if_neg q47]; clear q47
  by_cases q48 : am_and (M 517 i) 63 = 48
  · rw [if_pos q48]; exact lw_staged d h
  rw [if_neg q48]; clear q48
  by_cases q49 : am_and (M 517 i) 63 = 49
  · rw [if_pos q49]; exact lw_stream d h
  rw [if_neg q49]; clear q49
  by_cases q50 : am_and (M 517 i) 63 = 50
  · rw [if_pos q50]; exact lw_children d h
  rw [if_neg q50]; clear q50
  by_cases q51 : am_and (M 517 i) 63 = 51
  · rw [if_pos q51]; exact lw_nearest d h
  rw [if_neg q51]; clear q51
  by_cases q52 : am_and (M 517 i) 63 = 52
  · rw [if_pos q52]; exact lw_run d h
  rw [if_neg q52]; clear q52
  by_cases q53 : am_and (M 517 i) 63 = 53
  · rw [if_pos q53]; exact lw_next d h
  rw [if_neg q53]; clear q53
  by_cases q54 : am_and (M 517 i) 63 = 54
  · rw [if_pos q54]; exact lw_needs d h
  rw [if_neg q54]; clear q54
  by_cases q55 : am_and (M 517 i) 63 = 55
  · rw [if_pos q55]; exact lw_saved d h
  rw [if_neg q55]; clear q55
  by_cases q56 : am_and (M 517 i) 63 = 56
  · rw [if_pos q56]; exact lw_full d h
  rw [if_neg q56]; clear q56
  by_cases q57 : am_and (M 517 i) 63 = 57
  · rw [if_pos q57]; exact lw_mean d h
  rw [if_neg q57]; clear q57
  by_cases q58 : am_and (M 517 i) 63 = 58
  · rw [if_pos q58]; exact lw_digest d h
  rw [if_neg q58]; clear q58
  by_cases q59 : am_and (M 517 i) 63 = 59
  · rw [if_pos q59]; exact lw_image d h
  rw [if_neg q59]; clear q59
  by_cases q60 : am_and (M 517 i) 63 = 60
  · rw [if_pos q60]; exact lw_back d h
  rw [if_neg q60]; clear q60
  by_cases q61 : am_and (M 517 i) 63 = 61
  · rw [if_pos q61]; exact lw_steps d h
  rw [if_neg q61]; clear q61
  exact ⟨M, rfl, h.1.next, h.2.1⟩
/-- the loop, from its head on -/
theorem lw_loop (d : Nat) : ∀ (N : Nat) (n : Int) (M : am_M), GR M n → np_m (M 517) M → 0 ≤ M 517 (-1) ∧ M 517 (-1) ≤ 3584 → 0 ≤ n → n ≤ 512 → 3584 ≤ 7 * (n + N) → (∀ j, am_32 (M 517 j)) → ∃ M', am_at am_P (d + 21) j_Lw_law 18 [am_r 21 517, am_r 5 0, am_r 6 504, am_i (7 * n)] [] M = some (some (am_i 1), M') := by
  intro N
  induction N with
  | zero =>
    intro n M hG hp hL h0 h512 hN h32
    refine ⟨M, ?_⟩
    rw [E_Lw_law_18, wr_id (by omega) (by omega), if_pos (by omega), lw_if (Or.inr rfl)]
  | succ N ih =>
    intro n M hG hp hL h0 h512 hN h32
    by_cases hi : M 517 (-1) - 7 < 7 * n
    · refine ⟨M, ?_⟩
      rw [E_Lw_law_18, wr_id (by omega) (by omega), if_pos hi, lw_if (Or.inr rfl)]
    · obtain ⟨M2, e, hG2, hp2⟩ := lw_cases d (M := M) (i := 7 * n) (n := n) ⟨hG, hp, ⟨by omega, by omega, hL.2⟩, by omega, h32⟩
      have e517 : M2 517 = M 517 := hp2.1
      obtain ⟨M', h'⟩ := ih (n + 1) M2 hG2 (by rw [e517]; exact hp2) (by rw [e517]; exact hL) (by omega) (by omega) (by omega) (by rw [e517]; exact h32)
      refine ⟨M', ?_⟩
      rw [e, E_Lw_law_2167]
      show am_at am_P (d + 21) j_Lw_law 18 [am_r 21 517, am_r 5 0, am_r 6 504, am_i (am_wr (7 * n + 7))] [] M2 = _
      rw [wr_id (by omega) (by omega), show 7 * n + 7 = 7 * (n + 1) by omega]
      exact h'
