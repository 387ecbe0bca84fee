/-! THE WORLD of a memory, and the small machine over the kit's rows -/
def am_sb (o : Nat) : Nat := match o with
  | 0 => 4
  | 1 => 2
  | 2 => 10
  | 3 => 11
  | 4 => 12
  | 5 => 13
  | 8 => 15
  | _ => 14
/-- the tag of a cell -/
def am_tg (i : Nat) : Nat :=
  if i = 0 then 5 else if i < 29 then am_sb ((i - 1) % 14) else if i = 29 then 1 else if i = 30 then 16 else if i < 255 then am_sb ((i - 31) % 14) else if i < 269 then am_sb (i - 255) else if i = 269 then 1 else if i = 270 then 16 else if i < 495 then am_sb ((i - 271) % 14) else
  ([3, 17, 17, 7, 18, 18, 0, 17, 11, 6, 19, 19, 20, 10, 12, 10, 12, 17, 17, 17, 18, 18, 21] : List Nat).getD (i - 495) 99
def am_nf (t : Nat) : Nat := ([3, 2, 4, 3, 12, 9, 20, 3] : List Nat).getD t 0
/-- addresses, classes, the three array classes, the script -/
abbrev am_G : Type := (Nat → Nat) × va_G × (ClassId × ClassId × ClassId) × (Nat → Int32) × Nat
def am_fv (g : am_G) (M : am_M) (t i k : Nat) : Value := match am_fk (am_cl t) k with
  | 1 => .ref (g.1 (M i k).toNat)
  | 2 => .ref (g.1 (i + (am_ly t k).2))
  | _ => .int (Int32.ofInt (M i k))
def am_ce (g : am_G) (M : am_M) (i : Nat) : va_E := match am_ar (am_tg i) with
  | some q => match q.1 with
    | 0 => .inl (g.2.2.1.1, q.2.toNat, .inl (fun j => Int32.ofInt (M i j)))
    | 1 => .inl (g.2.2.1.2.1, q.2.toNat, .inl (fun j => Int32.ofInt (M i j)))
    | _ => .inl (g.2.2.1.2.2, q.2.toNat, .inr (.inr (.inr (.inr (fun j => some (g.1 (M i j).toNat))))))
  | none => .inr (am_cl (am_tg i), (List.range (am_nf (am_tg i))).map (am_fv g M (am_tg i) i))
def am_wd (g : am_G) (M : am_M) : va_W := (List.range 517).map (fun i => (g.1 i, am_ce g M i))
abbrev am_ty (g : am_G) : List (ClassId × FieldType) := [(g.2.2.1.1, .int), (g.2.2.1.2.1, .boolean), (g.2.2.1.2.2, .object "ThinVolumes$State")]
def am_32 (z : Int) : Prop := -2147483648 ≤ z ∧ z < 2147483648
def am_okV (v : am_V) : Prop := match v with
  | .inl z => am_32 z
  | .inr (.inl q) => q.2 ≤ 517 ∧ am_tg q.2 = q.1
  | _ => True
abbrev am_okL (l : List am_V) : Prop := ∀ v ∈ l, am_okV v
def am_okM (g : am_G) (M : am_M) : Prop := (∀ i j, am_32 (M i j)) ∧ (0 ≤ M 0 1 ∧ (M 0 1).toNat ≤ 517 ∧ am_tg (M 0 1).toNat = 4) ∧ (∀ i, am_tg i = 16 → ∀ j, 0 ≤ j → j < 16 → 0 ≤ M i j ∧ (M i j).toNat ≤ 517 ∧ am_tg (M i j).toNat = 4) ∧ (∀ i, am_tg i = 15 → ∀ j, M i j = 0 ∨ M i j = 1) ∧ M 517 (-1) = g.2.2.2.2 ∧ ∀ j : Nat, j < g.2.2.2.2 → M 517 j = (g.2.2.2.1 j).toInt
def am_cv (g : am_G) (v : am_V) : Value := match v with
  | .inl z => .int (Int32.ofInt z)
  | .inr (.inl q) => .ref (g.1 q.2)
  | .inr (.inr (.inl x)) => .long x
  | .inr (.inr (.inr (.inl x))) => .float x
  | .inr (.inr (.inr (.inr (.inl x)))) => .double x
  | .inr (.inr (.inr (.inr (.inr _)))) => .null
/-- what is known of the locals -/
def am_hl (g : am_G) (as : Array Slot) (nL : Nat) (ls : List am_V) : Prop := as.size = nL ∧ lv_wf as ∧ ls.length = nL ∧ ∀ n, am_lg ls n ≠ am_u → as[n]? = some (.val (am_cv g (am_lg ls n)))
def am_gok (g : am_G) : Prop := ∀ i j, i ≤ 517 → j ≤ 517 → g.1 i = g.1 j → i = j
def am_A (g : am_G) : Nat → Prop := fun q => ∃ i, i < 517 ∧ q = g.1 i
/-! numbers -/
theorem am_of_wr (z : Int) : Int32.ofInt (am_wr z) = Int32.ofInt z := by
  apply Int32.toInt_inj.mp
  rw [Int32.toInt_ofInt, Int32.toInt_ofInt]
  unfold am_wr
  simp only [Int.bmod_def, show ((Int32.size : Nat) : Int) = 4294967296 from rfl]
  omega
theorem am_wr_32 (z : Int) : am_32 (am_wr z) := by
  unfold am_32 am_wr
  omega
theorem am_to_of {z : Int} (h : am_32 z) : (Int32.ofInt z).toInt = z := by
  rw [Int32.toInt_ofInt]
  unfold am_32 at h
  simp only [Int.bmod_def, show ((Int32.size : Nat) : Int) = 4294967296 from rfl]
  omega
theorem am_of_to (x : Int32) : Int32.ofInt x.toInt = x := Int32.ofInt_toInt x
theorem am_to_32 (x : Int32) : am_32 x.toInt := by
  have h1 := Int32.le_toInt x
  have h2 := Int32.toInt_lt x
  unfold am_32
  omega
theorem am_eq_iff {x y : Int} (hx : am_32 x) (hy : am_32 y) : Int32.ofInt x = Int32.ofInt y ↔ x = y := by
  constructor
  · intro h
    have := congrArg Int32.toInt h
    rwa [am_to_of hx, am_to_of hy] at this
  · intro h
    rw [h]
theorem am_lt_iff {x y : Int} (hx : am_32 x) (hy : am_32 y) : Int32.ofInt x < Int32.ofInt y ↔ x < y := by
  rw [Int32.lt_iff_toInt_lt, am_to_of hx, am_to_of hy]
theorem am_le_iff {x y : Int} (hx : am_32 x) (hy : am_32 y) : Int32.ofInt x ≤ Int32.ofInt y ↔ x ≤ y := by
  rw [Int32.le_iff_toInt_le, am_to_of hx, am_to_of hy]
theorem am_nt {z : Int} (h : am_32 z) (h0 : 0 ≤ z) : (((Int32.ofInt z).toNatClampNeg : Nat) : Int) = z := by
  show (((Int32.ofInt z).toInt.toNat : Nat) : Int) = z
  rw [am_to_of h]
  omega
theorem am_vin {z n : Int} (h : am_32 z) (h0 : 0 ≤ z) (hn : z < n) : vp_in (Int32.ofInt z) n.toNat := by
  rw [vp_in_iff, am_to_of h]
  omega
theorem am_0 : Int32.ofInt 0 = 0 := rfl
theorem am_32_0 : am_32 0 := by unfold am_32; omega
/-! the cells -/
theorem wd_at (g : am_G) (M : am_M) {i : Nat} (h : i < 517) : (am_wd g M)[i]? = some (g.1 i, am_ce g M i) := by
  unfold am_wd
  rw [List.getElem?_map, List.getElem?_range h]
  rfl
theorem ce_off (g : am_G) {M M' : am_M} {i : Nat} (h : M' i = M i) : am_ce g M' i = am_ce g M i := by
  have h2 : am_fv g M' (am_tg i) i = am_fv g M (am_tg i) i := by
    funext k
    unfold am_fv
    rw [h]
  unfold am_ce
  rw [h2, h]
theorem wd_set (g : am_G) (M : am_M) {i : Nat} (f : Int → Int) (hi : i < 517) : am_wd g (am_st M i f) = (am_wd g M).set i (g.1 i, am_ce g (am_st M i f) i) := by
  apply List.ext_getElem?
  intro k
  by_cases hk : k < 517
  · rw [wd_at g _ hk]
    by_cases hki : k = i
    · subst hki
      rw [List.getElem?_set_self (by simp [am_wd]; exact hk)]
    · rw [List.getElem?_set_ne (fun q => hki q.symm), wd_at g _ hk, ce_off g (M := M) (by simp [am_st, hki])]
  · have h1 : (am_wd g (am_st M i f)).length ≤ k := by simp [am_wd]; omega
    have h2 : ((am_wd g M).set i (g.1 i, am_ce g (am_st M i f) i)).length ≤ k := by simp [am_wd]; omega
    rw [List.getElem?_eq_none h1, List.getElem?_eq_none h2]
theorem wd_D (g : am_G) (M : am_M) {A : Nat → Prop} (hg : am_gok g) (hA : ∀ i, i < 517 → A (g.1 i)) : va_D A (am_wd g M) := by
  have hlt : ∀ {k : Nat} {q : Nat × va_E}, (am_wd g M)[k]? = some q → k < 517 ∧ q.1 = g.1 k := by
    intro k q h
    have hk : k < 517 := by
      have := (List.getElem?_eq_some_iff.mp h).1
      simpa [am_wd] using this
    rw [wd_at g M hk] at h
    cases h
    exact ⟨hk, rfl⟩
  refine ⟨fun i j p q hi hj hpq => ?_, fun k q h => ?_⟩
  · obtain ⟨h1, h2⟩ := hlt hi
    obtain ⟨h3, h4⟩ := hlt hj
    exact hg i j (by omega) (by omega) (by rw [← h2, ← h4]; exact hpq)
  · obtain ⟨h1, h2⟩ := hlt h
    rw [h2]
    exact hA k h1
theorem ce_arr (g : am_G) (M : am_M) {i t kd : Nat} {n : Int} (ht : am_tg i = t) (ha : am_ar t = some (kd, n)) (hk : kd < 2) : am_ce g M i = .inl (if kd = 0 then g.2.2.1.1 else g.2.2.1.2.1, n.toNat, .inl (fun j => Int32.ofInt (M i j))) := by
  unfold am_ce
  rw [ht, ha]
  rcases (show kd = 0 ∨ kd = 1 by omega) with rfl | rfl <;> rfl
theorem ce_ref (g : am_G) (M : am_M) {i t : Nat} {n : Int} (ht : am_tg i = t) (ha : am_ar t = some (2, n)) : am_ce g M i = .inl (g.2.2.1.2.2, n.toNat, .inr (.inr (.inr (.inr (fun j => some (g.1 (M i j).toNat)))))) := by
  unfold am_ce
  rw [ht, ha]
  rfl
theorem ce_obj (g : am_G) (M : am_M) {i t : Nat} (ht : am_tg i = t) (ha : am_ar t = none) : am_ce g M i = .inr (am_cl t, (List.range (am_nf t)).map (am_fv g M t i)) := by
  unfold am_ce
  rw [ht, ha]
theorem ar_517 {i t : Nat} {q : Nat × Int} (hi : i ≤ 517) (ht : am_tg i = t) (ha : am_ar t = some q) : i < 517 := by
  rcases Nat.lt_or_ge i 517 with h | h
  · exact h
  · have : i = 517 := by omega
    subst this
    subst ht
    cases ha
/-- a reference that may change or a final one: the layout -/
theorem am_lay_ok : ∀ i, i < 517 → ∀ k, k < am_nf (am_tg i) → am_ar (am_tg i) = none → am_fk (am_cl (am_tg i)) k = 2 → i + (am_ly (am_tg i) k).2 < 517 ∧ am_tg (i + (am_ly (am_tg i) k).2) = (am_ly (am_tg i) k).1 := by decide +kernel
theorem am_tg_ok : ∀ i, i < 517 → am_ar (am_tg i) = none → am_tg i < 8 := by decide +kernel
theorem am_fk5 : ∀ i, i < 518 → am_tg i = 5 → i = 0 := by decide +kernel
theorem am_fk1 : ∀ c, c < 7 → ∀ k, k < 32 → am_fk c k = 1 → c = 5 ∧ k = 1 := by decide +kernel
