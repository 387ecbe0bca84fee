/-! one instruction of the small machine, over the kit's rows -/
def am_Cx (p : Program) (R : Room) (s : State) (m : MethodId) (args : Array Value) (c : Code) (H0 : Heap) (A : Nat → Prop) (cells slots : Nat) (g : am_G) (nL : Nat) (cc : ByteArray) (oc : Nat) : Prop :=
  p.tables.exec = Jvm.exec ∧ c.code = cc ∧ c.maxLocals = nL ∧ s.vm.findClass (am_cn oc) = some m.cls ∧ (∀ w ∈ am_gd, w.before args s = true) ∧ va_K g.2.1 vwCl (am_ty g) s ∧ va_X (g.1 517) g.2.2.2.2 g.2.2.2.1 s H0 ∧ g.1 517 < H0.size ∧ (∀ i, i < 517 → A (g.1 i)) ∧ ¬ A (g.1 517) ∧ (∀ q ∈ am_mn, va_Nw (am_nw q) s) ∧ (cells ≤ R.cells ∧ slots ≤ R.slots ∧ 1 ≤ R.frames ∧ 64 ≤ R.locals) ∧ am_gok g ∧ g.2.2.2.2 ≤ 3584
/-- from pc on, with these locals, this stack, this memory, the machine comes to Q -/
def am_Y (p : Program) (l : Launch) (e : Env) (R : Room) (s : State) (m : MethodId) (args : Array Value) (below : List Frame) (meth : Method) (c : Code) (H0 : Heap) (A : Nat → Prop) (cells slots : Nat) (Q : State → Prop) (g : am_G) (nL : Nat) (pc : Nat) (ls st : List am_V) (M : am_M) : Prop :=
  am_okM g M → am_okL ls → am_okL st → ∀ (H : Heap) (locs : List Loc) (as : Array Slot), va_P g.2.1 vwCl (am_wd g M) H → va_S A H0 H locs → am_hl g as nL ls → W p l e R s m args below meth c H locs cells slots Q (F0 m pc as (st.map (am_cv g)))
theorem okL_cons {v : am_V} {st : List am_V} (hv : am_okV v) (hs : am_okL st) : am_okL (v :: st) := fun w hw => by
  rcases List.mem_cons.mp hw with rfl | h
  · exact hv
  · exact hs w h
theorem okL_app {v st : List am_V} (hv : am_okL v) (hs : am_okL st) : am_okL (v ++ st) := fun w hw => (List.mem_append.mp hw).elim (hv w) (hs w)
theorem lg_ok : ∀ {ls : List am_V} {n : Nat}, am_okL ls → am_okV (am_lg ls n)
  | [], _, _ => trivial
  | v :: _, 0, h => h v (by simp)
  | _ :: l, n + 1, h => lg_ok (ls := l) (n := n) fun w hw => h w (List.mem_cons_of_mem _ hw)
theorem mk_ok : ∀ {ls : List am_V} {n : Nat}, am_okL ls → am_okL (am_mk n ls)
  | [], _, _ => fun w hw => by cases hw
  | v :: l, n, h => by
    unfold am_mk
    refine okL_cons ?_ (mk_ok fun w hw => h w (List.mem_cons_of_mem _ hw))
    by_cases hn : n % 2 = 1
    · rw [if_pos hn]; exact h v (by simp)
    · rw [if_neg hn]; trivial
theorem ms_ok {ls : List am_V} {n : Nat} (h : am_okL ls) : am_okL (am_ms n ls) := by
  unfold am_ms
  by_cases hn : n = 0
  · rw [if_pos hn]; exact h
  · rw [if_neg hn]; exact mk_ok h
theorem mk_len : ∀ (ls : List am_V) (n : Nat), (am_mk n ls).length = ls.length
  | [], _ => rfl
  | _ :: l, n => by simp [am_mk, mk_len l]
theorem mk_lg : ∀ (ls : List am_V) (n k : Nat), am_lg (am_mk n ls) k = am_lg ls k ∨ am_lg (am_mk n ls) k = am_u
  | [], _, _ => Or.inl rfl
  | v :: l, n, 0 => by
    show (if n % 2 = 1 then v else am_u) = v ∨ (if n % 2 = 1 then v else am_u) = am_u
    by_cases hn : n % 2 = 1
    · rw [if_pos hn]; exact Or.inl rfl
    · rw [if_neg hn]; exact Or.inr rfl
  | _ :: l, n, k + 1 => mk_lg l (n / 2) k
theorem hl_ms {g : am_G} {as : Array Slot} {nL : Nat} {ls : List am_V} (n : Nat) (h : am_hl g as nL ls) : am_hl g as nL (am_ms n ls) := by
  unfold am_ms
  by_cases hn : n = 0
  · rw [if_pos hn]; exact h
  · rw [if_neg hn]
    refine ⟨h.1, h.2.1, by rw [mk_len]; exact h.2.2.1, fun k hk => ?_⟩
    rcases mk_lg ls (n / 2) k with e | e
    · rw [e] at hk ⊢; exact h.2.2.2 k hk
    · exact absurd e hk
theorem ls_len : ∀ (ls : List am_V) (n : Nat) (v : am_V), (am_ls ls n v).length = ls.length
  | [], _, _ => rfl
  | _ :: _, 0, _ => rfl
  | _ :: l, n + 1, v => by simp [am_ls, ls_len l n v]
theorem ls_ok : ∀ {ls : List am_V} {n : Nat} {v : am_V}, am_okL ls → am_okV v → am_okL (am_ls ls n v)
  | [], _, _, h, _ => h
  | _ :: _, 0, _, h, hv => okL_cons hv fun w hw => h w (List.mem_cons_of_mem _ hw)
  | w :: l, n + 1, v, h, hv => by
    unfold am_ls
    refine okL_cons ?_ (ls_ok (fun w hw => h w (List.mem_cons_of_mem _ hw)) hv)
    by_cases hn : n = 0 ∧ am_c2 w = true
    · rw [if_pos hn]; trivial
    · rw [if_neg hn]; exact h w (by simp)
/-- a local behind a store: the new value, or what was there and isn't cut -/
theorem ls_lg : ∀ (ls : List am_V) (n : Nat) (v : am_V) (k : Nat), am_lg (am_ls ls n v) k ≠ am_u → (k = n ∧ am_lg (am_ls ls n v) k = v) ∨ (k ≠ n ∧ am_lg (am_ls ls n v) k = am_lg ls k ∧ ¬ (k + 1 = n ∧ am_c2 (am_lg ls k) = true))
  | [], _, _, _, h => absurd rfl h
  | _ :: _, 0, _, 0, _ => Or.inl ⟨rfl, rfl⟩
  | _ :: l, 0, _, k + 1, _ => Or.inr ⟨by omega, rfl, by omega⟩
  | w :: l, n + 1, v, 0, h => by
    have e : am_lg (am_ls (w :: l) (n + 1) v) 0 = if n = 0 ∧ am_c2 w = true then am_u else w := rfl
    rw [e] at h ⊢
    by_cases hn : n = 0 ∧ am_c2 w = true
    · rw [if_pos hn] at h; exact absurd rfl h
    · rw [if_neg hn] at h ⊢
      refine Or.inr ⟨by omega, rfl, fun q => hn ⟨by omega, q.2⟩⟩
  | w :: l, n + 1, v, k + 1, h => by
    rcases ls_lg l n v k h with ⟨h1, h2⟩ | ⟨h1, h2, h3⟩
    · exact Or.inl ⟨by omega, h2⟩
    · exact Or.inr ⟨by omega, h2, fun q => h3 ⟨by omega, q.2⟩⟩
theorem c2_cat (g : am_G) (v : am_V) : (am_cv g v).category = 2 ↔ am_c2 v = true := by
  rcases v with z | q | x | x | x | x <;> simp [am_cv, am_c2, Value.category]
theorem c2_1 (g : am_G) {v : am_V} (h : am_c2 v = false) : (am_cv g v).category = 1 := by
  rcases v with z | q | x | x | x | x <;> simp [am_cv, am_c2, Value.category] at h ⊢
/-- the locals as the kit lists them -/
def am_pr (g : am_G) (ls : List am_V) : List (Nat × Value) := (List.range ls.length).map (fun n => (n, am_cv g (am_lg ls n)))
def am_us (v : am_V) : Bool := match v with
  | .inr (.inr (.inr (.inr (.inr _)))) => true
  | _ => false
theorem us_iff (v : am_V) : am_us v = true ↔ v = am_u := by
  rcases v with z | q | x | x | x | x <;> simp [am_us]
def am_pl (g : am_G) (ls : List am_V) : List (Nat × Value) := ((List.range ls.length).filter (fun n => !am_us (am_lg ls n))).map (fun n => (n, am_cv g (am_lg ls n)))
theorem lg_lt : ∀ {ls : List am_V} {n : Nat}, am_lg ls n ≠ am_u → n < ls.length
  | [], _, h => absurd rfl h
  | _ :: _, 0, _ => by simp
  | _ :: l, n + 1, h => by
    have := lg_lt (ls := l) (n := n) h
    simp; omega
theorem pl_mem {g : am_G} {ls : List am_V} {n : Nat} (h : am_lg ls n ≠ am_u) : (n, am_cv g (am_lg ls n)) ∈ am_pl g ls := by
  refine List.mem_map.mpr ⟨n, List.mem_filter.mpr ⟨List.mem_range.mpr (lg_lt h), ?_⟩, rfl⟩
  cases hu : am_us (am_lg ls n)
  · rfl
  · exact absurd ((us_iff _).mp hu) h
theorem hl_has {g : am_G} {as : Array Slot} {nL : Nat} {ls : List am_V} (h : am_hl g as nL ls) : lv_has as nL (am_pl g ls) := by
  refine ⟨h.1, h.2.1, fun q hq => ?_⟩
  obtain ⟨n, hn, rfl⟩ := List.mem_map.mp hq
  have h2 := (List.mem_filter.mp hn).2
  refine h.2.2.2 n fun q => ?_
  rw [(us_iff _).mpr q] at h2
  cases h2
theorem has_ls {g : am_G} {as as' : Array Slot} {nL n : Nat} {ls : List am_V} {v : am_V} (h : am_hl g as nL ls) (h' : lv_has as' nL ((n, am_cv g v) :: (am_pl g ls).filter (fun q => !(q.1 == n) && !(q.1 + 1 == n && q.2.category == 2)))) : am_hl g as' nL (am_ls ls n v) := by
  refine ⟨h'.1, h'.2.1, by rw [ls_len]; exact h.2.2.1, fun k hk => ?_⟩
  rcases ls_lg ls n v k hk with ⟨rfl, e⟩ | ⟨h1, e, h3⟩
  · rw [e]; exact h'.2.2 (k, am_cv g v) (by simp)
  · rw [e] at hk ⊢
    refine h'.2.2 (k, am_cv g (am_lg ls k)) (List.mem_cons_of_mem _ (List.mem_filter.mpr ⟨pl_mem hk, ?_⟩))
    simp only [Bool.and_eq_true, Bool.not_eq_true', beq_eq_false_iff_ne, Bool.and_eq_false_iff]
    refine ⟨h1, ?_⟩
    by_cases hq : k + 1 = n
    · right
      intro q
      exact h3 ⟨hq, (c2_cat g _).mp q⟩
    · left; exact hq
theorem has_lw {g : am_G} {as as' : Array Slot} {nL n : Nat} {ls : List am_V} {v : am_V} (h : am_hl g as nL ls) (h' : lv_has as' nL ((n, am_cv g v) :: (am_pl g ls).filter (fun q => !(q.1 == n) && (!(q.1 == n + 1) && !(q.1 + 1 == n && q.2.category == 2))))) : am_hl g as' nL (am_lw ls n v) := by
  refine ⟨h'.1, h'.2.1, by unfold am_lw; rw [ls_len, ls_len]; exact h.2.2.1, fun k hk => ?_⟩
  unfold am_lw at hk ⊢
  rcases ls_lg _ n v k hk with ⟨rfl, e⟩ | ⟨h1, e, h3⟩
  · rw [e]; exact h'.2.2 (k, am_cv g v) (by simp)
  · rw [e] at hk ⊢
    rcases ls_lg ls (n + 1) am_u k hk with ⟨rfl, e2⟩ | ⟨h4, e2, h5⟩
    · exact absurd e2 hk
    · rw [e2] at hk h3 ⊢
      refine h'.2.2 (k, am_cv g (am_lg ls k)) (List.mem_cons_of_mem _ (List.mem_filter.mpr ⟨pl_mem hk, ?_⟩))
      simp only [Bool.and_eq_true, Bool.not_eq_true', beq_eq_false_iff_ne, Bool.and_eq_false_iff]
      refine ⟨h1, h4, ?_⟩
      by_cases hq : k + 1 = n
      · right
        intro q
        exact h3 ⟨hq, (c2_cat g _).mp q⟩
      · left; exact hq
section SX
variable {p : Program} {l : Launch} {e : Env} {R : Room} {s : State} {m : MethodId} {args : Array Value} {below : List Frame} {meth : Method} {c : Code} {H0 : Heap} {A : Nat → Prop} {cells slots : Nat} {Q : State → Prop} {g : am_G} {nL : Nat} {cc : ByteArray} {oc pc pc' : Nat} {ls st : List am_V} {M : am_M}
/-- what changes the stack alone -/
theorem sx_gen {vs v : List am_V} (row : ∀ (H : Heap) (locs : List Loc) (as : Array Slot) (rest : List Value), W p l e R s m args below meth c H locs cells slots Q (F0 m pc' as (v.map (am_cv g) ++ rest)) → W p l e R s m args below meth c H locs cells slots Q (F0 m pc as (vs.map (am_cv g) ++ rest))) (hv : am_okL vs → am_okL v) (k : am_Y p l e R s m args below meth c H0 A cells slots Q g nL pc' ls (v ++ st) M) : am_Y p l e R s m args below meth c H0 A cells slots Q g nL pc ls (vs ++ st) M := by
  intro hM hls hst H locs as hP hS hl
  rw [List.map_append]
  refine row H locs as _ ?_
  have := k hM hls (okL_app (hv fun w hw => hst w (List.mem_append_left _ hw)) fun w hw => hst w (List.mem_append_right _ hw)) H locs as hP hS hl
  rwa [List.map_append] at this
theorem sx_load {n : Nat} {v : am_V} (hz : am_lg ls n = v) (hu : v ≠ am_u) (row : ∀ (H : Heap) (locs : List Loc) (as : Array Slot) (rest : List Value), as[n]? = some (.val (am_cv g v)) → W p l e R s m args below meth c H locs cells slots Q (F0 m pc' as (am_cv g v :: rest)) → W p l e R s m args below meth c H locs cells slots Q (F0 m pc as rest)) (k : am_Y p l e R s m args below meth c H0 A cells slots Q g nL pc' ls (v :: st) M) : am_Y p l e R s m args below meth c H0 A cells slots Q g nL pc ls st M := by
  intro hM hls hst H locs as hP hS hl
  have hn := hl.2.2.2 n (by rw [hz]; exact hu)
  rw [hz] at hn
  exact row H locs as _ hn (k hM hls (okL_cons (hz ▸ lg_ok hls) hst) H locs as hP hS hl)
theorem sx_store {n : Nat} {v : am_V} (row : ∀ (H : Heap) (locs : List Loc) (as : Array Slot) (rest : List Value) (lv : List (Nat × Value)), lv_has as nL lv → (∀ as' : Array Slot, lv_has as' nL ((n, am_cv g v) :: lv.filter (fun q => !(q.1 == n) && !(q.1 + 1 == n && q.2.category == 2))) → W p l e R s m args below meth c H locs cells slots Q (F0 m pc' as' rest)) → W p l e R s m args below meth c H locs cells slots Q (F0 m pc as (am_cv g v :: rest))) (k : am_Y p l e R s m args below meth c H0 A cells slots Q g nL pc' (am_ls ls n v) st M) : am_Y p l e R s m args below meth c H0 A cells slots Q g nL pc ls (v :: st) M := by
  intro hM hls hst H locs as hP hS hl
  exact row H locs as _ (am_pl g ls) (hl_has hl) fun as' h' => k hM (ls_ok hls (hst v (by simp))) (fun w hw => hst w (List.mem_cons_of_mem _ hw)) H locs as' hP hS (has_ls hl h')
theorem sx_store2 {n : Nat} {v : am_V} (row : ∀ (H : Heap) (locs : List Loc) (as : Array Slot) (rest : List Value) (lv : List (Nat × Value)), lv_has as nL lv → (∀ as' : Array Slot, lv_has as' nL ((n, am_cv g v) :: lv.filter (fun q => !(q.1 == n) && (!(q.1 == n + 1) && !(q.1 + 1 == n && q.2.category == 2)))) → W p l e R s m args below meth c H locs cells slots Q (F0 m pc' as' rest)) → W p l e R s m args below meth c H locs cells slots Q (F0 m pc as (am_cv g v :: rest))) (k : am_Y p l e R s m args below meth c H0 A cells slots Q g nL pc' (am_lw ls n v) st M) : am_Y p l e R s m args below meth c H0 A cells slots Q g nL pc ls (v :: st) M := by
  intro hM hls hst H locs as hP hS hl
  exact row H locs as _ (am_pl g ls) (hl_has hl) fun as' h' => k hM (ls_ok (ls_ok hls trivial) (hst v (by simp))) (fun w hw => hst w (List.mem_cons_of_mem _ hw)) H locs as' hP hS (has_lw hl h')
theorem sx_iinc (C : am_Cx p R s m args c H0 A cells slots g nL cc oc) {n : Nat} {k z : Int} (hd : decode cc pc = .ok (.iinc n k, 3)) (hn : n < nL) (hz : am_lg ls n = am_i z) (kk : am_Y p l e R s m args below meth c H0 A cells slots Q g nL (pc + 3) (am_ls ls n (am_i (am_wr (z + k)))) st M) : am_Y p l e R s m args below meth c H0 A cells slots Q g nL pc ls st M := by
  intro hM hls hst H locs as hP hS hl
  have hq := hl.2.2.2 n (by rw [hz]; simp)
  rw [hz] at hq
  have hh := hl_has hl
  have h2 : lv_has as nL ((n, .int (Int32.ofInt z)) :: am_pl g ls) := ⟨hh.1, hh.2.1, fun q hq' => by
    rcases List.mem_cons.mp hq' with rfl | h
    · exact hq
    · exact hh.2.2 q h⟩
  refine lv_iinc (k := 0) (x := Int32.ofInt z) (v := Int32.ofInt (am_wr (z + k))) C.1 C.2.1 hd h2 rfl (by rw [am_of_wr, Int32.ofInt_add]) hn rfl fun as' h' => ?_
  refine kk hM (ls_ok hls (am_wr_32 _)) hst H locs as' hP hS (has_ls hl ⟨h'.1, h'.2.1, fun q hq => h'.2.2 q ?_⟩)
  rcases List.mem_cons.mp hq with rfl | h
  · simp [am_cv]
  · refine List.mem_cons_of_mem _ ?_
    rw [List.mem_filter] at h ⊢
    exact ⟨List.mem_cons_of_mem _ h.1, h.2⟩
theorem sx_br (C : am_Cx p R s m args c H0 A cells slots g nL cc oc) {cnd : ClassFile.Cond} {x y : Int} {off : Int} {k1 k2 : Option am_O} {o : am_O} (hd : decode cc pc = .ok (.if_icmp cnd off, 3)) (ht : 0 ≤ (pc : Int) + off) (h : am_br cnd x y k1 k2 = some o) (h1 : k1 = some o → am_Y p l e R s m args below meth c H0 A cells slots Q g nL ((pc : Int) + off).toNat ls st M) (h2 : k2 = some o → am_Y p l e R s m args below meth c H0 A cells slots Q g nL (pc + 3) ls st M) : am_Y p l e R s m args below meth c H0 A cells slots Q g nL pc ls (am_i y :: am_i x :: st) M := by
  intro hM hls hst H locs as hP hS hl
  have hx : am_32 x := hst (am_i x) (by simp)
  have hy : am_32 y := hst (am_i y) (by simp)
  have hst' : am_okL st := fun w hw => hst w (by simp [hw])
  have ht' : (pc : Int) + off = ((((pc : Int) + off).toNat : Nat) : Int) := by omega
  have e1 := am_eq_iff hx hy
  have e2 := am_lt_iff hx hy
  have e3 := am_lt_iff hy hx
  have e4 := am_le_iff hx hy
  have e5 := am_le_iff hy hx
  cases cnd <;> simp only [am_br] at h
  · refine lv_icmp_eq C.1 C.2.1 hd ht' (fun q => h1 ?_ hM hls hst' H locs as hP hS hl) (fun q => h2 ?_ hM hls hst' H locs as hP hS hl)
    · rwa [if_pos (e1.mp q)] at h
    · rwa [if_neg (fun z => q (e1.mpr z))] at h
  · refine lv_icmp_ne C.1 C.2.1 hd ht' (fun q => h1 ?_ hM hls hst' H locs as hP hS hl) (fun q => h2 ?_ hM hls hst' H locs as hP hS hl)
    · rwa [if_neg (fun z => q (e1.mpr z))] at h
    · rwa [if_pos (e1.mp q)] at h
  · refine lv_icmp_lt C.1 C.2.1 hd ht' (fun q => h1 ?_ hM hls hst' H locs as hP hS hl) (fun q => h2 ?_ hM hls hst' H locs as hP hS hl)
    · rwa [if_pos (e2.mp q)] at h
    · rwa [if_neg (fun z => q (e2.mpr z))] at h
  · refine lv_icmp_ge C.1 C.2.1 hd ht' (fun q => h1 ?_ hM hls hst' H locs as hP hS hl) (fun q => h2 ?_ hM hls hst' H locs as hP hS hl)
    · rwa [if_neg (by have := e5.mp q; omega)] at h
    · rwa [if_pos (by have := mt e5.mpr q; omega)] at h
  · refine lv_icmp_gt C.1 C.2.1 hd ht' (fun q => h1 ?_ hM hls hst' H locs as hP hS hl) (fun q => h2 ?_ hM hls hst' H locs as hP hS hl)
    · rwa [if_pos (e3.mp q)] at h
    · rwa [if_neg (fun z => q (e3.mpr z))] at h
  · refine lv_icmp_le C.1 C.2.1 hd ht' (fun q => h1 ?_ hM hls hst' H locs as hP hS hl) (fun q => h2 ?_ hM hls hst' H locs as hP hS hl)
    · rwa [if_neg (by have := e4.mp q; omega)] at h
    · rwa [if_pos (by have := mt e4.mpr q; omega)] at h
theorem sx_br0 (C : am_Cx p R s m args c H0 A cells slots g nL cc oc) {cnd : ClassFile.Cond} {x : Int} {off : Int} {k1 k2 : Option am_O} {o : am_O} (hd : decode cc pc = .ok (.ifCond cnd off, 3)) (ht : 0 ≤ (pc : Int) + off) (h : am_br cnd x 0 k1 k2 = some o) (h1 : k1 = some o → am_Y p l e R s m args below meth c H0 A cells slots Q g nL ((pc : Int) + off).toNat ls st M) (h2 : k2 = some o → am_Y p l e R s m args below meth c H0 A cells slots Q g nL (pc + 3) ls st M) : am_Y p l e R s m args below meth c H0 A cells slots Q g nL pc ls (am_i x :: st) M := by
  intro hM hls hst H locs as hP hS hl
  have hx : am_32 x := hst (am_i x) (by simp)
  have hst' : am_okL st := fun w hw => hst w (by simp [hw])
  have ht' : (pc : Int) + off = ((((pc : Int) + off).toNat : Nat) : Int) := by omega
  have e1 := am_eq_iff hx am_32_0
  have e2 := am_lt_iff hx am_32_0
  have e3 := am_lt_iff am_32_0 hx
  have e4 := am_le_iff hx am_32_0
  have e5 := am_le_iff am_32_0 hx
  rw [am_0] at e1 e2 e3 e4 e5
  cases cnd <;> simp only [am_br] at h
  · refine lv_if_eq C.1 C.2.1 hd ht' (fun q => h1 ?_ hM hls hst' H locs as hP hS hl) (fun q => h2 ?_ hM hls hst' H locs as hP hS hl)
    · rwa [if_pos (e1.mp q)] at h
    · rwa [if_neg (fun z => q (e1.mpr z))] at h
  · refine lv_if_ne C.1 C.2.1 hd ht' (fun q => h1 ?_ hM hls hst' H locs as hP hS hl) (fun q => h2 ?_ hM hls hst' H locs as hP hS hl)
    · rwa [if_neg (fun z => q (e1.mpr z))] at h
    · rwa [if_pos (e1.mp q)] at h
  · refine lv_if_lt C.1 C.2.1 hd ht' (fun q => h1 ?_ hM hls hst' H locs as hP hS hl) (fun q => h2 ?_ hM hls hst' H locs as hP hS hl)
    · rwa [if_pos (e2.mp q)] at h
    · rwa [if_neg (fun z => q (e2.mpr z))] at h
  · refine lv_if_ge C.1 C.2.1 hd ht' (fun q => h1 ?_ hM hls hst' H locs as hP hS hl) (fun q => h2 ?_ hM hls hst' H locs as hP hS hl)
    · rwa [if_neg (by have := e5.mp q; omega)] at h
    · rwa [if_pos (by have := mt e5.mpr q; omega)] at h
  · refine lv_if_gt C.1 C.2.1 hd ht' (fun q => h1 ?_ hM hls hst' H locs as hP hS hl) (fun q => h2 ?_ hM hls hst' H locs as hP hS hl)
    · rwa [if_pos (e3.mp q)] at h
    · rwa [if_neg (fun z => q (e3.mpr z))] at h
  · refine lv_if_le C.1 C.2.1 hd ht' (fun q => h1 ?_ hM hls hst' H locs as hP hS hl) (fun q => h2 ?_ hM hls hst' H locs as hP hS hl)
    · rwa [if_neg (by have := e4.mp q; omega)] at h
    · rwa [if_pos (by have := mt e4.mpr q; omega)] at h
theorem sx_tsw (C : am_Cx p R s m args c H0 A cells slots g nL cc oc) {df lo hi x : Int} {offs : Array Int} {len : Nat} {k : Nat → Option am_O} {o : am_O} (hd : decode cc pc = .ok (.tableswitch df lo hi offs, len)) (hdf : 0 ≤ (pc : Int) + df) (hof : ∀ q ∈ offs.toList, 0 ≤ (pc : Int) + q) (hlen : lo + offs.toList.length = hi + 1) (h : am_sw k pc df x lo offs.toList = some o) (kk : ∀ pc', k pc' = some o → am_Y p l e R s m args below meth c H0 A cells slots Q g nL pc' ls st M) : am_Y p l e R s m args below meth c H0 A cells slots Q g nL pc ls (am_i x :: st) M := by
  intro hM hls hst H locs as hP hS hl
  have hx : am_32 x := hst (am_i x) (by simp)
  have hst' : am_okL st := fun w hw => hst w (by simp [hw])
  have key : ∀ (l : List Int) (lo : Int), am_sw k pc df x lo l = some o → ((x < lo ∨ lo + l.length ≤ x) ∧ k ((pc : Int) + df).toNat = some o) ∨ (lo ≤ x ∧ ∃ q, l[(x - lo).toNat]? = some q ∧ k ((pc : Int) + q).toNat = some o) := by
    intro l
    induction l with
    | nil =>
      intro lo h
      by_cases hq : x < lo
      · exact Or.inl ⟨Or.inl hq, h⟩
      · exact Or.inl ⟨Or.inr (by simp; omega), h⟩
    | cons q l ih =>
      intro lo h
      unfold am_sw at h
      by_cases hq : x = lo
      · rw [if_pos hq] at h
        refine Or.inr ⟨by omega, q, ?_, h⟩
        rw [hq]
        simp
      · rw [if_neg hq] at h
        rcases ih (lo + 1) h with ⟨h1, h2⟩ | ⟨h1, r, h2, h3⟩
        · refine Or.inl ⟨?_, h2⟩
          simp only [List.length_cons]
          omega
        · refine Or.inr ⟨by omega, r, ?_, h3⟩
          have : (x - lo).toNat = (x - (lo + 1)).toNat + 1 := by omega
          rw [this, List.getElem?_cons_succ]
          exact h2
  rcases key offs.toList lo h with ⟨h1, h2⟩ | ⟨h1, q, h2, h3⟩
  · exact lv_tableOut (x := Int32.ofInt x) C.1 C.2.1 hd (by rw [am_to_of hx]; omega) (show _ = ((((pc : Int) + df).toNat : Nat) : Int) by omega) (kk _ h2 hM hls hst' H locs as hP hS hl)
  · have hq0 := hof q (List.mem_of_getElem? h2)
    have hlt := (List.getElem?_eq_some_iff.mp h2).1
    exact lv_tableIn (x := Int32.ofInt x) (off := q) C.1 C.2.1 hd (by rw [am_to_of hx]; omega) (by rw [am_to_of hx]; omega) (by rw [am_to_of hx, ← Array.getElem?_toList]; exact h2) (show _ = ((((pc : Int) + q).toNat : Nat) : Int) by omega) (kk _ h3 hM hls hst' H locs as hP hS hl)
theorem sx_lsw (C : am_Cx p R s m args c H0 A cells slots g nL cc oc) {df x : Int} {ps : Array (Int × Int)} {len : Nat} {k : Nat → Option am_O} {o : am_O} (hd : decode cc pc = .ok (.lookupswitch df ps, len)) (hdf : 0 ≤ (pc : Int) + df) (hof : ∀ q ∈ ps.toList, 0 ≤ (pc : Int) + q.2) (hp : (ps.toList.zip (ps.toList.drop 1)).all (fun (a, next) => a.1 < next.1) = true) (h : am_lk k pc df x ps.toList = some o) (kk : ∀ pc', k pc' = some o → am_Y p l e R s m args below meth c H0 A cells slots Q g nL pc' ls st M) : am_Y p l e R s m args below meth c H0 A cells slots Q g nL pc ls (am_i x :: st) M := by
  intro hM hls hst H locs as hP hS hl
  have hx : am_32 x := hst (am_i x) (by simp)
  have hst' : am_okL st := fun w hw => hst w (by simp [hw])
  have key : ∀ (l : List (Int × Int)), (∀ q ∈ l, 0 ≤ (pc : Int) + q.2) → am_lk k pc df x l = some o → ∃ off, Op.lookupswitch.offset l df x = off ∧ 0 ≤ (pc : Int) + off ∧ k ((pc : Int) + off).toNat = some o := by
    intro l
    induction l with
    | nil => exact fun _ h => ⟨df, rfl, hdf, h⟩
    | cons q l ih =>
      intro hl h
      unfold am_lk at h
      by_cases hq : x = q.1
      · rw [if_pos hq] at h
        exact ⟨q.2, by simp [Op.lookupswitch.offset, hq], hl q (by simp), h⟩
      · rw [if_neg hq] at h
        obtain ⟨off, h1, h2, h3⟩ := ih (fun q hq => hl q (List.mem_cons_of_mem _ hq)) h
        refine ⟨off, ?_, h2, h3⟩
        rw [← h1]
        simp [Op.lookupswitch.offset, hq, eq_comm]
  obtain ⟨off, h1, h2, h3⟩ := key ps.toList hof h
  exact lv_lookup (x := Int32.ofInt x) (off := off) C.1 C.2.1 hd hp (by rw [am_to_of hx]; exact h1) (show _ = ((((pc : Int) + off).toNat : Nat) : Int) by omega) (kk _ h3 hM hls hst' H locs as hP hS hl)
end SX
