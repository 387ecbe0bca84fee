/-! calls -/
theorem Met.ofWF {l : Launch} {y : MethodName} {ws ws' : List Cond} {rm : Room} {Pc : Array Value → State → Prop} {Qc : Array Value → State → Outcome → State → Prop} {mc ms : Nat} {free : Addr → Prop} {cc : ByteArray} {maxL : Nat} {ret : Option FieldType}
    (hy : plainFor y = true) (hw : ws = Cond.code y cc maxL ret :: ws')
    (body : ∀ p e s m args below meth c s₁, BodyLoose p l y (headSpec ws rm) cc maxL ret e s m args below meth c s₁ → c.maxLocals = maxL → Pc args s →
      W p l e (headSpec ws rm).room s m args below meth c s.heap [] 0 0 (MQ below Qc args s mc ms free) (entryFrame m args maxL)) : Met l y ws rm Pc Qc mc ms free := by
  refine MetFree.of_bodySF (code := cc) (maxLocals := maxL) (ret := ret) hy ?_ ?_
  · intro args s m h hn
    obtain ⟨meth, c, h1, h2, h3, h4, h5, h6, -, -⟩ := Cond.code_spec hn (atoms_spec (ws := ws) h _ (by rw [hw]; exact List.mem_cons_self))
    exact ⟨meth, c, h1, h2, h3, h4, h5, h6⟩
  · intro p e s m args below meth c s₁ B hml hP _
    have hh0 : s₁.heap = s.heap := by rw [B.state]; rfl
    obtain ⟨t, a1, o, b1, b2, b3⟩ := body p e s m args below meth c s₁ B hml hP s₁ hh0 (Stand.of_body B)
    exact ⟨t, o, a1, b1, b2, ⟨b3.1, b3.2⟩⟩
def am_ws (j : Nat) : List Cond := Cond.code (am_y j) (am_bt j) (am_P j).1 (am_rt (am_P j).2.1) :: am_gd
def am_rm (d : Nat) : Room := { frames := d + 1, cells := 0, slots := 0, locals := 64 * (d + 1) }
def am_pre (g : am_G) (M : am_M) (U : State) : Prop := va_P g.2.1 vwCl (am_wd g M) U.heap ∧ va_K g.2.1 vwCl (am_ty g) U ∧ (∀ q ∈ am_mn, va_Nw (am_nw q) U) ∧ va_X (g.1 517) g.2.2.2.2 g.2.2.2.1 U U.heap ∧ g.1 517 < U.heap.size
def am_Qc (g : am_G) (r : Option am_V) (M' : am_M) : Array Value → State → Outcome → State → Prop := fun _ st oc t => (oc = .returned (r.map (am_cv g)) ∧ am_okM g M' ∧ (∀ v, r = some v → am_okV v) ∧ va_P g.2.1 vwCl (am_wd g M') t.heap) ∧ va_F (am_A g) st t
/-- method j's contract at these values and this memory -/
def am_Mt (l : Launch) (g : am_G) (d j : Nat) (as : List am_V) (M : am_M) (r : Option am_V) (M' : am_M) : Prop := Met l (am_y j) (am_ws j) (am_rm d) (va_Pc (as.map (am_cv g)) (am_pre g M)) (am_Qc g r M') 0 0 (am_A g)
theorem blind (g : am_G) (M : am_M) (av : List Value) : FrameBlind (va_Pc av (am_pre g M)) := by
  intro a U f mk q
  obtain ⟨q0, qP, qK, qN, qX, qb⟩ := q
  exact ⟨q0, qP, va_K.moved (u := U) (U := U.calling f mk a) (Vm.Alike.refl U.vm) qK, fun w hw => va_Nw.same (u := U) (U := U.calling f mk a) rfl rfl (qN w hw), va_X.moved (u := U) (U := U.calling f mk a) (Vm.Alike.refl U.vm) qX, qb⟩
theorem lq_ok {q : Nat × Nat × Nat} (h : am_lq q = true) : q.2.2 / 10000 < am_nm ∧ q.2.2 % 10 = (am_P (q.2.2 / 10000)).2.1 ∧ ((am_sc (q.2.2 / 10000) = true ∧ q.2.2 / 1000 % 10 = 0 ∧ am_np (q.2.2 / 10000) = some (q.2.2 / 10 % 100)) ∨ (am_sc (q.2.2 / 10000) = false ∧ q.2.2 / 1000 % 10 = am_oc (q.2.2 / 10000) + 1 ∧ am_oc (q.2.2 / 10000) < 7 ∧ am_np (q.2.2 / 10000) = some (q.2.2 / 10 % 100 - 1) ∧ 0 < q.2.2 / 10 % 100)) := by
  unfold am_lq at h
  simp only [Bool.and_eq_true, decide_eq_true_eq] at h
  refine ⟨h.1.1, h.1.2, ?_⟩
  cases hs : am_sc (q.2.2 / 10000)
  · rw [hs] at h
    simp at h
    exact Or.inr ⟨rfl, h.2.1.1.1, h.2.1.1.2, h.2.1.2, h.2.2⟩
  · rw [hs] at h
    simp at h
    exact Or.inl ⟨rfl, h.2.1, h.2.2⟩
theorem ym {j : Nat} (hj : j < am_nm) : plainFor (am_y j) = true ∧ (am_y j).cls = am_cn (am_oc j) ∧ am_oc j < 10 ∧ (am_P j).1 ≤ 40 ∧ (am_P j).2.1 < 5 ∧ (am_y j).cls ≠ "java/lang/invoke/MethodHandle" ∧ (am_y j).cls ≠ "java/lang/invoke/VarHandle" := by
  have hm : j ∈ List.range am_nm := List.mem_range.mpr hj
  have h1 := List.all_eq_true.mp am_ym1 j hm
  have h2 := List.all_eq_true.mp am_ym2 j hm
  have h3 := List.all_eq_true.mp am_ym3 j hm
  have h4 := List.all_eq_true.mp am_ym4 j hm
  have h5 := List.all_eq_true.mp am_ym5 j hm
  have h6 := List.all_eq_true.mp am_ym6 j hm
  simp only [Bool.and_eq_true, decide_eq_true_eq, beq_iff_eq] at h2 h3 h4 h5 h6
  exact ⟨h1, h2, h3, h4, h5, h6.1, h6.2⟩
theorem code_gd {j : Nat} (hj : j < am_nm) : Cond.code (am_y j) (am_bt j) (am_P j).1 (am_rt (am_P j).2.1) ∈ am_gd := gd_mem (q_all j hj) rfl
theorem ini_gd {c : Nat} (hc : c < 13) : Cond.initialized (am_cn c) ∈ am_gd := gd_mem (pl_in (f := fun c => Cond.initialized (am_cn c)) am_ii_in (List.mem_range.mpr hc)) rfl
theorem ins_gd {j : Nat} (hj : j < am_nm) (hs : am_sc j = false) : Cond.instanceMethod (am_y j) ∈ am_gd := by
  have h := pl_in (f := fun j => if am_sc j = true then Cond.static (am_y j) else Cond.instanceMethod (am_y j)) am_is_in (List.mem_range.mpr hj)
  simp only [hs] at h
  exact gd_mem h rfl
theorem sta_gd {j : Nat} (hj : j < am_nm) (hs : am_sc j = true) : Cond.static (am_y j) ∈ am_gd := by
  have h := pl_in (f := fun j => if am_sc j = true then Cond.static (am_y j) else Cond.instanceMethod (am_y j)) am_is_in (List.mem_range.mpr hj)
  simp only [hs] at h
  exact gd_mem h rfl
theorem sel_gd {j : Nat} (hj : j < am_nm) (hs : am_sc j = false) : Cond.selects (am_y j).cls (am_y j) (am_y j) ∈ am_gd := by
  have h1 := List.all_eq_true.mp am_il_all j (List.mem_range.mpr hj)
  simp only [hs, Bool.false_or] at h1
  have h := pl_in (f := fun j => Cond.selects (am_y j).cls (am_y j) (am_y j)) am_se_in (List.contains_iff_mem.mp h1)
  exact gd_mem h rfl
theorem ws_good (j : Nat) (hj : j < am_nm) : GoodIn am_gd (am_ws j) := by
  intro w hw
  have : w ∈ am_gd := by
    rcases List.mem_cons.mp hw with rfl | h
    · exact code_gd hj
    · exact h
  exact ⟨this, good_of_word (gd_good this)⟩
section SZ
variable {p : Program} {l : Launch} {e : Env} {R : Room} {s : State} {m : MethodId} {args : Array Value} {below : List Frame} {meth : Method} {c : Code} {H0 : Heap} {A : Nat → Prop} {cells slots : Nat} {Q : State → Prop} {g : am_G} {nL : Nat} {cc : ByteArray} {oc pc : Nat} {ls st : List am_V} {M : am_M}
theorem am_goon {H : Heap} {locs : List Loc} {r : Option am_V} {M' : am_M} {a : Array Value} {as : Array Slot} {st0 rest : List Value} (hr : va_Run p l e R s m args below meth c H locs cells slots 0 0 (F0 m pc as st0) rest (am_Qc g r M' a) (am_A g)) (hS : va_S A H0 H locs) (hA : ∀ i, i < 517 → A (g.1 i))
    (kk : ∀ (H1 : Heap) (locs1 : List Loc), am_okM g M' → (∀ v, r = some v → am_okV v) → va_P g.2.1 vwCl (am_wd g M') H1 → va_S A H0 H1 locs1 → W p l e R s m args below meth c H1 locs1 cells slots Q (F0 m (pc + 3) as ((r.map (am_cv g)).toList ++ rest))) : W p l e R s m args below meth c H locs cells slots Q (F0 m pc as st0) := by
  intro T hT X
  obtain ⟨v, st₀, t, T', L, h0, X', hL, e1, e2, ⟨⟨hv, hok, hrv, hp⟩, hz, hk⟩, stp⟩ := hr T hT X
  have hv : v = r.map (am_cv g) := by cases hv; rfl
  subst hv
  rw [h0] at hz hk
  have hfr : ∀ q, am_A g q → A q := fun q ⟨i, hi, hq⟩ => hq ▸ hA i hi
  obtain ⟨t2, a1, b1⟩ := kk T'.heap (locs ++ L) hok hrv (by rw [e1]; exact hp)
    ⟨Nat.le_trans hS.1 (by rw [e1]; exact hz), fun q h1 h2 => by rw [e1, hk q (Nat.lt_of_lt_of_le h1 hS.1) (fun z => h2 (hfr q z))]; exact hS.2.1 q h1 h2, fun q hq => by
      rcases List.mem_append.mp hq with h | h
      · exact hS.2.2 q h
      · exact hfr _ (hL q h)⟩ T' rfl X'
  exact ⟨t2, stp t2 a1, b1⟩
theorem cat_le (g : am_G) : ∀ (st : List am_V), ((st.map (am_cv g)).map fun v => v.category).sum ≤ 2 * st.length
  | [] => by simp
  | v :: st => by
    have h1 := cat_le g st
    have h2 : (am_cv g v).category ≤ 2 := by rcases v with z | q | x | x | x | x <;> simp [am_cv, Value.category]
    simp only [List.map_cons, List.sum_cons, List.length_cons]
    omega
set_option maxHeartbeats 4000000 in
/-- a call of a method of the table, by its contract -/
theorem sx_call (C : am_Cx p R s m args c H0 A cells slots g nL cc oc) {d idx aux : Nat} {ins : ClassFile.Instr} {as : List am_V} {r : Option am_V} {M' : am_M} (hR : d + 1 + 1 ≤ R.frames ∧ 64 * (d + 1 + 1) ≤ R.locals) (hd : decode cc pc = .ok (ins, 3)) (hins : (ins = .invokevirtual idx ∧ aux / 1000 % 10 ≠ 0) ∨ (ins = .invokestatic idx ∧ aux / 1000 % 10 = 0)) (hml : (oc, idx, aux) ∈ am_ml ∨ (oc, idx, aux) ∈ am_mn)
    (hn : as.length = aux / 10 % 100) (hlen : st.length ≤ 4) (hrc : aux / 1000 % 10 ≠ 0 → ∃ (t i : Nat) (as' : List am_V), as = am_r t i :: as' ∧ am_cl t + 1 = aux / 1000 % 10) (hM1 : am_okM g M → am_okL as → am_Mt l g d (aux / 10000) as M r M')
    (k : am_Y p l e R s m args below meth c H0 A cells slots Q g nL (pc + 3) ls (r.toList ++ st) M') : am_Y p l e R s m args below meth c H0 A cells slots Q g nL pc ls (as.reverse ++ st) M := by
  intro hM hls hst H locs las hP hS hl
  obtain ⟨hx, hb, hmx, hown, hts, hK, hX, hbl, hA, hbA, hnw, hroom, hgok, hL⟩ := C
  have hq : am_lq (oc, idx, aux) = true := by
    rcases hml with h | h
    · exact List.all_eq_true.mp am_ml_ok _ h
    · exact List.all_eq_true.mp am_mn_ok _ h
  obtain ⟨hj, hrk, hcase⟩ := lq_ok hq
  dsimp only at hj hrk hcase
  obtain ⟨hpl, hcls, hoc10, hmx40, hret5, hmh, hvh⟩ := ym hj
  have hokas : am_okL as := fun w hw => hst w (by simp [hw])
  have hst' : am_okL st := fun w hw => hst w (by simp [hw])
  have hMt := hM1 hM hokas
  have hini := hts _ (ini_gd (c := am_oc (aux / 10000)) (by omega))
  have hini' : (Cond.initialized (am_y (aux / 10000)).cls).before args s = true := by rw [hcls]; exact hini
  have hRr : (am_rm d).frames + 1 ≤ R.frames ∧ 8 + ((am_P (aux / 10000)).1 + 11) + (am_rm d).locals ≤ R.locals := by
    show d + 1 + 1 ≤ R.frames ∧ 8 + ((am_P (aux / 10000)).1 + 11) + 64 * (d + 1) ≤ R.locals
    omega
  have hW : 2 * (F0 m pc las ((as.reverse ++ st).map (am_cv g))).monitorRoom + ((st.map (am_cv g)).map fun v => v.category).sum ≤ 8 := lv_room (by have := cat_le g st; omega)
  have hXH : ∀ U : State, U.heap = H → s.WarmedH U.vm → va_Pc (as.map (am_cv g)) (am_pre g M) (as.map (am_cv g)).toArray U := fun U hU hWm => by
    refine ⟨rfl, by rw [hU]; exact hP, va_K.moved hWm.alike hK, fun q hq => va_Nw.warmM hWm (hnw q hq), ?_, ?_⟩
    · rw [hU]
      exact (hX.kept (hS.2.1 _ hbl hbA)).moved hWm.alike
    · rw [hU]
      exact Nat.lt_of_lt_of_le hbl hS.1
  have hcont : ∀ (H1 : Heap) (locs1 : List Loc), am_okM g M' → (∀ v, r = some v → am_okV v) → va_P g.2.1 vwCl (am_wd g M') H1 → va_S A H0 H1 locs1 → W p l e R s m args below meth c H1 locs1 cells slots Q (F0 m (pc + 3) las ((r.map (am_cv g)).toList ++ st.map (am_cv g))) := fun H1 locs1 hok hrv hP1 hS1 => by
    have hok2 : am_okL (r.toList ++ st) := okL_app (fun w hw => hrv w (by cases r with
      | none => cases hw
      | some v => simp at hw; rw [hw])) hst'
    have := k hok hls hok2 H1 locs1 las hP1 hS1 hl
    rw [List.map_append] at this
    cases r <;> exact this
  have hf : cells + 0 ≤ R.cells ∧ slots + 0 ≤ R.slots := ⟨hroom.1, hroom.2.1⟩
  have hS1 : CallFix p m c cc nL s args am_gd (am_cn oc) := ⟨hx, hb, hmx, hown, hts⟩
  have hd3 : (am_y (aux / 10000)).cls ≠ "java/lang/invoke/MethodHandle" ∧ (am_y (aux / 10000)).cls ≠ "java/lang/invoke/VarHandle" := ⟨hmh, hvh⟩
  rcases hins with ⟨rfl, hc0⟩ | ⟨rfl, hc0⟩
  · obtain ⟨t, i, as', rfl, hct⟩ := hrc hc0
    rcases hcase with ⟨-, h0, -⟩ | ⟨hsc, hoc, hoc7, hnp, hpos⟩
    · exact absurd h0 hc0
    have hvi : i ≤ 517 ∧ am_tg i = t := hokas (am_r t i) (by simp)
    have hctt : am_cl t = am_oc (aux / 10000) := by omega
    obtain ⟨ht8, har, -⟩ := cl_tag hctt hoc7
    have hi : i < 517 := by
      rcases Nat.lt_or_ge i 517 with h | h
      · exact h
      · have : i = 517 := by omega
        subst this
        have : am_tg 517 = 21 := rfl
        omega
    have hcell := wd_at g M hi
    rw [ce_obj g M hvi.2 har, hctt] at hcell
    obtain ⟨r0, hr0⟩ : ∃ r0, vwCl[am_oc (aux / 10000)]? = some r0 := ⟨_, List.getElem?_eq_getElem (show am_oc (aux / 10000) < vwCl.length from hoc7)⟩
    have hrecv := va_recv hK hP hr0 hcell
    have hr1 : r0.1 = (am_y (aux / 10000)).cls := by rw [(cls_all hr0).2.2.2.1, hcls]
    rw [hr1] at hrecv
    have hin := hts _ (ins_gd hj hsc)
    have hsel := hts _ (sel_gd hj hsc)
    have hnn : as'.length = aux / 10 % 100 - 1 := by simp at hn; omega
    have hstk : (F0 m pc las (((am_r t i :: as').reverse ++ st).map (am_cv g))).stack = (as'.map (am_cv g)).reverse ++ .ref (g.1 i) :: st.map (am_cv g) := by simp [am_cv]
    rcases hml with h | h
    · have hlk := hts _ (gd_mem (pl_in (f := fun q : Nat × Nat × Nat => Cond.methodLink (am_cn q.1) q.2.1 (am_y (q.2.2 / 10000))) am_ml_in h) rfl)
      dsimp only at hlk
      refine am_goon (va_runV (C := (am_y (aux / 10000)).cls) (ws := am_ws (aux / 10000)) (rm := am_rm d) (n := aux / 10 % 100 - 1) (As := as'.map (am_cv g)) (rest := st.map (am_cv g)) (b := g.1 i) hS1 hMt ⟨callB_of (ws' := am_gd) (aux / 10 % 100 - 1) hts (ws_good _ hj) rfl rfl rfl hini' hlk ⟨hmh, hvh, hnp⟩ hRr, hin, hsel⟩ ⟨blind g M _, hrecv, fun U hU hWm => hXH U hU hWm⟩ rfl (by simpa using hnn) hl.1 hstk hW hd hf) hS hA hcont
    · have hnl : va_Nw (.methodLinkNest (am_cn oc) idx (am_y (aux / 10000)) "ThinVolumes") s := hnw _ h
      refine am_goon (va_runVN (C := (am_y (aux / 10000)).cls) (ws := am_ws (aux / 10000)) (rm := am_rm d) (n := aux / 10 % 100 - 1) (As := as'.map (am_cv g)) (rest := st.map (am_cv g)) (b := g.1 i) (host := "ThinVolumes") hS1 hMt ⟨va_cnB (ws' := am_gd) (aux / 10 % 100 - 1) hts (ws_good _ hj) rfl rfl rfl hnl hini' ⟨hmh, hvh, hnp⟩ hRr, hin, hsel⟩ ⟨blind g M _, hrecv, fun U hU hWm => hXH U hU hWm⟩ rfl (by simpa using hnn) hl.1 hstk hW hd hf) hS hA hcont
  · rcases hcase with ⟨hsc, h0, hnp⟩ | ⟨hsc, hoc, hoc7, hnp, hpos⟩
    · have hsta := hts _ (sta_gd hj hsc)
      have hstk : (F0 m pc las ((as.reverse ++ st).map (am_cv g))).stack = (as.map (am_cv g)).reverse ++ st.map (am_cv g) := by simp
      rcases hml with h | h
      · have hlk := hts _ (gd_mem (pl_in (f := fun q : Nat × Nat × Nat => Cond.methodLink (am_cn q.1) q.2.1 (am_y (q.2.2 / 10000))) am_ml_in h) rfl)
        dsimp only at hlk
        refine am_goon (va_runS (ws := am_ws (aux / 10000)) (rm := am_rm d) (n := aux / 10 % 100) (As := as.map (am_cv g)) (rest := st.map (am_cv g)) hS1 hMt ⟨callB_of (ws' := am_gd) (aux / 10 % 100) hts (ws_good _ hj) rfl rfl rfl hini' hlk ⟨hmh, hvh, hnp⟩ hRr, hsta⟩ ⟨blind g M _, fun U hU hWm => hXH U hU hWm⟩ rfl (by simpa using hn) hl.1 hstk hW hd hf) hS hA hcont
      · have hnl : va_Nw (.methodLinkNest (am_cn oc) idx (am_y (aux / 10000)) "ThinVolumes") s := hnw _ h
        refine am_goon (va_runSN (ws := am_ws (aux / 10000)) (rm := am_rm d) (n := aux / 10 % 100) (As := as.map (am_cv g)) (rest := st.map (am_cv g)) (host := "ThinVolumes") hS1 hMt ⟨va_cnB (ws' := am_gd) (aux / 10 % 100) hts (ws_good _ hj) rfl rfl rfl hnl hini' ⟨hmh, hvh, hnp⟩ hRr, hsta, trivial⟩ ⟨blind g M _, fun U hU hWm => hXH U hU hWm⟩ rfl (by simpa using hn) hl.1 hstk hW hd hf) hS hA hcont
    · omega
/-! what isn't code -/
theorem nn_gd {w : Cond} (h : some w ∈ [some (Cond.native arraycopyName), some (Cond.static arraycopyName), some (Cond.static Lib.Math.max.name), some (Cond.code Lib.Math.max.name Lib.Math.max.code 2 (some .int)), some (Cond.native (am_xn 902)), some (Cond.static (am_xn 902)), some (Cond.native (am_xn 903)), some (Cond.static (am_xn 903))]) (hg : goodWord w = true) : w ∈ am_gd := by
  rw [am_nn_in] at h
  obtain ⟨i, -, hi⟩ := List.mem_map.mp h
  exact gd_mem (List.mem_of_getElem? hi) hg
theorem xl_gd {idx aux : Nat} (h : (oc, idx, aux) ∈ am_mx) : Cond.methodLink (am_cn oc) idx (am_xn (aux / 10000)) ∈ am_gd := gd_mem (pl_in (f := fun q : Nat × Nat × Nat => Cond.methodLink (am_cn q.1) q.2.1 (am_xn (q.2.2 / 10000))) am_mx_in h) rfl
theorem sx_max (C : am_Cx p R s m args c H0 A cells slots g nL cc oc) {idx aux : Nat} {x y : Int} (hd : decode cc pc = .ok (.invokestatic idx, 3)) (hm : (oc, idx, aux) ∈ am_mx) (ha : aux / 10000 = 900) (hlen : st.length ≤ 9) (k : am_Y p l e R s m args below meth c H0 A cells slots Q g nL (pc + 3) ls (am_i (if x < y then y else x) :: st) M) : am_Y p l e R s m args below meth c H0 A cells slots Q g nL pc ls (am_i y :: am_i x :: st) M := by
  intro hM hls hst H locs las hP hS hl
  obtain ⟨hx, hb, hmx, hown, hts, hK, hX, hbl, hA, hbA, hnw, hroom, hgok, hL⟩ := C
  have hx32 : am_32 x := hst (am_i x) (by simp)
  have hy32 : am_32 y := hst (am_i y) (by simp)
  have hst' : am_okL st := fun w hw => hst w (by simp [hw])
  have hlk := hts _ (xl_gd hm)
  rw [ha] at hlk
  have hcat := cat_le g st
  refine va_mmax hx hb (by rw [hmx]; exact hl.1.symm) hown hlk (hts _ (nn_gd (by simp) rfl)) (hts _ (ini_gd (c := 11) (by decide))) (hts _ (nn_gd (by simp) rfl)) hroom.2.2.1 (by omega) hroom.1 hroom.2.1 (x := Int32.ofInt x) (y := Int32.ofInt y) hd ?_
  have e : (if Int32.ofInt x < Int32.ofInt y then Int32.ofInt y else Int32.ofInt x) = Int32.ofInt (if x < y then y else x) := by
    by_cases h : x < y
    · rw [if_pos h, if_pos ((am_lt_iff hx32 hy32).mpr h)]
    · rw [if_neg h, if_neg (fun q => h ((am_lt_iff hx32 hy32).mp q))]
  rw [e]
  exact k hM hls (okL_cons (v := am_i _) (show am_32 _ by by_cases h : x < y <;> simp only [h, if_true, if_false] <;> assumption) hst') H locs las hP hS hl
theorem sx_copy (C : am_Cx p R s m args c H0 A cells slots g nL cc oc) {idx aux t i i' : Nat} {n : Int} {q : Nat × Int} (hd : decode cc pc = .ok (.invokestatic idx, 3)) (hm : (oc, idx, aux) ∈ am_mx) (ha : aux / 10000 = 901) (hlen : st.length ≤ 9) (hq : am_ar t = some q) (hq2 : q.1 < 2) (hn : 0 ≤ n ∧ n ≤ q.2) (k : am_Y p l e R s m args below meth c H0 A cells slots Q g nL (pc + 3) ls st (am_cp M i i' n)) : am_Y p l e R s m args below meth c H0 A cells slots Q g nL pc ls (am_i n :: am_i 0 :: am_r t i :: am_i 0 :: am_r t i' :: st) M := by
  intro hM hls hst H locs las hP hS hl
  obtain ⟨hx, hb, hmx, hown, hts, hK, hX, hbl, hA, hbA, hnw, hroom, hgok, hL⟩ := C
  have hn32 : am_32 n := hst (am_i n) (by simp)
  have hvi : i ≤ 517 ∧ am_tg i = t := hst (am_r t i) (by simp)
  have hvi' : i' ≤ 517 ∧ am_tg i' = t := hst (am_r t i') (by simp)
  have hst' : am_okL st := fun w hw => hst w (by simp [hw])
  have hlk := hts _ (xl_gd hm)
  rw [ha] at hlk
  have hcat := cat_le g st
  have hi := ar_517 hvi.1 hvi.2 hq
  have hi' := ar_517 hvi'.1 hvi'.2 hq
  obtain ⟨kd, N⟩ := q
  dsimp only at hq2 hn
  have hcell := wd_at g M hi
  have hcell' := wd_at g M hi'
  rw [ce_arr g M hvi.2 hq hq2] at hcell
  rw [ce_arr g M hvi'.2 hq hq2] at hcell'
  have hnn := am_nt hn32 hn.1
  have hnew : am_wd g (am_cp M i i' n) = (am_wd g M).set i (g.1 i, .inl (if kd = 0 then g.2.2.1.1 else g.2.2.1.2.1, N.toNat, .inl (va_cpy (fun j => Int32.ofInt (M i' j)) (fun j => Int32.ofInt (M i j)) (Int32.ofInt 0).toNatClampNeg (Int32.ofInt 0).toNatClampNeg (Int32.ofInt n).toNatClampNeg))) := by
    unfold am_cp
    rw [wd_set g M _ hi, ce_arr g _ hvi.2 hq hq2]
    have e0 : (fun j : Nat => Int32.ofInt (am_st M i (am_cpy (M i') (M i) n) i j)) = va_cpy (fun j => Int32.ofInt (M i' j)) (fun j => Int32.ofInt (M i j)) (Int32.ofInt 0).toNatClampNeg (Int32.ofInt 0).toNatClampNeg (Int32.ofInt n).toNatClampNeg := ?_
    · rw [e0]
    funext j
    have h0 : (Int32.ofInt 0).toNatClampNeg = 0 := rfl
    simp only [va_cpy, am_st, if_true, am_cpy, h0, Nat.zero_add, Nat.sub_zero]
    by_cases hj : j < (Int32.ofInt n).toNatClampNeg
    · have h1 : (0 : Int) ≤ (j : Int) ∧ (j : Int) < n := by omega
      have h2 : 0 ≤ j ∧ j < (Int32.ofInt n).toNatClampNeg := ⟨Nat.zero_le _, hj⟩
      simp only [h1, h2, and_self, if_true]
    · have h1 : ¬ ((0 : Int) ≤ (j : Int) ∧ (j : Int) < n) := by omega
      have h2 : ¬ (0 ≤ j ∧ j < (Int32.ofInt n).toNatClampNeg) := fun q => hj q.2
      simp only [h1, h2, if_false]
  have hokM : am_okM g (am_cp M i i' n) := by
    have hne : t ≠ 16 ∧ t ≠ 5 := by
      constructor
      · rintro rfl
        cases hq
        omega
      · rintro rfl
        cases hq
    refine okM_st hM hi (fun j => ?_) (fun hi0 => ?_) (fun h16 => ?_) (fun h15 => fun j => ?_)
    · unfold am_cpy
      by_cases hj : 0 ≤ j ∧ j < n
      · rw [if_pos hj]; exact hM.1 _ _
      · rw [if_neg hj]; exact hM.1 _ _
    · subst hi0
      exact absurd (hvi.2.symm.trans am_tg0) hne.2
    · exact absurd (hvi.2.symm.trans h16) hne.1
    · unfold am_cpy
      by_cases hj : 0 ≤ j ∧ j < n
      · rw [if_pos hj]; exact hM.2.2.2.1 i' (hvi'.2.trans (hvi.2.symm.trans h15)) j
      · rw [if_neg hj]; exact hM.2.2.2.1 i h15 j
  have hnf : nativeFrameWords "java/lang/System" "arraycopy" 5 ≤ 20 := by decide +kernel
  have hkk := fun (H1 : Heap) (locs1 : List Loc) (hP1 : va_P g.2.1 vwCl ((am_wd g M).set i (g.1 i, .inl (if kd = 0 then g.2.2.1.1 else g.2.2.1.2.1, N.toNat, .inl (va_cpy (fun j => Int32.ofInt (M i' j)) (fun j => Int32.ofInt (M i j)) (Int32.ofInt 0).toNatClampNeg (Int32.ofInt 0).toNatClampNeg (Int32.ofInt n).toNatClampNeg)))) H1) (hS1 : va_S A H0 H1 locs1) => k hokM hls hst' H1 locs1 las (by rw [hnew]; exact hP1) hS1 hl
  have h0 : (Int32.ofInt 0).toNatClampNeg = 0 := rfl
  have hz : ¬ Int32.ofInt 0 < 0 := by decide
  have hnz : ¬ Int32.ofInt n < 0 := fun h => by have := (am_lt_iff hn32 am_32_0).mp h; omega
  rcases (show kd = 0 ∨ kd = 1 by omega) with rfl | rfl
  · exact va_copyi (ty := .int) hx hb (by rw [hmx]; exact hl.1.symm) hown hlk (hts _ (nn_gd (by simp) rfl)) (hts _ (nn_gd (by simp) rfl)) (hts _ (ini_gd (c := 12) (by decide))) hK hP (wd_D g M hgok hA) hS i' i 0 0 hcell' hcell rfl rfl rfl hz hz hnz (by omega) (by omega) (fun _ _ => rfl) hroom.2.2.1 (by omega) hd (fun H1 locs1 hP1 hD1 hS1 => hkk H1 locs1 hP1 hS1)
  · refine va_copyi (ty := .boolean) hx hb (by rw [hmx]; exact hl.1.symm) hown hlk (hts _ (nn_gd (by simp) rfl)) (hts _ (nn_gd (by simp) rfl)) (hts _ (ini_gd (c := 12) (by decide))) hK hP (wd_D g M hgok hA) hS i' i 1 1 hcell' hcell rfl rfl rfl hz hz hnz (by omega) (by omega) (fun j _ => ?_) hroom.2.2.1 (by omega) hd (fun H1 locs1 hP1 hD1 hS1 => hkk H1 locs1 hP1 hS1)
    have h15 : t = 15 := ((ar_dec t (ar_lt hq) _ hq).2.2.2.2 rfl).1
    rcases hM.2.2.2.1 i' (hvi'.2.trans h15) (((Int32.ofInt 0).toNatClampNeg + j : Nat) : Int) with h | h <;> rw [h] <;> rfl
end SZ
