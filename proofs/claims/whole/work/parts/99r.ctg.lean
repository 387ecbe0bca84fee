/-! constructors: what they share -/
abbrev ct_ty (k3 : ClassId × ClassId × ClassId) : List (ClassId × FieldType) := [(k3.1, .int), (k3.2.1, .boolean), (k3.2.2, .object "ThinVolumes$State")]
def ct_n1 : Cond := .methodLinkNest "ThinVolumes$State" 11 ⟨"ThinVolumes$Pool", "<init>", "()V"⟩ "ThinVolumes"
def ct_n2 : Cond := .methodLinkNest "ThinVolumes" 46 ⟨"ThinVolumes$Difference", "<init>", "()V"⟩ "ThinVolumes"
def ct_K (D : va_G) (k3 : ClassId × ClassId × ClassId) (U : State) : Prop := va_K D vwCl (ct_ty k3) U ∧ va_Nw ct_n1 U ∧ va_Nw ct_n2 U ∧ va_AO "ThinVolumes$State" U
theorem ct_K.warm {D : va_G} {k3 : ClassId × ClassId × ClassId} {s U : State} (hW : s.WarmedH U.vm) (h : ct_K D k3 s) : ct_K D k3 U := ⟨va_K.moved hW.alike h.1, va_Nw.warmM hW h.2.1, va_Nw.warmM hW h.2.2.1, va_AO.moved hW.alike h.2.2.2⟩
/-- a constructor's contract: from the blank object at h0 to a world that it made -/
def ct_Pc (D : va_G) (k3 : ClassId × ClassId × ClassId) (h0 : Nat) (e0 : va_E) (sz : Nat) (As : List Value) : Array Value → State → Prop := va_Pc (.ref h0 :: As) (fun U => U.heap.size = sz ∧ va_P D vwCl [(h0, e0)] U.heap ∧ ct_K D k3 U)
def ct_Qc (D : va_G) (h0 : Nat) (e0 : va_E) (sz : Nat) (B : va_W → Prop) : Array Value → State → Outcome → State → Prop := va_Qv (S := va_W) B (fun w t => va_P D vwCl w t.heap ∧ va_D (va_A [(h0, e0)] sz) w) (va_A [(h0, e0)] sz)
def ct_ws (y : MethodName) (bt : ByteArray) (mL : Nat) : List Cond := Cond.code y bt mL none :: am_gd
def ct_Mt (l : Launch) (D : va_G) (k3 : ClassId × ClassId × ClassId) (y : MethodName) (bt : ByteArray) (mL fr lo mc ms : Nat) (As : List Value) (e0 : va_E) (B : Nat → va_W → Prop) : Prop :=
  ∀ h0 sz : Nat, Met l y (ct_ws y bt mL) { frames := fr, cells := mc, slots := ms, locals := lo } (ct_Pc D k3 h0 e0 sz As) (ct_Qc D h0 e0 sz (B h0)) mc ms (va_A [(h0, e0)] sz)
theorem ct_good {y : MethodName} {bt : ByteArray} {mL : Nat} (hc : Cond.code y bt mL none ∈ am_gd) : GoodIn am_gd (ct_ws y bt mL) := by
  intro w hw
  have : w ∈ am_gd := by
    rcases List.mem_cons.mp hw with rfl | h
    · exact hc
    · exact h
  exact ⟨this, good_of_word (gd_good this)⟩
theorem ct_blind (D : va_G) (k3 : ClassId × ClassId × ClassId) (h0 : Nat) (e0 : va_E) (sz : Nat) (As : List Value) : FrameBlind (ct_Pc D k3 h0 e0 sz As) := by
  intro a U f mk q
  obtain ⟨q0, q1, qP, qK, qN1, qN2, qO⟩ := q
  exact ⟨q0, q1, qP, va_K.moved (u := U) (U := U.calling f mk a) (Vm.Alike.refl U.vm) qK, va_Nw.same (u := U) (U := U.calling f mk a) rfl rfl qN1, va_Nw.same (u := U) (U := U.calling f mk a) rfl rfl qN2, va_AO.moved (u := U) (U := U.calling f mk a) (Vm.Alike.refl U.vm) qO⟩
/-! joins -/
theorem jn_app {A0 : Nat → Prop} {D : va_G} {cl : List vw_C} {ws w1 : va_W} {x : Nat × va_E} {H H1 : Heap} (hP : va_P D cl (ws ++ [x]) H) (hD : va_D A0 (ws ++ [x])) (hk : ∀ q : Nat, q < H.size → ¬ va_A [x] H.size q → H1[q]? = H[q]?) (hF : ∀ q, va_A [x] H.size q → A0 q) (hP1 : va_P D cl w1 H1) (hD1 : va_D (va_A [x] H.size) w1) : va_P D cl (ws ++ w1) H1 ∧ va_D A0 (ws ++ w1) := by
  have hx : (ws ++ [x])[ws.length]? = some x := by simp
  have hin : ∀ {k : Nat} {q : Nat × va_E}, ws[k]? = some q → (ws ++ [x])[k]? = some q := fun {k q} h => by
    rw [List.getElem?_append_left (List.getElem?_eq_some_iff.mp h).1]; exact h
  have hne : ∀ {k : Nat} {q : Nat × va_E}, ws[k]? = some q → q.1 ≠ x.1 := fun {k q} h e => by
    have := hD.1 k ws.length q x (hin h) hx e
    have := (List.getElem?_eq_some_iff.mp h).1
    omega
  have hnA : ∀ {k : Nat} {q : Nat × va_E}, ws[k]? = some q → ¬ va_A [x] H.size q.1 := fun {k q} h z => by
    rcases z with ⟨i, e, hi⟩ | z
    · have hi0 : i < 1 := (List.getElem?_eq_some_iff.mp hi).1
      rw [show i = 0 by omega] at hi
      cases hi
      exact hne h rfl
    · have := (hP k q (hin h)).lt
      omega
  refine ⟨va_P.app (fun k q h => (hP k q (hin h)).kept (hk q.1 ((hP k q (hin h)).lt) (hnA h))) hP1, va_D.app ⟨fun i j p q hi hj e => hD.1 i j p q (hin hi) (hin hj) e, fun k q h => hD.2 k q (hin h)⟩ (hD1.weaken fun k q _ h => hF _ h) fun i j p q hi hj e => hnA hi ?_⟩
  rw [e]
  exact hD1.2 j q hj
theorem jn_set {A0 : Nat → Prop} {D : va_G} {cl : List vw_C} {ws : va_W} {k a : Nat} {e0 e : va_E} {H H1 : Heap} (hP : va_P D cl ws H) (hD : va_D A0 ws) (hi : ws[k]? = some (a, e0)) (hk : ∀ q : Nat, q < H.size → q ≠ a → H1[q]? = H[q]?) (hP1 : va_at D cl (a, e) H1) : va_P D cl (ws.set k (a, e)) H1 ∧ va_D A0 (ws.set k (a, e)) := by
  refine ⟨fun i q hq => ?_, hD.set hi⟩
  by_cases hik : i = k
  · subst hik
    rw [List.getElem?_set_self (List.getElem?_eq_some_iff.mp hi).1] at hq
    cases hq
    exact hP1
  · rw [List.getElem?_set_ne (fun z => hik z.symm)] at hq
    refine (hP i q hq).kept (hk q.1 ((hP i q hq).lt) fun z => hik ?_)
    exact hD.1 i k q _ hq hi z
section CT
variable {p : Program} {l : Launch} {e : Env} {R : Room} {s : State} {m : MethodId} {args : Array Value} {below : List Frame} {meth : Method} {c : Code} {H H0 : Heap} {locs : List Loc} {A : Nat → Prop} {cells slots : Nat} {Q : State → Prop} {nL : Nat} {cc : ByteArray} {oc pc : Nat} {ls : Array Slot} {rest : List Value} {D : va_G} {k3 : ClassId × ClassId × ClassId} {L : va_W}
def ct_C (p : Program) (s : State) (m : MethodId) (args : Array Value) (c : Code) (nL : Nat) (cc : ByteArray) (oc : Nat) (D : va_G) (k3 : ClassId × ClassId × ClassId) (H0 : Heap) (A : Nat → Prop) : Prop :=
  p.tables.exec = Jvm.exec ∧ c.code = cc ∧ c.maxLocals = nL ∧ s.vm.findClass (am_cn oc) = some m.cls ∧ (∀ w ∈ am_gd, w.before args s = true) ∧ ct_K D k3 s ∧ ∀ q, H0.size ≤ q → A q
/-- new: a blank object behind all -/
theorem ct_nw (C : ct_C p s m args c nL cc oc D k3 H0 A) {N : String} {T : u_T} {n ci idx : Nat} {fs : List Value} (hc : vwCl[ci]? = some (N, T, n)) (hfs : ∀ j, j < n → defaultValue (am_cty ci j) = vp_V fs j) (hcl : Cond.classLink (am_cn oc) idx N ∈ am_gd) (hinst : Cond.instantiable N n ∈ am_gd) (hcells : cells + 1 ≤ R.cells) (hslots : slots + n ≤ R.slots) (hdg : decode cc pc = .ok (.new idx, 3)) (hd2 : decode cc (pc + 3) = .ok (.dup, 1)) (hP : va_P D vwCl L H) (hD : va_D A L) (hS : va_S A H0 H locs)
    (kk : ∀ (q : Nat) (H1 : Heap), va_P D vwCl (L ++ [(q, .inr (ci, fs))]) H1 → va_D A (L ++ [(q, .inr (ci, fs))]) → va_S A H0 H1 locs → W p l e R s m args below meth c H1 locs (cells + 1) (slots + n) Q (F0 m (pc + 4) ls (.ref q :: .ref q :: rest))) : W p l e R s m args below meth c H locs cells slots Q (F0 m pc ls rest) := by
  obtain ⟨hx, hb, hml, hown, hts, hK, hA⟩ := C
  obtain ⟨h1, h2, h3, h4, h5, h6, h7⟩ := cls_all hc
  have hini : Cond.initialized N ∈ am_gd := by
    have h4' : N = am_cn ci := h4
    rw [h4']
    exact ini_gd (by omega)
  refine va_new (ci := ci) (fs := fs) (C := N) (T := T) (N := n) hx hb hts h1 (am_cty ci) h2 hown (hts _ hcl) (hts _ hinst) (hts _ hini) hK.1 hP hD hS hA hc hfs hcells hslots hdg (fun q H hP hD hS => ?_)
  exact lv_dup hx hb hd2 rfl (kk q H hP hD hS)
/-- newarray -/
theorem ct_na0 (C : ct_C p s m args c nL cc oc D k3 H0 A) {bz : Bool} {N : Nat} {x : Int32} (hx0 : x = Int32.ofNat N) (hN : N ≤ 40000) (hcells : cells + 1 ≤ R.cells) (hslots : slots + N ≤ R.slots) (hdg : decode cc pc = .ok (.newarray (match bz with | true => .boolean | false => .int), 2)) (hP : va_P D vwCl L H) (hD : va_D A L) (hS : va_S A H0 H locs)
    (kk : ∀ (q : Nat) (H1 : Heap), va_P D vwCl (L ++ [(q, .inl (match bz with | true => k3.2.1 | false => k3.1, N, .inl (fun _ => 0)))]) H1 → va_D A (L ++ [(q, .inl (match bz with | true => k3.2.1 | false => k3.1, N, .inl (fun _ => 0)))]) → va_S A H0 H1 locs → W p l e R s m args below meth c H1 locs (cells + 1) (slots + N) Q (F0 m (pc + 2) ls (.ref q :: rest))) : W p l e R s m args below meth c H locs cells slots Q (F0 m pc ls (.int x :: rest)) := by
  obtain ⟨hx, hb, hml, hown, hts, hK, hA⟩ := C
  have hx1 : ¬ x < 0 := by rw [hx0]; exact nI_pos (n := N) (by omega)
  have hx2 : x.toNatClampNeg = N := by rw [hx0]; exact nI_clamp (n := N) (by omega)
  cases bz
  · refine va_newa (ty := .int) (a0 := (N, .inl (fun _ => 0))) (atype := .int) hx hb (hts _ (gd_mem (List.mem_of_getElem? (i := 151) (by decide +kernel)) rfl)) rfl hK.1 hP hD hS hA (fun cA => rfl) hx1 hx2 (by show N * _ ≤ _; have : componentBytes .int = 4 := rfl; rw [this]; omega) hcells hslots hdg (fun q cA H1 hK1 hP1 hD1 hS1 => ?_)
    have h1 : s.vm.findClass _ = some cA := (hK1.2 3 _ rfl).2
    have h2 : s.vm.findClass _ = some k3.1 := (hK1.2 0 _ rfl).2
    have h3 : cA = k3.1 := Option.some.inj (h1.symm.trans h2)
    subst h3
    exact kk q H1 hP1 hD1 hS1
  · refine va_newa (ty := .boolean) (a0 := (N, .inl (fun _ => 0))) (atype := .boolean) hx hb (hts _ (gd_mem (List.mem_of_getElem? (i := 206) (by decide +kernel)) rfl)) rfl hK.1 hP hD hS hA (fun cA => rfl) hx1 hx2 (by show N * _ ≤ _; have : componentBytes .boolean = 1 := rfl; rw [this]; omega) hcells hslots hdg (fun q cA H1 hK1 hP1 hD1 hS1 => ?_)
    have h1 : s.vm.findClass _ = some cA := (hK1.2 3 _ rfl).2
    have h2 : s.vm.findClass _ = some k3.2.1 := (hK1.2 1 _ rfl).2
    have h3 : cA = k3.2.1 := Option.some.inj (h1.symm.trans h2)
    subst h3
    exact kk q H1 hP1 hD1 hS1
/-- putfield of a reference into the object under construction, the world's first -/
theorem ct_pf (C : ct_C p s m args c nL cc oc D k3 H0 A) (hin : meth.name = "<init>") {N : String} {T : u_T} {n ci idx k h0 q : Nat} {fs : List Value} {ty : FieldType} (hc : vwCl[ci]? = some (N, T, n)) (hfl : (oc, idx, ci * 32 + k) ∈ am_fl) (hk : k < n) (hk2 : k < fs.length) (hd : parseFieldDescriptor (T k).2.2.1 = some ty) (hn : narrow ty (.ref q) = .ref q) (hfit : fits ty (.ref q) = true) (hdecl : (T k).1 = am_cn oc) (hdg : decode cc pc = .ok (.putfield idx, 3)) (hP : va_P D vwCl ((h0, .inr (ci, fs)) :: L) H) (hD : va_D A ((h0, .inr (ci, fs)) :: L)) (hS : va_S A H0 H locs)
    (kk : ∀ (H1 : Heap) (locs1 : List Loc), va_P D vwCl ((h0, .inr (ci, fs.set k (.ref q))) :: L) H1 → va_D A ((h0, .inr (ci, fs.set k (.ref q))) :: L) → va_S A H0 H1 locs1 → W p l e R s m args below meth c H1 locs1 cells slots Q (F0 m (pc + 3) ls rest)) : W p l e R s m args below meth c H locs cells slots Q (F0 m pc ls (.ref q :: .ref h0 :: rest)) := by
  obtain ⟨hx, hb, hml, hown, hts, hK, hA⟩ := C
  obtain ⟨h1, h2, h3, h4, h5, h6, h7⟩ := cls_all hc
  have hkk : (ci * 32 + k) / 32 = ci ∧ (ci * 32 + k) % 32 = k := by
    have h7' : n ≤ 20 := h7
    omega
  have hw : am_fw (oc, idx, ci * 32 + k) = Cond.fieldLink (am_cn oc) idx (T k).1 (T k).2.1 (T k).2.2.1 := by
    unfold am_fw
    simp only [hkk.1, hkk.2, hc]
  have hw2 : (Cond.fieldLink (am_cn oc) idx (T k).1 (T k).2.1 (T k).2.2.1).before args s = true := by rw [← hw]; exact hts _ (fl_mem hfl)
  cases hf : (T k).2.2.2
  · exact va_put (D := D) (ci := ci) (v := .ref q) (ty := ty) (C := N) (T := T) (N := n) hx hb hts h1 (am_cty ci) h2 h3 hown hK.1 hP hD hS 0 rfl hc k hk hw2 (fun _ h9 => h9) hf hd hn hfit hk2 hdg kk
  · exact va_putF (D := D) (ci := ci) (v := .ref q) (ty := ty) (C := N) (T := T) (N := n) hx hb hts h1 (am_cty ci) h2 h3 hown hK.1 hP hD hS 0 rfl hc k hk hw2 (fun _ h9 => h9) hf hin hdecl hd hn hfit hk2 hdg kk
/-- getfield of a reference of the world's first object -/
theorem ct_gf (C : ct_C p s m args c nL cc oc D k3 H0 A) {N : String} {T : u_T} {n ci idx k h0 q : Nat} {fs : List Value} (hc : vwCl[ci]? = some (N, T, n)) (hfl : (oc, idx, ci * 32 + k) ∈ am_fl) (hk : k < n) (hv : fs[k]? = some (.ref q)) (hdg : decode cc pc = .ok (.getfield idx, 3)) (hP : va_P D vwCl ((h0, .inr (ci, fs)) :: L) H)
    (kk : W p l e R s m args below meth c H locs cells slots Q (F0 m (pc + 3) ls (.ref q :: rest))) : W p l e R s m args below meth c H locs cells slots Q (F0 m pc ls (.ref h0 :: rest)) := by
  obtain ⟨hx, hb, hml, hown, hts, hK, hA⟩ := C
  obtain ⟨h1, h2, h3, h4, h5, h6, h7⟩ := cls_all hc
  have hkk : (ci * 32 + k) / 32 = ci ∧ (ci * 32 + k) % 32 = k := by
    have h7' : n ≤ 20 := h7
    omega
  have hw : am_fw (oc, idx, ci * 32 + k) = Cond.fieldLink (am_cn oc) idx (T k).1 (T k).2.1 (T k).2.2.1 := by
    unfold am_fw
    simp only [hkk.1, hkk.2, hc]
  have hw2 : (Cond.fieldLink (am_cn oc) idx (T k).1 (T k).2.1 (T k).2.2.1).before args s = true := by rw [← hw]; exact hts _ (fl_mem hfl)
  exact va_get (D := D) (ci := ci) (v := .ref q) (C := N) (T := T) (N := n) hx hb hts h1 hown hK.1 hP 0 rfl hc k hk hw2 (fun _ h9 => h9) hv hdg kk
/-- a constructor's call on the newest cell -/
theorem ct_run {B : Nat → va_W → Prop} {mc ms q : Nat} {As : List Value} {e0 : va_E} {st0 : List Value} (C : ct_C p s m args c nL cc oc D k3 H0 A) (hr : va_Run p l e R s m args below meth c H locs cells slots mc ms (F0 m pc ls st0) rest (ct_Qc D q e0 H.size (B q) (Value.ref q :: As).toArray) (va_A [(q, e0)] H.size)) (hP : va_P D vwCl (L ++ [(q, e0)]) H) (hD : va_D A (L ++ [(q, e0)])) (hS : va_S A H0 H locs)
    (kk : ∀ (w : va_W) (H1 : Heap) (locs1 : List Loc), B q w → va_P D vwCl (L ++ w) H1 → va_D A (L ++ w) → va_S A H0 H1 locs1 → W p l e R s m args below meth c H1 locs1 (cells + mc) (slots + ms) Q (F0 m (pc + 3) ls rest)) : W p l e R s m args below meth c H locs cells slots Q (F0 m pc ls st0) := by
  obtain ⟨hx, hb, hml, hown, hts, hK, hA⟩ := C
  have hFc := va_free (wc := [(q, e0)]) hD hS hA [L.length] (by simp)
  refine va_callv hr hS (fun q _ h => hFc q h) hFc (fun w t H1 locs ht hvm hw hB hz1 hk1 hS => ?_)
  obtain ⟨hP1, hD1⟩ := hB
  rw [ht] at hP1
  obtain ⟨hP, hD⟩ := jn_app hP hD hk1 hFc hP1 hD1
  exact kk w H1 locs hw hP hD hS
theorem ct_iv {y : MethodName} {bt : ByteArray} {mL fr lo mc ms ci idx q : Nat} {As : List Value} {e0 : va_E} {B : Nat → va_W → Prop} (hM : ct_Mt l D k3 y bt mL fr lo mc ms As e0 B) (C : ct_C p s m args c nL cc oc D k3 H0 A) (hy1 : y.name = "<init>") (hyc : y.cls = am_cn ci) (hci : ci < 13) (hcode : Cond.code y bt mL none ∈ am_gd) (hlk : Cond.methodLink (am_cn oc) idx y ∈ am_gd) (hin : Cond.instanceMethod y ∈ am_gd) (hd3 : y.cls ≠ "java/lang/invoke/MethodHandle" ∧ y.cls ≠ "java/lang/invoke/VarHandle" ∧ (parseMethodDescriptor y.desc).map (fun d => d.parameters.length) = some As.length) (hR : fr + 1 ≤ R.frames ∧ 8 + (mL + 11) + lo ≤ R.locals) (hf : cells + mc ≤ R.cells ∧ slots + ms ≤ R.slots) (hcat : (rest.map fun v => v.category).sum ≤ 8) (hsize : ls.size = nL) (hdg : decode cc pc = .ok (.invokespecial idx, 3)) (hP : va_P D vwCl (L ++ [(q, e0)]) H) (hD : va_D A (L ++ [(q, e0)])) (hS : va_S A H0 H locs)
    (kk : ∀ (w : va_W) (H1 : Heap) (locs1 : List Loc), B q w → va_P D vwCl (L ++ w) H1 → va_D A (L ++ w) → va_S A H0 H1 locs1 → W p l e R s m args below meth c H1 locs1 (cells + mc) (slots + ms) Q (F0 m (pc + 3) ls rest)) : W p l e R s m args below meth c H locs cells slots Q (F0 m pc ls (As.reverse ++ .ref q :: rest)) := by
  have C' := C
  obtain ⟨hx, hb, hml, hown, hts, hK, hA⟩ := C
  have hPc : va_P D vwCl [(q, e0)] H := fun k x h => by
    have hz : k < 1 := (List.getElem?_eq_some_iff.mp h).1
    rw [show k = 0 by omega] at h
    cases h
    exact hP L.length _ (by simp)
  have hini : (Cond.initialized y.cls).before args s = true := by rw [hyc]; exact hts _ (ini_gd hci)
  exact ct_run C' (va_runI (As := As) (rest := rest) (b := q) ⟨hx, hb, hml, hown, hts⟩ (hM q H.size) (cwI (ws' := am_gd) As.length hts (ct_good hcode) rfl rfl rfl hini (hts _ hlk) (hts _ hin) hy1 hd3 hR) ⟨ct_blind _ _ _ _ _ _, fun U hU hW => ⟨rfl, by rw [hU], by rw [hU]; exact hPc, hK.warm hW⟩⟩ rfl rfl hsize rfl (lv_room hcat) hdg hf) hP hD hS kk
theorem ct_ivN {y : MethodName} {bt : ByteArray} {mL fr lo mc ms ci idx q : Nat} {As : List Value} {e0 : va_E} {B : Nat → va_W → Prop} (hM : ct_Mt l D k3 y bt mL fr lo mc ms As e0 B) (C : ct_C p s m args c nL cc oc D k3 H0 A) (hy1 : y.name = "<init>") (hyc : y.cls = am_cn ci) (hci : ci < 13) (hcode : Cond.code y bt mL none ∈ am_gd) (hlk : va_Nw (.methodLinkNest (am_cn oc) idx y "ThinVolumes") s) (hin : Cond.instanceMethod y ∈ am_gd) (hd3 : y.cls ≠ "java/lang/invoke/MethodHandle" ∧ y.cls ≠ "java/lang/invoke/VarHandle" ∧ (parseMethodDescriptor y.desc).map (fun d => d.parameters.length) = some As.length) (hR : fr + 1 ≤ R.frames ∧ 8 + (mL + 11) + lo ≤ R.locals) (hf : cells + mc ≤ R.cells ∧ slots + ms ≤ R.slots) (hcat : (rest.map fun v => v.category).sum ≤ 8) (hsize : ls.size = nL) (hdg : decode cc pc = .ok (.invokespecial idx, 3)) (hP : va_P D vwCl (L ++ [(q, e0)]) H) (hD : va_D A (L ++ [(q, e0)])) (hS : va_S A H0 H locs)
    (kk : ∀ (w : va_W) (H1 : Heap) (locs1 : List Loc), B q w → va_P D vwCl (L ++ w) H1 → va_D A (L ++ w) → va_S A H0 H1 locs1 → W p l e R s m args below meth c H1 locs1 (cells + mc) (slots + ms) Q (F0 m (pc + 3) ls rest)) : W p l e R s m args below meth c H locs cells slots Q (F0 m pc ls (As.reverse ++ .ref q :: rest)) := by
  have C' := C
  obtain ⟨hx, hb, hml, hown, hts, hK, hA⟩ := C
  have hPc : va_P D vwCl [(q, e0)] H := fun k x h => by
    have hz : k < 1 := (List.getElem?_eq_some_iff.mp h).1
    rw [show k = 0 by omega] at h
    cases h
    exact hP L.length _ (by simp)
  have hini : (Cond.initialized y.cls).before args s = true := by rw [hyc]; exact hts _ (ini_gd hci)
  exact ct_run C' (va_runIN (As := As) (rest := rest) (b := q) (host := "ThinVolumes") ⟨hx, hb, hml, hown, hts⟩ (hM q H.size) ⟨va_cnB (ws' := am_gd) As.length hts (ct_good hcode) rfl rfl rfl hlk hini hd3 hR, hy1, hts _ hin⟩ ⟨ct_blind _ _ _ _ _ _, fun U hU hW => ⟨rfl, by rw [hU], by rw [hU]; exact hPc, hK.warm hW⟩⟩ rfl rfl hsize rfl (lv_room hcat) hdg hf) hP hD hS kk
end CT
