/-! constructors: the leaves -/
theorem ct_D1 {x : Nat × va_E} {sz : Nat} : va_D (va_A [x] sz) [x] := by
  refine ⟨fun i j p q hi hj _ => ?_, fun k q hk => va_A.in hk⟩
  have h1 : i < 1 := (List.getElem?_eq_some_iff.mp hi).1
  have h2 : j < 1 := (List.getElem?_eq_some_iff.mp hj).1
  omega
/-- a constructor from behind Object's -/
theorem ct_enter {l : Launch} {D : va_G} {k3 : ClassId × ClassId × ClassId} {y : MethodName} {bt : ByteArray} {mL fr lo mc ms oc i0 : Nat} {As : List Value} {e0 : va_E} {B : Nat → va_W → Prop} (hpl : plainFor y = true) (hyc : y.cls = am_cn oc) (hy : y.name = "<init>") (hfr : 1 ≤ fr) (hlo : 12 ≤ lo) (hle : ∀ h0 : Nat, (lg_sl (.ref h0 :: As)).length ≤ mL) (d0 : decode bt 0 = .ok (.aload_n 0, 1)) (d1 : decode bt 1 = .ok (.invokespecial i0, 3)) (hob : Cond.methodLink (am_cn oc) i0 Lib.objectInit ∈ am_gd)
    (body : ∀ (h0 : Nat) (p : Program) (e : Env) (s : State) (m : MethodId) (args : Array Value) (below : List Frame) (meth : Method) (c : Code) (Q : State → Prop) (A : Nat → Prop) (las : Array Slot), ct_C p s m args c mL bt oc D k3 s.heap A → meth.name = "<init>" → va_P D vwCl [(h0, e0)] s.heap → va_D A [(h0, e0)] → lv_has las mL (lv_args 0 (.ref h0 :: As)) →
      (∀ (pc : Nat) (H : Heap) (locs : List Loc) (ls : Array Slot) (w : va_W), decode bt pc = .ok (.return_, 1) → B h0 w → va_P D vwCl w H → va_D A w → va_S A s.heap H locs → W p l e { frames := fr, cells := mc, slots := ms, locals := lo } s m args below meth c H locs mc ms Q (F0 m pc ls [])) →
      W p l e { frames := fr, cells := mc, slots := ms, locals := lo } s m args below meth c s.heap [] 0 0 Q (F0 m 4 las [])) : ct_Mt l D k3 y bt mL fr lo mc ms As e0 B := by
  intro h0 sz
  refine Met.ofWF (cc := bt) (maxL := mL) (ret := none) (ws' := am_gd) hpl rfl ?_
  intro p e s m args below meth c s₁ Bd hml hv
  obtain ⟨rfl, hsz, hP, hK⟩ := hv
  have hx := Bd.exec
  have hb := Bd.bytes
  have hr := Bd.returns
  have hts := atoms_spec (ws := ct_ws y bt mL) Bd.pre
  have hts' : ∀ w ∈ am_gd, w.before (Value.ref h0 :: As).toArray s = true := fun w hw => hts w (List.mem_cons_of_mem _ hw)
  have hown : s.vm.findClass (am_cn oc) = some m.cls := by rw [← hyc]; exact findClass_of_methodNamed Bd.named
  have hlocks := Bd.notSynchronized
  have hin : meth.name = "<init>" := (name_of_methodNamed Bd.named Bd.method).1.trans hy
  subst hsz
  have hl := lv_entry (.ref h0 :: As) (n := mL) (hle h0)
  rw [lg_entry_eq]
  generalize (lg_sl (.ref h0 :: As) ++ List.replicate (mL - (lg_sl (.ref h0 :: As)).length) Slot.unset).toArray = las at hl ⊢
  have hC : ct_C p s m (Value.ref h0 :: As).toArray c mL bt oc D k3 s.heap (va_A [(h0, e0)] s.heap.size) := ⟨hx, hb, hml, hown, hts', hK, fun q h => Or.inr h⟩
  refine lv_aload_n hx hb d0 rfl (lv_at hl 0 rfl) ?_
  refine W.objInit hx hb hown (hts' _ hob) (hts' _ wOb_in) (hts' _ wOb_code) rfl (by rw [hml]; exact hl.1) rfl d1 hfr hlo ?_
  refine W.eq (g2 := F0 m 4 las []) rfl ?_
  exact body h0 p e s m _ below meth c _ _ las hC hin hP ct_D1 hl fun pc H locs ls w hd hBw hPw hDw hS => W.vret hx hb hr (fun t ht _ => ⟨⟨w, rfl, hBw, by rw [ht]; exact hPw, hDw⟩, hS.F ht⟩) hS.2.2 hd
/-! the pool -/
abbrev ct_ia (k3 : ClassId × ClassId × ClassId) (n : Nat) : va_E := .inl (k3.1, n, .inl (fun _ => 0))
def poL (k3 : ClassId × ClassId × ClassId) (h q1 q2 q3 q4 : Nat) : va_W := [(h, .inr (2, [.ref q1, .ref q2, .ref q3, .ref q4])), (q1, ct_ia k3 96), (q2, ct_ia k3 256), (q3, ct_ia k3 160), (q4, ct_ia k3 1280)]
set_option maxHeartbeats 4000000 in
theorem k_X2 (l : Launch) (D : va_G) (k3 : ClassId × ClassId × ClassId) : ct_Mt l D k3 yX2 cX2 1 1 64 4 1792 [] (.inr (2, [.null, .null, .null, .null])) (fun h0 w => ∃ q1 q2 q3 q4, w = poL k3 h0 q1 q2 q3 q4) := by
  refine ct_enter (oc := 2) (i0 := 3) (by decide) rfl rfl (by decide) (by decide) (fun _ => Nat.le_of_ble_eq_true rfl) zX2_0 zX2_1 wX2_ob ?_
  intro h0 p e s m args below meth c Q A las C hin hP hD hl hend
  have hS : va_S A s.heap s.heap [] := va_S.rf
  have hl : lv_has las 1 [(0, .ref h0)] := hl
  refine lv_aload_n C.1 C.2.1 zX2_4 rfl (lv_at hl 0 rfl) ?_
  refine lv_bipush (v := 96) C.1 C.2.1 zX2_5 rfl ?_
  refine ct_na0 C (bz := false) (N := 96) rfl (by decide) (Nat.le_of_ble_eq_true rfl) (Nat.le_of_ble_eq_true rfl) zX2_7 hP hD hS fun q1 H hP hD hS => ?_
  refine ct_pf C hin (ci := 2) (k := 0) (ty := .array .int) rfl (by decide +kernel) (by decide) (by simp) (by decide +kernel) rfl rfl rfl zX2_9 hP hD hS fun H locs hP hD hS => ?_
  refine lv_aload_n C.1 C.2.1 zX2_12 rfl (lv_at hl 0 rfl) ?_
  refine lv_sipush (v := 256) C.1 C.2.1 zX2_13 rfl ?_
  refine ct_na0 C (bz := false) (N := 256) rfl (by decide) (Nat.le_of_ble_eq_true rfl) (Nat.le_of_ble_eq_true rfl) zX2_16 hP hD hS fun q2 H hP hD hS => ?_
  refine ct_pf C hin (ci := 2) (k := 1) (ty := .array .int) rfl (by decide +kernel) (by decide) (by simp) (by decide +kernel) rfl rfl rfl zX2_18 hP hD hS fun H locs hP hD hS => ?_
  refine lv_aload_n C.1 C.2.1 zX2_21 rfl (lv_at hl 0 rfl) ?_
  refine lv_sipush (v := 160) C.1 C.2.1 zX2_22 rfl ?_
  refine ct_na0 C (bz := false) (N := 160) rfl (by decide) (Nat.le_of_ble_eq_true rfl) (Nat.le_of_ble_eq_true rfl) zX2_25 hP hD hS fun q3 H hP hD hS => ?_
  refine ct_pf C hin (ci := 2) (k := 2) (ty := .array .int) rfl (by decide +kernel) (by decide) (by simp) (by decide +kernel) rfl rfl rfl zX2_27 hP hD hS fun H locs hP hD hS => ?_
  refine lv_aload_n C.1 C.2.1 zX2_30 rfl (lv_at hl 0 rfl) ?_
  refine lv_sipush (v := 1280) C.1 C.2.1 zX2_31 rfl ?_
  refine ct_na0 C (bz := false) (N := 1280) rfl (by decide) (Nat.le_of_ble_eq_true rfl) (Nat.le_of_ble_eq_true rfl) zX2_34 hP hD hS fun q4 H hP hD hS => ?_
  refine ct_pf C hin (ci := 2) (k := 3) (ty := .array .int) rfl (by decide +kernel) (by decide) (by simp) (by decide +kernel) rfl rfl rfl zX2_36 hP hD hS fun H locs hP hD hS => ?_
  refine W.widen (k := 4) (n := 1792) (by decide) (by decide) ?_
  exact hend 39 H locs las (poL k3 h0 q1 q2 q3 q4) zX2_39 ⟨q1, q2, q3, q4, rfl⟩ hP hD hS
/-! the difference -/
def diL (k3 : ClassId × ClassId × ClassId) (h q1 : Nat) : va_W := [(h, .inr (0, [.ref q1, .int 0, .int 0])), (q1, ct_ia k3 512)]
set_option maxHeartbeats 4000000 in
theorem k_X0 (l : Launch) (D : va_G) (k3 : ClassId × ClassId × ClassId) : ct_Mt l D k3 yX0 cX0 1 1 64 1 512 [] (.inr (0, [.null, .int 0, .int 0])) (fun h0 w => ∃ q1, w = diL k3 h0 q1) := by
  refine ct_enter (oc := 0) (i0 := 3) (by decide) rfl rfl (by decide) (by decide) (fun _ => Nat.le_of_ble_eq_true rfl) zX0_0 zX0_1 wX0_ob ?_
  intro h0 p e s m args below meth c Q A las C hin hP hD hl hend
  have hS : va_S A s.heap s.heap [] := va_S.rf
  have hl : lv_has las 1 [(0, .ref h0)] := hl
  refine lv_aload_n C.1 C.2.1 zX0_4 rfl (lv_at hl 0 rfl) ?_
  refine lv_sipush (v := 512) C.1 C.2.1 zX0_5 rfl ?_
  refine ct_na0 C (bz := false) (N := 512) rfl (by decide) (Nat.le_of_ble_eq_true rfl) (Nat.le_of_ble_eq_true rfl) zX0_8 hP hD hS fun q1 H hP hD hS => ?_
  refine ct_pf C hin (ci := 0) (k := 0) (ty := .array .int) rfl (by decide +kernel) (by decide) (by simp) (by decide +kernel) rfl rfl rfl zX0_10 hP hD hS fun H locs hP hD hS => ?_
  refine W.widen (k := 1) (n := 512) (by decide) (by decide) ?_
  exact hend 13 H locs las (diL k3 h0 q1) zX0_13 ⟨q1, rfl⟩ hP hD hS
/-! rows -/
def roL (k3 : ClassId × ClassId × ClassId) (n h q1 q2 : Nat) : va_W := [(h, .inr (3, [.ref q1, .ref q2, .int 0])), (q1, ct_ia k3 n), (q2, ct_ia k3 n)]
set_option maxHeartbeats 4000000 in
theorem k_X3 (l : Launch) (D : va_G) (k3 : ClassId × ClassId × ClassId) (n : Nat) (hn : n ≤ 512) : ct_Mt l D k3 yX3 cX3 2 1 64 2 (2 * n) [.int (Int32.ofNat n)] (.inr (3, [.null, .null, .int 0])) (fun h0 w => ∃ q1 q2, w = roL k3 n h0 q1 q2) := by
  refine ct_enter (oc := 3) (i0 := 3) (by decide) rfl rfl (by decide) (by decide) (fun _ => Nat.le_of_ble_eq_true rfl) zX3_0 zX3_1 wX3_ob ?_
  intro h0 p e s m args below meth c Q A las C hin hP hD hl hend
  have hS : va_S A s.heap s.heap [] := va_S.rf
  have hl : lv_has las 2 [(0, .ref h0), (1, .int (Int32.ofNat n))] := hl
  have hmx : (if Int32.ofNat n < 0 then (0 : Int32) else Int32.ofNat n) = Int32.ofNat n := if_neg (nI_pos (n := n) (by omega))
  have hts := C.2.2.2.2.1
  have hlk : (Cond.methodLink (am_cn 3) 9 Lib.Math.max.name).before args s = true := hts _ (gd_mem (List.mem_of_getElem? (i := 230) (by decide +kernel)) rfl)
  refine lv_aload_n C.1 C.2.1 zX3_4 rfl (lv_at hl 0 rfl) ?_
  refine lv_iload_n C.1 C.2.1 zX3_5 rfl (lv_at hl 1 rfl) ?_
  refine lv_iconst (v := 0) C.1 C.2.1 zX3_6 (by decide) ?_
  refine va_mmax C.1 C.2.1 (by rw [C.2.2.1]; exact hl.1.symm) C.2.2.2.1 hlk (hts _ (nn_gd (by simp) rfl)) (hts _ (ini_gd (c := 11) (by decide))) (hts _ (nn_gd (by simp) rfl)) (Nat.le_of_ble_eq_true rfl) (Nat.le_of_ble_eq_true rfl) (Nat.zero_le _) (Nat.zero_le _) zX3_7 ?_
  rw [hmx]
  refine ct_na0 C (bz := false) (N := n) rfl (by omega) (Nat.le_of_ble_eq_true rfl) (by show 0 + n ≤ 2 * n; omega) zX3_10 hP hD hS fun q1 H hP hD hS => ?_
  refine ct_pf C hin (ci := 3) (k := 0) (ty := .array .int) rfl (by decide +kernel) (by decide) (by simp) (by decide +kernel) rfl rfl rfl zX3_12 hP hD hS fun H locs hP hD hS => ?_
  refine lv_aload_n C.1 C.2.1 zX3_15 rfl (lv_at hl 0 rfl) ?_
  refine lv_iload_n C.1 C.2.1 zX3_16 rfl (lv_at hl 1 rfl) ?_
  refine lv_iconst (v := 0) C.1 C.2.1 zX3_17 (by decide) ?_
  refine va_mmax C.1 C.2.1 (by rw [C.2.2.1]; exact hl.1.symm) C.2.2.2.1 hlk (hts _ (nn_gd (by simp) rfl)) (hts _ (ini_gd (c := 11) (by decide))) (hts _ (nn_gd (by simp) rfl)) (Nat.le_of_ble_eq_true rfl) (Nat.le_of_ble_eq_true rfl) (Nat.le_of_ble_eq_true rfl) (by show 0 + n ≤ 2 * n; omega) zX3_18 ?_
  rw [hmx]
  refine ct_na0 C (bz := false) (N := n) rfl (by omega) (Nat.le_of_ble_eq_true rfl) (by show 0 + n + n ≤ 2 * n; omega) zX3_21 hP hD hS fun q2 H hP hD hS => ?_
  refine ct_pf C hin (ci := 3) (k := 1) (ty := .array .int) rfl (by decide +kernel) (by decide) (by simp) (by decide +kernel) rfl rfl rfl zX3_23 hP hD hS fun H locs hP hD hS => ?_
  refine W.widen (k := 2) (n := 2 * n) (by decide) (by omega) ?_
  exact hend 26 H locs las (roL k3 n h0 q1 q2) zX3_26 ⟨q1, q2, rfl⟩ hP hD hS
