/-! Arrays.fill of twelve ints that are 0; Model.copy of zeros to zeros -/
abbrev ct_ff (k3 : ClassId × ClassId × ClassId) (v : Int32) (i : Nat) : va_E := .inl (k3.1, 12, .inl (fun j => if j < i then v else 0))
def ct_sPc (D : va_G) (k3 : ClassId × ClassId × ClassId) (w : va_W) (As : List Value) : Array Value → State → Prop := va_Pc As (fun U => va_P D vwCl w U.heap ∧ ct_K D k3 U)
theorem ct_sbl (D : va_G) (k3 : ClassId × ClassId × ClassId) (w : va_W) (As : List Value) : FrameBlind (ct_sPc D k3 w As) := by
  intro a U f mk q
  obtain ⟨q0, qP, qK, qN1, qN2, qO⟩ := q
  exact ⟨q0, qP, va_K.moved (u := U) (U := U.calling f mk a) (Vm.Alike.refl U.vm) qK, va_Nw.same (u := U) (U := U.calling f mk a) rfl rfl qN1, va_Nw.same (u := U) (U := U.calling f mk a) rfl rfl qN2, va_AO.moved (u := U) (U := U.calling f mk a) (Vm.Alike.refl U.vm) qO⟩
def ct_sQ (D : va_G) (w : va_W) (A : Nat → Prop) : Array Value → State → Outcome → State → Prop := va_Qv (S := Unit) (fun _ => True) (fun _ t => va_P D vwCl w t.heap) A
theorem ct_D2 {A : Nat → Prop} {x : Nat × va_E} (h : A x.1) : va_D A [x] := by
  refine ⟨fun i j p q hi hj _ => ?_, fun k q hk => ?_⟩
  · have h1 : i < 1 := (List.getElem?_eq_some_iff.mp hi).1
    have h2 : j < 1 := (List.getElem?_eq_some_iff.mp hj).1
    omega
  · have h1 : k < 1 := (List.getElem?_eq_some_iff.mp hk).1
    rw [show k = 0 by omega] at hk
    cases hk
    exact h
set_option maxHeartbeats 4000000 in
theorem k_fill (l : Launch) (D : va_G) (k3 : ClassId × ClassId × ClassId) (a : Nat) (v : Int32) : Met l yXf (ct_ws yXf cXf 4) { frames := 1, cells := 0, slots := 0, locals := 64 } (ct_sPc D k3 [(a, ct_ia k3 12)] [.ref a, .int v]) (ct_sQ D [(a, ct_ff k3 v 12)] (fun q => q = a)) 0 0 (fun q => q = a) := by
  refine Met.ofWF (cc := cXf) (maxL := 4) (ret := none) (ws' := am_gd) (by decide) rfl ?_
  intro p e s m args below meth c s₁ Bd hml hv
  obtain ⟨rfl, hP, hK⟩ := hv
  have hx := Bd.exec
  have hb := Bd.bytes
  have hr := Bd.returns
  have hlocks := Bd.notSynchronized
  have hl := lv_entry [.ref a, .int v] (n := 4) (Nat.le_of_ble_eq_true rfl)
  rw [lg_entry_eq]
  generalize (lg_sl [.ref a, .int v] ++ List.replicate (4 - (lg_sl [.ref a, .int v]).length) Slot.unset).toArray = las at hl ⊢
  have hl : lv_has las 4 [(0, .ref a), (1, .int v)] := hl
  have hS : va_S (fun q => q = a) s.heap s.heap [] := va_S.rf
  have hD : ∀ e : va_E, va_D (fun q => q = a) [(a, e)] := fun e => ct_D2 rfl
  refine lv_iconst (v := 0) hx hb zXf_0 (by decide) ?_
  refine lv_istore_n (i := 2) (lv' := [(2, .int 0), (0, .ref a), (1, .int v)]) hx hb zXf_1 rfl hl (by decide) rfl fun las hl => ?_
  refine lv_aload_n hx hb zXf_2 rfl (lv_at hl 1 rfl) ?_
  refine va_alen hx hb hK.1 hP 0 0 rfl rfl (v := 12) rfl zXf_3 ?_
  refine lv_istore_n (i := 3) (lv' := [(3, .int 12), (2, .int 0), (0, .ref a), (1, .int v)]) hx hb zXf_4 rfl hl (by decide) rfl fun las hl => ?_
  have hl : lv_has las 4 [(2, .int (nI 0)), (3, .int 12), (0, .ref a), (1, .int v)] := ⟨hl.1, hl.2.1, fun q hq => hl.2.2 q (by simp at hq ⊢; rcases hq with h | h | h | h <;> simp [h, nI])⟩
  have hP0 : va_P D vwCl [(a, ct_ff k3 v 0)] s.heap := by
    have e0 : (fun j : Nat => if j < 0 then v else 0) = fun _ => (0 : Int32) := by funext j; simp
    unfold ct_ff
    rw [e0]
    exact hP
  have loop : ∀ n i : Nat, i + n = 12 → ∀ (H : Heap) (locs : List Loc) (las : Array Slot), lv_has las 4 [(2, .int (nI i)), (3, .int 12), (0, .ref a), (1, .int v)] → va_P D vwCl [(a, ct_ff k3 v i)] H → va_S (fun q => q = a) s.heap H locs → W p l e { frames := 1, cells := 0, slots := 0, locals := 64 } s m [Value.ref a, .int v].toArray below meth c H locs 0 0 (MQ below (ct_sQ D [(a, ct_ff k3 v 12)] (fun q => q = a)) [Value.ref a, .int v].toArray s 0 0 (fun q => q = a)) (F0 m 5 las []) := by
    intro n
    induction n with
    | zero =>
      intro i hi H locs las hl hP hS
      have hi : i = 12 := by omega
      subst hi
      refine lv_iload_n hx hb zXf_5 rfl (lv_at hl 0 rfl) ?_
      refine lv_iload_n hx hb zXf_6 rfl (lv_at hl 1 rfl) ?_
      refine lv_icmp_ge hx hb zXf_7 (tgt := 20) rfl (fun _ => ?_) (fun h => absurd (nI_le (a := 12) (b := 12) (by omega) (by omega)) h)
      exact W.vret hx hb hr (fun t ht _ => ⟨⟨(), rfl, trivial, by show va_P _ _ _ t.heap; rw [ht]; exact hP⟩, hS.F ht⟩) hS.2.2 zXf_20
    | succ n ih =>
      intro i hi H locs las hl hP hS
      refine lv_iload_n hx hb zXf_5 rfl (lv_at hl 0 rfl) ?_
      refine lv_iload_n hx hb zXf_6 rfl (lv_at hl 1 rfl) ?_
      refine lv_icmp_ge hx hb zXf_7 (tgt := 20) rfl (fun h => absurd h (nI_ge (a := i) (b := 12) (by omega) (by omega))) (fun _ => ?_)
      refine lv_aload_n hx hb zXf_10 rfl (lv_at hl 2 rfl) ?_
      refine lv_iload_n hx hb zXf_11 rfl (lv_at hl 0 rfl) ?_
      refine lv_iload_n hx hb zXf_12 rfl (lv_at hl 3 rfl) ?_
      refine va_iast hx hb hK.1 hP (hD _) hS 0 0 rfl rfl (nI_in (c := i) (N := 12) (by omega) (by omega)) zXf_13 fun H1 locs1 hP1 _ hS1 => ?_
      refine lv_iinc (k := 0) (v := nI (i + 1)) (lv' := [(2, .int (nI (i + 1))), (3, .int 12), (0, .ref a), (1, .int v)]) hx hb zXf_14 hl rfl (nI_succ i).symm (by decide) rfl fun las' hl' => ?_
      refine lv_goto hx hb zXf_17 (tgt := 5) rfl ?_
      refine ih (i + 1) (by omega) H1 locs1 las' hl' ?_ hS1
      have e1 : upd (fun j : Nat => if j < i then v else (0 : Int32)) (nI i).toNatClampNeg v = fun j => if j < i + 1 then v else 0 := by
        rw [nI_clamp (by omega)]
        funext j
        unfold upd
        by_cases h1 : j = i
        · subst h1; simp
        · by_cases h2 : j < i
          · have h3 : j < i + 1 := by omega
            simp [h1, h2, h3]
          · have h3 : ¬ j < i + 1 := by omega
            simp [h1, h2, h3]
      rw [e1] at hP1
      exact hP1
  exact loop 12 0 rfl s.heap [] las hl hP0 hS
set_option maxHeartbeats 4000000 in
theorem k_copy (l : Launch) (D : va_G) (k3 : ClassId × ClassId × ClassId) (a b : Nat) (hab : a ≠ b) : Met l yXc (ct_ws yXc cXc 3) { frames := 1, cells := 0, slots := 0, locals := 64 } (ct_sPc D k3 [(a, ct_ia k3 32336), (b, ct_ia k3 32336)] [.ref a, .ref b]) (ct_sQ D [(a, ct_ia k3 32336), (b, ct_ia k3 32336)] (fun q => q = a ∨ q = b)) 0 0 (fun q => q = a ∨ q = b) := by
  refine Met.ofWF (cc := cXc) (maxL := 3) (ret := none) (ws' := am_gd) (by decide) rfl ?_
  intro p e s m args below meth c s₁ Bd hml hv
  obtain ⟨rfl, hP, hK⟩ := hv
  have hx := Bd.exec
  have hb := Bd.bytes
  have hr := Bd.returns
  have hlocks := Bd.notSynchronized
  have hl := lv_entry [.ref a, .ref b] (n := 3) (Nat.le_of_ble_eq_true rfl)
  rw [lg_entry_eq]
  generalize (lg_sl [.ref a, .ref b] ++ List.replicate (3 - (lg_sl [.ref a, .ref b]).length) Slot.unset).toArray = las at hl ⊢
  have hl : lv_has las 3 [(0, .ref a), (1, .ref b)] := hl
  have hS : va_S (fun q => q = a ∨ q = b) s.heap s.heap [] := va_S.rf
  refine lv_iconst (v := 0) hx hb zXc_0 (by decide) ?_
  refine lv_istore_n (i := 2) (lv' := [(2, .int (nI 0)), (0, .ref a), (1, .ref b)]) hx hb zXc_1 rfl hl (by decide) rfl fun las hl => ?_
  have hD : va_D (fun q => q = a ∨ q = b) [(a, ct_ia k3 32336), (b, ct_ia k3 32336)] := by
    refine ⟨fun i j x y hi hj hxy => ?_, fun k x hk => ?_⟩
    · have h1 : i < 2 := (List.getElem?_eq_some_iff.mp hi).1
      have h2 : j < 2 := (List.getElem?_eq_some_iff.mp hj).1
      rcases (show i = 0 ∨ i = 1 by omega) with rfl | rfl <;> rcases (show j = 0 ∨ j = 1 by omega) with rfl | rfl <;> cases hi <;> cases hj
      · rfl
      · exact absurd hxy hab
      · exact absurd hxy.symm hab
      · rfl
    · have h1 : k < 2 := (List.getElem?_eq_some_iff.mp hk).1
      rcases (show k = 0 ∨ k = 1 by omega) with rfl | rfl <;> cases hk
      · exact Or.inl rfl
      · exact Or.inr rfl
  have loop : ∀ n i : Nat, i + n = 32336 → ∀ (H : Heap) (locs : List Loc) (las : Array Slot), lv_has las 3 [(2, .int (nI i)), (0, .ref a), (1, .ref b)] → va_P D vwCl [(a, ct_ia k3 32336), (b, ct_ia k3 32336)] H → va_S (fun q => q = a ∨ q = b) s.heap H locs → W p l e { frames := 1, cells := 0, slots := 0, locals := 64 } s m [Value.ref a, .ref b].toArray below meth c H locs 0 0 (MQ below (ct_sQ D [(a, ct_ia k3 32336), (b, ct_ia k3 32336)] (fun q => q = a ∨ q = b)) [Value.ref a, .ref b].toArray s 0 0 (fun q => q = a ∨ q = b)) (F0 m 2 las []) := by
    intro n
    induction n with
    | zero =>
      intro i hi H locs las hl hP hS
      have hi : i = 32336 := by omega
      subst hi
      refine lv_iload_n hx hb zXc_2 rfl (lv_at hl 0 rfl) ?_
      refine lv_sipush (v := nI 32336) hx hb zXc_3 rfl ?_
      refine lv_icmp_ge hx hb zXc_6 (tgt := 21) rfl (fun _ => ?_) (fun h => absurd (nI_le (a := 32336) (b := 32336) (by omega) (by omega)) h)
      exact W.vret hx hb hr (fun t ht _ => ⟨⟨(), rfl, trivial, by show va_P _ _ _ t.heap; rw [ht]; exact hP⟩, hS.F ht⟩) hS.2.2 zXc_21
    | succ n ih =>
      intro i hi H locs las hl hP hS
      refine lv_iload_n hx hb zXc_2 rfl (lv_at hl 0 rfl) ?_
      refine lv_sipush (v := nI 32336) hx hb zXc_3 rfl ?_
      refine lv_icmp_ge hx hb zXc_6 (tgt := 21) rfl (fun h => absurd h (nI_ge (a := i) (b := 32336) (by omega) (by omega))) (fun _ => ?_)
      refine lv_aload_n hx hb zXc_9 rfl (lv_at hl 2 rfl) ?_
      refine lv_iload_n hx hb zXc_10 rfl (lv_at hl 0 rfl) ?_
      refine lv_aload_n hx hb zXc_11 rfl (lv_at hl 1 rfl) ?_
      refine lv_iload_n hx hb zXc_12 rfl (lv_at hl 0 rfl) ?_
      refine va_iald hx hb hK.1 hP 0 0 rfl rfl (nI_in (c := i) (N := 32336) (by omega) (by omega)) zXc_13 ?_
      refine va_iast hx hb hK.1 hP hD hS 1 0 rfl rfl (nI_in (c := i) (N := 32336) (by omega) (by omega)) zXc_14 fun H1 locs1 hP1 _ hS1 => ?_
      refine lv_iinc (k := 0) (v := nI (i + 1)) (lv' := [(2, .int (nI (i + 1))), (0, .ref a), (1, .ref b)]) hx hb zXc_15 hl rfl (nI_succ i).symm (by decide) rfl fun las' hl' => ?_
      refine lv_goto hx hb zXc_18 (tgt := 2) rfl ?_
      refine ih (i + 1) (by omega) H1 locs1 las' hl' ?_ hS1
      have e1 : upd (fun _ : Nat => (0 : Int32)) (nI i).toNatClampNeg 0 = fun _ => 0 := by
        funext j
        unfold upd
        split <;> rfl
      rw [e1] at hP1
      exact hP1
  exact loop 32336 0 rfl s.heap [] las hl hP hS
