/-! constructors: State, Past, ThinVolumes, Model -/
section CU
variable {p : Program} {l : Launch} {e : Env} {R : Room} {s : State} {m : MethodId} {args : Array Value} {below : List Frame} {meth : Method} {c : Code} {H H0 : Heap} {locs : List Loc} {A : Nat → Prop} {cells slots : Nat} {Q : State → Prop} {nL : Nat} {cc : ByteArray} {oc pc : Nat} {ls : Array Slot} {rest : List Value} {D : va_G} {k3 : ClassId × ClassId × ClassId} {L : va_W}
theorem ct_fl (C : ct_C p s m args c nL cc oc D k3 H0 A) {k a idx : Nat} {v : Int32} (hlk : Cond.methodLink (am_cn oc) idx yXf ∈ am_gd) (hR : 1 + 1 ≤ R.frames ∧ 8 + (4 + 11) + 64 ≤ R.locals) (hf : cells + 0 ≤ R.cells ∧ slots + 0 ≤ R.slots) (hcat : (rest.map fun v => v.category).sum ≤ 8) (hsize : ls.size = nL) (hdg : decode cc pc = .ok (.invokestatic idx, 3)) (hi : L[k]? = some (a, ct_ia k3 12)) (hP : va_P D vwCl L H) (hD : va_D A L) (hS : va_S A H0 H locs)
    (kk : ∀ (H1 : Heap) (locs1 : List Loc), va_P D vwCl (L.set k (a, ct_ff k3 v 12)) H1 → va_D A (L.set k (a, ct_ff k3 v 12)) → va_S A H0 H1 locs1 → W p l e R s m args below meth c H1 locs1 cells slots Q (F0 m (pc + 3) ls rest)) : W p l e R s m args below meth c H locs cells slots Q (F0 m pc ls (.int v :: .ref a :: rest)) := by
  obtain ⟨hx, hb, hml, hown, hts, hK, hA⟩ := C
  have hPc : va_P D vwCl [(a, ct_ia k3 12)] H := fun i x h => by
    have hz : i < 1 := (List.getElem?_eq_some_iff.mp h).1
    rw [show i = 0 by omega] at h
    cases h
    exact hP k _ hi
  have hAa : A a := hD.2 k _ hi
  refine va_callv (va_runS (As := [.ref a, .int v]) (rest := rest) ⟨hx, hb, hml, hown, hts⟩ (k_fill l D k3 a v) ⟨callB_of (ws' := am_gd) 2 hts (ct_good wXf_code) rfl rfl rfl (hts _ (ini_gd (c := 7) (by decide))) (hts _ hlk) ⟨by decide, by decide, by decide +kernel⟩ hR, hts _ wXf_st⟩ ⟨ct_sbl _ _ _ _, fun U hU hW => ⟨rfl, by rw [hU]; exact hPc, hK.warm hW⟩⟩ rfl rfl hsize rfl (lv_room hcat) hdg hf) hS (fun q _ h => h ▸ hAa) (fun q h => h ▸ hAa) (fun u t H1 locs1 ht hvm hw hB hz1 hk1 hS1 => ?_)
  rw [ht] at hB
  obtain ⟨hP1, hD1⟩ := jn_set hP hD hi (fun q h1 h2 => hk1 q h1 h2) (hB 0 _ rfl)
  exact kk H1 locs1 hP1 hD1 hS1
theorem ct_cy (C : ct_C p s m args c nL cc oc D k3 H0 A) {i j a b idx : Nat} (hlk : Cond.methodLink (am_cn oc) idx yXc ∈ am_gd) (hij : i ≠ j) (hR : 1 + 1 ≤ R.frames ∧ 8 + (3 + 11) + 64 ≤ R.locals) (hf : cells + 0 ≤ R.cells ∧ slots + 0 ≤ R.slots) (hcat : (rest.map fun v => v.category).sum ≤ 8) (hsize : ls.size = nL) (hdg : decode cc pc = .ok (.invokestatic idx, 3)) (hi : L[i]? = some (a, ct_ia k3 32336)) (hj : L[j]? = some (b, ct_ia k3 32336)) (hP : va_P D vwCl L H) (hD : va_D A L) (hS : va_S A H0 H locs)
    (kk : ∀ (H1 : Heap) (locs1 : List Loc), va_P D vwCl L H1 → va_S A H0 H1 locs1 → W p l e R s m args below meth c H1 locs1 cells slots Q (F0 m (pc + 3) ls rest)) : W p l e R s m args below meth c H locs cells slots Q (F0 m pc ls (.ref b :: .ref a :: rest)) := by
  obtain ⟨hx, hb, hml, hown, hts, hK, hA⟩ := C
  have hPc : va_P D vwCl [(a, ct_ia k3 32336), (b, ct_ia k3 32336)] H := fun n x h => by
    have hz : n < 2 := (List.getElem?_eq_some_iff.mp h).1
    rcases (show n = 0 ∨ n = 1 by omega) with rfl | rfl <;> cases h
    · exact hP i _ hi
    · exact hP j _ hj
  have hAa : A a := hD.2 i _ hi
  have hAb : A b := hD.2 j _ hj
  have hab : a ≠ b := fun h => hij (hD.1 i j _ _ hi hj h)
  refine va_callv (va_runS (As := [.ref a, .ref b]) (rest := rest) ⟨hx, hb, hml, hown, hts⟩ (k_copy l D k3 a b hab) ⟨callB_of (ws' := am_gd) 2 hts (ct_good wXc_code) rfl rfl rfl (hts _ (ini_gd (c := 6) (by decide))) (hts _ hlk) ⟨by decide, by decide, by decide +kernel⟩ hR, hts _ wXc_st⟩ ⟨ct_sbl _ _ _ _, fun U hU hW => ⟨rfl, by rw [hU]; exact hPc, hK.warm hW⟩⟩ rfl rfl hsize rfl (lv_room hcat) hdg hf) hS (fun q _ h => h.elim (fun h => h ▸ hAa) fun h => h ▸ hAb) (fun q h => h.elim (fun h => h ▸ hAa) fun h => h ▸ hAb) (fun u t H1 locs1 ht hvm hw hB hz1 hk1 hS1 => ?_)
  rw [ht] at hB
  refine kk H1 locs1 (fun n x hn => ?_) hS1
  by_cases h1 : n = i
  · subst h1
    rw [hi] at hn
    cases hn
    exact hB 0 _ rfl
  · by_cases h2 : n = j
    · subst h2
      rw [hj] at hn
      cases hn
      exact hB 1 _ rfl
    · refine (hP n x hn).kept (hk1 x.1 ((hP n x hn).lt) ?_)
      rintro (h | h)
      · exact h1 (hD.1 n i _ _ hn hi h)
      · exact h2 (hD.1 n j _ _ hn hj h)
end CU
/-! State -/
def stE (k3 : ClassId × ClassId × ClassId) (f : Nat → Nat) (o : Nat) : va_E := match o with
  | 0 => .inr (4, [.ref (f 1), .ref (f 6), .ref (f 7), .ref (f 8), .ref (f 9), .ref (f 10), .ref (f 11), .ref (f 12), .ref (f 13), .int 0, .int 0, .int 0])
  | 1 => .inr (2, [.ref (f 2), .ref (f 3), .ref (f 4), .ref (f 5)])
  | 2 => ct_ia k3 96
  | 3 => ct_ia k3 256
  | 4 => ct_ia k3 160
  | 5 => ct_ia k3 1280
  | 8 => .inl (k3.2.1, 12, .inl (fun _ => 0))
  | 9 => ct_ff k3 (-1) 12
  | 12 => ct_ff k3 (-1) 12
  | _ => ct_ia k3 12
def stL (k3 : ClassId × ClassId × ClassId) (f : Nat → Nat) : va_W := (List.range 14).map (fun i => (f i, stE k3 f i))
abbrev stB : va_E := .inr (4, [.null, .null, .null, .null, .null, .null, .null, .null, .null, .int 0, .int 0, .int 0])
theorem df_0 : ∀ j, j < 3 → defaultValue (am_cty 0 j) = vp_V [.null, .int 0, .int 0] j := by
  intro j hj
  rcases (show j = 0 ∨ j = 1 ∨ j = 2 by omega) with rfl | rfl | rfl <;> rfl
theorem df_1 : ∀ j, j < 2 → defaultValue (am_cty 1 j) = vp_V [.null, .int 0] j := by
  intro j hj
  rcases (show j = 0 ∨ j = 1 by omega) with rfl | rfl <;> rfl
theorem df_2 : ∀ j, j < 4 → defaultValue (am_cty 2 j) = vp_V [.null, .null, .null, .null] j := by
  intro j hj
  rcases (show j = 0 ∨ j = 1 ∨ j = 2 ∨ j = 3 by omega) with rfl | rfl | rfl | rfl <;> rfl
theorem df_3 : ∀ j, j < 3 → defaultValue (am_cty 3 j) = vp_V [.null, .null, .int 0] j := by
  intro j hj
  rcases (show j = 0 ∨ j = 1 ∨ j = 2 by omega) with rfl | rfl | rfl <;> rfl
theorem df_4 : ∀ j, j < 12 → defaultValue (am_cty 4 j) = vp_V [.null, .null, .null, .null, .null, .null, .null, .null, .null, .int 0, .int 0, .int 0] j := by
  intro j hj
  rcases (show j = 0 ∨ j = 1 ∨ j = 2 ∨ j = 3 ∨ j = 4 ∨ j = 5 ∨ j = 6 ∨ j = 7 ∨ j = 8 ∨ j = 9 ∨ j = 10 ∨ j = 11 by omega) with rfl | rfl | rfl | rfl | rfl | rfl | rfl | rfl | rfl | rfl | rfl | rfl <;> rfl
theorem df_5 : ∀ j, j < 9 → defaultValue (am_cty 5 j) = vp_V [.null, .null, .null, .null, .null, .null, .null, .null, .null] j := by
  intro j hj
  rcases (show j = 0 ∨ j = 1 ∨ j = 2 ∨ j = 3 ∨ j = 4 ∨ j = 5 ∨ j = 6 ∨ j = 7 ∨ j = 8 by omega) with rfl | rfl | rfl | rfl | rfl | rfl | rfl | rfl | rfl <;> rfl
theorem df_6 : ∀ j, j < 20 → defaultValue (am_cty 6 j) = vp_V [.null, .null, .int 0, .null, .null, .null, .null, .null, .null, .int 0, .int 0, .null, .null, .int 0, .null, .null, .int 0, .int 0, .int 0, .int 0] j := by
  intro j hj
  rcases (show j = 0 ∨ j = 1 ∨ j = 2 ∨ j = 3 ∨ j = 4 ∨ j = 5 ∨ j = 6 ∨ j = 7 ∨ j = 8 ∨ j = 9 ∨ j = 10 ∨ j = 11 ∨ j = 12 ∨ j = 13 ∨ j = 14 ∨ j = 15 ∨ j = 16 ∨ j = 17 ∨ j = 18 ∨ j = 19 by omega) with rfl | rfl | rfl | rfl | rfl | rfl | rfl | rfl | rfl | rfl | rfl | rfl | rfl | rfl | rfl | rfl | rfl | rfl | rfl | rfl <;> rfl
set_option maxHeartbeats 4000000 in
theorem k_X4 (l : Launch) (D : va_G) (k3 : ClassId × ClassId × ClassId) : ct_Mt l D k3 yX4 cX4 1 2 128 13 1892 [] stB (fun h0 w => ∃ f : Nat → Nat, f 0 = h0 ∧ w = stL k3 f) := by
  refine ct_enter (oc := 4) (i0 := 3) (by decide) rfl rfl (by decide) (by decide) (fun _ => Nat.le_of_ble_eq_true rfl) zX4_0 zX4_1 wX4_ob ?_
  intro h0 p e s m args below meth c Q A las C hin hP hD hl hend
  have hS : va_S A s.heap s.heap [] := va_S.rf
  have hl : lv_has las 1 [(0, .ref h0)] := hl
  refine lv_aload_n C.1 C.2.1 zX4_4 rfl (lv_at hl 0 rfl) ?_
  refine ct_nw C (ci := 2) (fs := [.null, .null, .null, .null]) rfl df_2 wl_130 wi_2 (Nat.le_of_ble_eq_true rfl) (Nat.le_of_ble_eq_true rfl) zX4_5 zX4_8 hP hD hS fun q H hP hD hS => ?_
  refine ct_ivN (k_X2 l D k3) C rfl (ci := 2) rfl (by decide) wX2_code C.2.2.2.2.2.1.2.1 wX2_in ⟨by decide, by decide, by decide +kernel⟩ ⟨(Nat.le_of_ble_eq_true rfl), (Nat.le_of_ble_eq_true rfl)⟩ ⟨(Nat.le_of_ble_eq_true rfl), (Nat.le_of_ble_eq_true rfl)⟩ (Nat.le_of_ble_eq_true rfl) hl.1 zX4_9 hP hD hS fun w H locs hw hP hD hS => ?_
  obtain ⟨q1, q2, q3, q4, rfl⟩ := hw
  refine ct_pf C hin (ci := 4) (k := 0) (ty := .object "ThinVolumes$Pool") rfl (by decide +kernel) (by decide) (Nat.le_of_ble_eq_true rfl) (by decide +kernel) rfl rfl rfl zX4_12 hP hD hS fun H locs hP hD hS => ?_
  refine lv_aload_n C.1 C.2.1 zX4_15 rfl (lv_at hl 0 rfl) ?_
  refine lv_bipush (v := 12) C.1 C.2.1 zX4_16 rfl ?_
  refine ct_na0 C (bz := false) (N := 12) rfl (by decide) (Nat.le_of_ble_eq_true rfl) (Nat.le_of_ble_eq_true rfl) zX4_18 hP hD hS fun r0 H hP hD hS => ?_
  refine ct_pf C hin (ci := 4) (k := 1) (ty := .array .int) rfl (by decide +kernel) (by decide) (Nat.le_of_ble_eq_true rfl) (by decide +kernel) rfl rfl rfl zX4_20 hP hD hS fun H locs hP hD hS => ?_
  refine lv_aload_n C.1 C.2.1 zX4_23 rfl (lv_at hl 0 rfl) ?_
  refine lv_bipush (v := 12) C.1 C.2.1 zX4_24 rfl ?_
  refine ct_na0 C (bz := false) (N := 12) rfl (by decide) (Nat.le_of_ble_eq_true rfl) (Nat.le_of_ble_eq_true rfl) zX4_26 hP hD hS fun r1 H hP hD hS => ?_
  refine ct_pf C hin (ci := 4) (k := 2) (ty := .array .int) rfl (by decide +kernel) (by decide) (Nat.le_of_ble_eq_true rfl) (by decide +kernel) rfl rfl rfl zX4_28 hP hD hS fun H locs hP hD hS => ?_
  refine lv_aload_n C.1 C.2.1 zX4_31 rfl (lv_at hl 0 rfl) ?_
  refine lv_bipush (v := 12) C.1 C.2.1 zX4_32 rfl ?_
  refine ct_na0 C (bz := true) (N := 12) rfl (by decide) (Nat.le_of_ble_eq_true rfl) (Nat.le_of_ble_eq_true rfl) zX4_34 hP hD hS fun r2 H hP hD hS => ?_
  refine ct_pf C hin (ci := 4) (k := 3) (ty := .array .boolean) rfl (by decide +kernel) (by decide) (Nat.le_of_ble_eq_true rfl) (by decide +kernel) rfl rfl rfl zX4_36 hP hD hS fun H locs hP hD hS => ?_
  refine lv_aload_n C.1 C.2.1 zX4_39 rfl (lv_at hl 0 rfl) ?_
  refine lv_bipush (v := 12) C.1 C.2.1 zX4_40 rfl ?_
  refine ct_na0 C (bz := false) (N := 12) rfl (by decide) (Nat.le_of_ble_eq_true rfl) (Nat.le_of_ble_eq_true rfl) zX4_42 hP hD hS fun r3 H hP hD hS => ?_
  refine ct_pf C hin (ci := 4) (k := 4) (ty := .array .int) rfl (by decide +kernel) (by decide) (Nat.le_of_ble_eq_true rfl) (by decide +kernel) rfl rfl rfl zX4_44 hP hD hS fun H locs hP hD hS => ?_
  refine lv_aload_n C.1 C.2.1 zX4_47 rfl (lv_at hl 0 rfl) ?_
  refine lv_bipush (v := 12) C.1 C.2.1 zX4_48 rfl ?_
  refine ct_na0 C (bz := false) (N := 12) rfl (by decide) (Nat.le_of_ble_eq_true rfl) (Nat.le_of_ble_eq_true rfl) zX4_50 hP hD hS fun r4 H hP hD hS => ?_
  refine ct_pf C hin (ci := 4) (k := 5) (ty := .array .int) rfl (by decide +kernel) (by decide) (Nat.le_of_ble_eq_true rfl) (by decide +kernel) rfl rfl rfl zX4_52 hP hD hS fun H locs hP hD hS => ?_
  refine lv_aload_n C.1 C.2.1 zX4_55 rfl (lv_at hl 0 rfl) ?_
  refine lv_bipush (v := 12) C.1 C.2.1 zX4_56 rfl ?_
  refine ct_na0 C (bz := false) (N := 12) rfl (by decide) (Nat.le_of_ble_eq_true rfl) (Nat.le_of_ble_eq_true rfl) zX4_58 hP hD hS fun r5 H hP hD hS => ?_
  refine ct_pf C hin (ci := 4) (k := 6) (ty := .array .int) rfl (by decide +kernel) (by decide) (Nat.le_of_ble_eq_true rfl) (by decide +kernel) rfl rfl rfl zX4_60 hP hD hS fun H locs hP hD hS => ?_
  refine lv_aload_n C.1 C.2.1 zX4_63 rfl (lv_at hl 0 rfl) ?_
  refine lv_bipush (v := 12) C.1 C.2.1 zX4_64 rfl ?_
  refine ct_na0 C (bz := false) (N := 12) rfl (by decide) (Nat.le_of_ble_eq_true rfl) (Nat.le_of_ble_eq_true rfl) zX4_66 hP hD hS fun r6 H hP hD hS => ?_
  refine ct_pf C hin (ci := 4) (k := 7) (ty := .array .int) rfl (by decide +kernel) (by decide) (Nat.le_of_ble_eq_true rfl) (by decide +kernel) rfl rfl rfl zX4_68 hP hD hS fun H locs hP hD hS => ?_
  refine lv_aload_n C.1 C.2.1 zX4_71 rfl (lv_at hl 0 rfl) ?_
  refine lv_bipush (v := 12) C.1 C.2.1 zX4_72 rfl ?_
  refine ct_na0 C (bz := false) (N := 12) rfl (by decide) (Nat.le_of_ble_eq_true rfl) (Nat.le_of_ble_eq_true rfl) zX4_74 hP hD hS fun r7 H hP hD hS => ?_
  refine ct_pf C hin (ci := 4) (k := 8) (ty := .array .int) rfl (by decide +kernel) (by decide) (Nat.le_of_ble_eq_true rfl) (by decide +kernel) rfl rfl rfl zX4_76 hP hD hS fun H locs hP hD hS => ?_
  refine lv_aload_n C.1 C.2.1 zX4_79 rfl (lv_at hl 0 rfl) ?_
  refine ct_gf C (ci := 4) (k := 4) (q := r3) rfl (by decide +kernel) (by decide) rfl zX4_80 hP ?_
  refine lv_iconst (v := -1) C.1 C.2.1 zX4_83 (by decide) ?_
  refine ct_fl C (k := 9) wm_152 ⟨(Nat.le_of_ble_eq_true rfl), (Nat.le_of_ble_eq_true rfl)⟩ ⟨(Nat.le_of_ble_eq_true rfl), (Nat.le_of_ble_eq_true rfl)⟩ (Nat.le_of_ble_eq_true rfl) hl.1 zX4_84 rfl hP hD hS fun H locs hP hD hS => ?_
  refine lv_aload_n C.1 C.2.1 zX4_87 rfl (lv_at hl 0 rfl) ?_
  refine ct_gf C (ci := 4) (k := 7) (q := r6) rfl (by decide +kernel) (by decide) rfl zX4_88 hP ?_
  refine lv_iconst (v := -1) C.1 C.2.1 zX4_91 (by decide) ?_
  refine ct_fl C (k := 12) wm_152 ⟨(Nat.le_of_ble_eq_true rfl), (Nat.le_of_ble_eq_true rfl)⟩ ⟨(Nat.le_of_ble_eq_true rfl), (Nat.le_of_ble_eq_true rfl)⟩ (Nat.le_of_ble_eq_true rfl) hl.1 zX4_92 rfl hP hD hS fun H locs hP hD hS => ?_
  refine W.widen (k := 13) (n := 1892) (by decide) (by decide) ?_
  exact hend 95 H locs las (stL k3 (fun o => [h0, q, q1, q2, q3, q4, r0, r1, r2, r3, r4, r5, r6, r7].getD o 0)) zX4_95 ⟨_, rfl, rfl⟩ hP hD hS
/-! Past -/
def paL (k3 : ClassId × ClassId × ClassId) (h a : Nat) (fs : List (Nat → Nat)) : va_W := (h, .inr (1, [.ref a, .int 0])) :: (a, .inl (k3.2.2, 16, .inr (.inr (.inr (.inr (fun j => (fs[j]?).map (fun f => f 0))))))) :: fs.flatMap (stL k3)
set_option maxHeartbeats 4000000 in
theorem k_X1 (l : Launch) (D : va_G) (k3 : ClassId × ClassId × ClassId) : ct_Mt l D k3 yX1 cX1 2 3 192 225 30480 [] (.inr (1, [.null, .int 0])) (fun h0 w => ∃ (a : Nat) (fs : List (Nat → Nat)), fs.length = 16 ∧ w = paL k3 h0 a fs) := by
  refine ct_enter (oc := 1) (i0 := 3) (by decide) rfl rfl (by decide) (by decide) (fun _ => Nat.le_of_ble_eq_true rfl) zX1_0 zX1_1 wX1_ob ?_
  intro h0 p e s m args below meth c Q A las C hin hP hD hl hend
  have hS : va_S A s.heap s.heap [] := va_S.rf
  have hl : lv_has las 2 [(0, .ref h0)] := hl
  refine lv_aload_n C.1 C.2.1 zX1_4 rfl (lv_at hl 0 rfl) ?_
  refine lv_bipush (v := 16) C.1 C.2.1 zX1_5 rfl ?_
  refine va_newq (n := 16) (N' := 16) (C := "ThinVolumes$State") (index := 9) C.1 C.2.1 C.2.2.2.1 (C.2.2.2.2.1 _ wl_213) C.2.2.2.2.2.1.2.2.2 C.2.2.2.2.2.1.1 hP hD hS C.2.2.2.2.2.2 (by decide) (by decide) (by decide) (Nat.le_of_ble_eq_true rfl) (Nat.le_of_ble_eq_true rfl) zX1_7 fun a cA H hK1 hP hD hS => ?_
  have hcA : cA = k3.2.2 := by
    obtain ⟨_, _, _, _, _, h1⟩ := (hK1.2 3 _ rfl).2
    obtain ⟨_, _, _, _, _, h2⟩ := (hK1.2 2 _ rfl).2
    exact Option.some.inj (h1.symm.trans h2)
  subst hcA
  refine ct_pf C hin (ci := 1) (k := 0) (ty := .array (.object "ThinVolumes$State")) rfl (by decide +kernel) (by decide) (Nat.le_of_ble_eq_true rfl) (by decide +kernel) rfl rfl rfl zX1_10 hP hD hS fun H locs hP hD hS => ?_
  refine lv_iconst (v := 0) C.1 C.2.1 zX1_13 (by decide) ?_
  refine lv_istore_n (i := 1) (lv' := [(1, .int (nI 0)), (0, .ref h0)]) C.1 C.2.1 zX1_14 rfl hl (by decide) rfl fun las hl => ?_
  have loop : ∀ n i : Nat, i + n = 16 → ∀ (fs : List (Nat → Nat)) (H : Heap) (locs : List Loc) (las : Array Slot), fs.length = i → lv_has las 2 [(1, .int (nI i)), (0, .ref h0)] → va_P D vwCl (paL k3 h0 a fs) H → va_D A (paL k3 h0 a fs) → va_S A s.heap H locs → W p l e { frames := 3, cells := 225, slots := 30480, locals := 192 } s m args below meth c H locs (1 + 14 * i) (16 + 1904 * i) Q (F0 m 15 las []) := by
    intro n
    induction n with
    | zero =>
      intro i hi fs H locs las hfs hl hP hD hS
      have hi : i = 16 := by omega
      subst hi
      refine lv_iload_n C.1 C.2.1 zX1_15 rfl (lv_at hl 0 rfl) ?_
      refine lv_bipush (v := nI 16) C.1 C.2.1 zX1_16 rfl ?_
      refine lv_icmp_ge C.1 C.2.1 zX1_18 (tgt := 40) rfl (fun _ => ?_) (fun h => absurd (nI_le (a := 16) (b := 16) (by omega) (by omega)) h)
      exact hend 40 H locs las _ zX1_40 ⟨a, fs, hfs, rfl⟩ hP hD hS
    | succ n ih =>
      intro i hi fs H locs las hfs hl hP hD hS
      refine lv_iload_n C.1 C.2.1 zX1_15 rfl (lv_at hl 0 rfl) ?_
      refine lv_bipush (v := nI 16) C.1 C.2.1 zX1_16 rfl ?_
      refine lv_icmp_ge C.1 C.2.1 zX1_18 (tgt := 40) rfl (fun h => absurd h (nI_ge (a := i) (b := 16) (by omega) (by omega))) (fun _ => ?_)
      refine lv_aload_n C.1 C.2.1 zX1_21 rfl (lv_at hl 1 rfl) ?_
      refine ct_gf C (ci := 1) (k := 0) (q := a) rfl (by decide +kernel) (by decide) rfl zX1_22 hP ?_
      refine lv_iload_n C.1 C.2.1 zX1_25 rfl (lv_at hl 0 rfl) ?_
      refine ct_nw C (ci := 4) (fs := [.null, .null, .null, .null, .null, .null, .null, .null, .null, .int 0, .int 0, .int 0]) rfl df_4 wl_213 wi_4 (by show 1 + 14 * i + 1 ≤ 225; omega) (by show 16 + 1904 * i + 12 ≤ 30480; omega) zX1_26 zX1_29 hP hD hS fun q H hP hD hS => ?_
      refine ct_iv (As := []) (k_X4 l D k3) C rfl (ci := 4) rfl (by decide) wX4_code wm_215 wX4_in ⟨by decide, by decide, by decide +kernel⟩ ⟨Nat.le_of_ble_eq_true rfl, Nat.le_of_ble_eq_true rfl⟩ ⟨by show 1 + 14 * i + 1 + 13 ≤ 225; omega, by show 16 + 1904 * i + 12 + 1892 ≤ 30480; omega⟩ (Nat.le_of_ble_eq_true rfl) hl.1 zX1_30 hP hD hS fun w H locs hw hP hD hS => ?_
      obtain ⟨f, rfl, rfl⟩ := hw
      have hgo : ∀ (r : vw_C), vwCl[4]? = some r → r.1 = "ThinVolumes$State" → W p l e { frames := 3, cells := 225, slots := 30480, locals := 192 } s m args below meth c H locs (1 + 14 * i + 1 + 13) (16 + 1904 * i + 12 + 1892) Q (F0 m 33 las [.ref (f 0), .int (nI i), .ref a]) := fun r hr hr1 => by
        refine va_astq C.1 C.2.1 C.2.2.2.2.2.1.1 hP hD hS 1 2 (paL k3 h0 a fs).length 4 rfl (by rw [hr1]; rfl) (by rw [List.getElem?_append_right (Nat.le_refl _), Nat.sub_self]; rfl) hr (nI_in (c := i) (N := 16) (by omega) (by omega)) zX1_33 fun H1 locs1 hP1 hD1 hS1 => ?_
        refine lv_iinc (k := 0) (v := nI (i + 1)) (lv' := [(1, .int (nI (i + 1))), (0, .ref h0)]) C.1 C.2.1 zX1_34 hl rfl (nI_succ i).symm (by decide) rfl fun las' hl' => ?_
        refine lv_goto C.1 C.2.1 zX1_37 (tgt := 15) rfl ?_
        refine W.widen (k := 1 + 14 * (i + 1)) (n := 16 + 1904 * (i + 1)) (by omega) (by omega) ?_
        have e1 : (paL k3 h0 a fs ++ stL k3 f).set 1 (a, .inl (k3.2.2, 16, .inr (.inr (.inr (.inr (va_up (fun j => (fs[j]?).map (fun f => f 0)) (nI i).toNatClampNeg (some (f 0)))))))) = paL k3 h0 a (fs ++ [f]) := by
          have e2 : va_up (fun j => (fs[j]?).map (fun f => f 0)) (nI i).toNatClampNeg (some (f 0)) = fun j => ((fs ++ [f])[j]?).map (fun f => f 0) := by
            rw [nI_clamp (by omega)]
            funext j
            unfold va_up
            by_cases h1 : j = i
            · subst h1
              rw [← hfs]
              simp
            · by_cases h2 : j < i
              · rw [if_neg h1, List.getElem?_append_left (by omega)]
              · have h3 : fs[j]? = none := List.getElem?_eq_none (by omega)
                have h4 : (fs ++ [f])[j]? = none := List.getElem?_eq_none (by rw [List.length_append]; show fs.length + 1 ≤ j; omega)
                rw [if_neg h1, h4]
                show Option.map _ fs[j]? = _
                rw [h3]
          rw [e2]
          unfold paL
          rw [List.flatMap_append, List.flatMap_singleton]
          rfl
        rw [e1] at hP1 hD1
        exact ih (i + 1) (by omega) (fs ++ [f]) H1 locs1 las' (by simp [hfs]) hl' hP1 hD1 hS1
      exact hgo _ rfl rfl
  exact loop 16 0 rfl [] H locs las rfl hl hP hD hS
/-! Model -/
def moE (k3 : ClassId × ClassId × ClassId) (f : Nat → Nat) (o : Nat) : va_E := match o with
  | 0 => .inr (6, [.ref (f 1), .ref (f 2), .int 0, .ref (f 3), .ref (f 4), .ref (f 5), .ref (f 6), .ref (f 7), .ref (f 8), .int 0, .int 0, .ref (f 9), .ref (f 10), .int 0, .ref (f 11), .ref (f 12), .int 0, .int 0, .int 0, .int 0])
  | 1 => ct_ia k3 32336
  | 2 => ct_ia k3 32336
  | 3 => ct_ia k3 1902
  | 4 => ct_ia k3 96
  | 5 => ct_ia k3 160
  | 6 => ct_ia k3 96
  | 7 => ct_ia k3 160
  | 8 => ct_ia k3 512
  | 9 => ct_ia k3 512
  | 10 => ct_ia k3 512
  | 11 => ct_ia k3 16
  | _ => ct_ia k3 16
def moL (k3 : ClassId × ClassId × ClassId) (f : Nat → Nat) : va_W := (List.range 13).map (fun i => (f i, moE k3 f i))
set_option maxHeartbeats 4000000 in
theorem k_X6 (l : Launch) (D : va_G) (k3 : ClassId × ClassId × ClassId) : ct_Mt l D k3 yX6 cX6 1 2 128 12 68654 [] (.inr (6, [.null, .null, .int 0, .null, .null, .null, .null, .null, .null, .int 0, .int 0, .null, .null, .int 0, .null, .null, .int 0, .int 0, .int 0, .int 0])) (fun h0 w => ∃ f : Nat → Nat, f 0 = h0 ∧ w = moL k3 f) := by
  refine ct_enter (oc := 6) (i0 := 1) (by decide) rfl rfl (by decide) (by decide) (fun _ => Nat.le_of_ble_eq_true rfl) zX6_0 zX6_1 wX6_ob ?_
  intro h0 p e s m args below meth c Q A las C hin hP hD hl hend
  have hS : va_S A s.heap s.heap [] := va_S.rf
  have hl : lv_has las 1 [(0, .ref h0)] := hl
  refine lv_aload_n C.1 C.2.1 zX6_4 rfl (lv_at hl 0 rfl) ?_
  refine lv_sipush (v := 32336) C.1 C.2.1 zX6_5 rfl ?_
  refine ct_na0 C (bz := false) (N := 32336) rfl (by decide) (Nat.le_of_ble_eq_true rfl) (Nat.le_of_ble_eq_true rfl) zX6_8 hP hD hS fun q1 H hP hD hS => ?_
  refine ct_pf C hin (ci := 6) (k := 0) (ty := .array .int) rfl (by decide +kernel) (by decide) (Nat.le_of_ble_eq_true rfl) (by decide +kernel) rfl rfl rfl zX6_10 hP hD hS fun H locs hP hD hS => ?_
  refine lv_aload_n C.1 C.2.1 zX6_13 rfl (lv_at hl 0 rfl) ?_
  refine lv_sipush (v := 32336) C.1 C.2.1 zX6_14 rfl ?_
  refine ct_na0 C (bz := false) (N := 32336) rfl (by decide) (Nat.le_of_ble_eq_true rfl) (Nat.le_of_ble_eq_true rfl) zX6_17 hP hD hS fun q2 H hP hD hS => ?_
  refine ct_pf C hin (ci := 6) (k := 1) (ty := .array .int) rfl (by decide +kernel) (by decide) (Nat.le_of_ble_eq_true rfl) (by decide +kernel) rfl rfl rfl zX6_19 hP hD hS fun H locs hP hD hS => ?_
  refine lv_aload_n C.1 C.2.1 zX6_22 rfl (lv_at hl 0 rfl) ?_
  refine lv_sipush (v := 1902) C.1 C.2.1 zX6_23 rfl ?_
  refine ct_na0 C (bz := false) (N := 1902) rfl (by decide) (Nat.le_of_ble_eq_true rfl) (Nat.le_of_ble_eq_true rfl) zX6_26 hP hD hS fun q3 H hP hD hS => ?_
  refine ct_pf C hin (ci := 6) (k := 3) (ty := .array .int) rfl (by decide +kernel) (by decide) (Nat.le_of_ble_eq_true rfl) (by decide +kernel) rfl rfl rfl zX6_28 hP hD hS fun H locs hP hD hS => ?_
  refine lv_aload_n C.1 C.2.1 zX6_31 rfl (lv_at hl 0 rfl) ?_
  refine lv_bipush (v := 96) C.1 C.2.1 zX6_32 rfl ?_
  refine ct_na0 C (bz := false) (N := 96) rfl (by decide) (Nat.le_of_ble_eq_true rfl) (Nat.le_of_ble_eq_true rfl) zX6_34 hP hD hS fun q4 H hP hD hS => ?_
  refine ct_pf C hin (ci := 6) (k := 4) (ty := .array .int) rfl (by decide +kernel) (by decide) (Nat.le_of_ble_eq_true rfl) (by decide +kernel) rfl rfl rfl zX6_36 hP hD hS fun H locs hP hD hS => ?_
  refine lv_aload_n C.1 C.2.1 zX6_39 rfl (lv_at hl 0 rfl) ?_
  refine lv_sipush (v := 160) C.1 C.2.1 zX6_40 rfl ?_
  refine ct_na0 C (bz := false) (N := 160) rfl (by decide) (Nat.le_of_ble_eq_true rfl) (Nat.le_of_ble_eq_true rfl) zX6_43 hP hD hS fun q5 H hP hD hS => ?_
  refine ct_pf C hin (ci := 6) (k := 5) (ty := .array .int) rfl (by decide +kernel) (by decide) (Nat.le_of_ble_eq_true rfl) (by decide +kernel) rfl rfl rfl zX6_45 hP hD hS fun H locs hP hD hS => ?_
  refine lv_aload_n C.1 C.2.1 zX6_48 rfl (lv_at hl 0 rfl) ?_
  refine lv_bipush (v := 96) C.1 C.2.1 zX6_49 rfl ?_
  refine ct_na0 C (bz := false) (N := 96) rfl (by decide) (Nat.le_of_ble_eq_true rfl) (Nat.le_of_ble_eq_true rfl) zX6_51 hP hD hS fun q6 H hP hD hS => ?_
  refine ct_pf C hin (ci := 6) (k := 6) (ty := .array .int) rfl (by decide +kernel) (by decide) (Nat.le_of_ble_eq_true rfl) (by decide +kernel) rfl rfl rfl zX6_53 hP hD hS fun H locs hP hD hS => ?_
  refine lv_aload_n C.1 C.2.1 zX6_56 rfl (lv_at hl 0 rfl) ?_
  refine lv_sipush (v := 160) C.1 C.2.1 zX6_57 rfl ?_
  refine ct_na0 C (bz := false) (N := 160) rfl (by decide) (Nat.le_of_ble_eq_true rfl) (Nat.le_of_ble_eq_true rfl) zX6_60 hP hD hS fun q7 H hP hD hS => ?_
  refine ct_pf C hin (ci := 6) (k := 7) (ty := .array .int) rfl (by decide +kernel) (by decide) (Nat.le_of_ble_eq_true rfl) (by decide +kernel) rfl rfl rfl zX6_62 hP hD hS fun H locs hP hD hS => ?_
  refine lv_aload_n C.1 C.2.1 zX6_65 rfl (lv_at hl 0 rfl) ?_
  refine lv_sipush (v := 512) C.1 C.2.1 zX6_66 rfl ?_
  refine ct_na0 C (bz := false) (N := 512) rfl (by decide) (Nat.le_of_ble_eq_true rfl) (Nat.le_of_ble_eq_true rfl) zX6_69 hP hD hS fun q8 H hP hD hS => ?_
  refine ct_pf C hin (ci := 6) (k := 8) (ty := .array .int) rfl (by decide +kernel) (by decide) (Nat.le_of_ble_eq_true rfl) (by decide +kernel) rfl rfl rfl zX6_71 hP hD hS fun H locs hP hD hS => ?_
  refine lv_aload_n C.1 C.2.1 zX6_74 rfl (lv_at hl 0 rfl) ?_
  refine lv_sipush (v := 512) C.1 C.2.1 zX6_75 rfl ?_
  refine ct_na0 C (bz := false) (N := 512) rfl (by decide) (Nat.le_of_ble_eq_true rfl) (Nat.le_of_ble_eq_true rfl) zX6_78 hP hD hS fun q9 H hP hD hS => ?_
  refine ct_pf C hin (ci := 6) (k := 11) (ty := .array .int) rfl (by decide +kernel) (by decide) (Nat.le_of_ble_eq_true rfl) (by decide +kernel) rfl rfl rfl zX6_80 hP hD hS fun H locs hP hD hS => ?_
  refine lv_aload_n C.1 C.2.1 zX6_83 rfl (lv_at hl 0 rfl) ?_
  refine lv_sipush (v := 512) C.1 C.2.1 zX6_84 rfl ?_
  refine ct_na0 C (bz := false) (N := 512) rfl (by decide) (Nat.le_of_ble_eq_true rfl) (Nat.le_of_ble_eq_true rfl) zX6_87 hP hD hS fun q10 H hP hD hS => ?_
  refine ct_pf C hin (ci := 6) (k := 12) (ty := .array .int) rfl (by decide +kernel) (by decide) (Nat.le_of_ble_eq_true rfl) (by decide +kernel) rfl rfl rfl zX6_89 hP hD hS fun H locs hP hD hS => ?_
  refine lv_aload_n C.1 C.2.1 zX6_92 rfl (lv_at hl 0 rfl) ?_
  refine lv_bipush (v := 16) C.1 C.2.1 zX6_93 rfl ?_
  refine ct_na0 C (bz := false) (N := 16) rfl (by decide) (Nat.le_of_ble_eq_true rfl) (Nat.le_of_ble_eq_true rfl) zX6_95 hP hD hS fun q11 H hP hD hS => ?_
  refine ct_pf C hin (ci := 6) (k := 14) (ty := .array .int) rfl (by decide +kernel) (by decide) (Nat.le_of_ble_eq_true rfl) (by decide +kernel) rfl rfl rfl zX6_97 hP hD hS fun H locs hP hD hS => ?_
  refine lv_aload_n C.1 C.2.1 zX6_100 rfl (lv_at hl 0 rfl) ?_
  refine lv_bipush (v := 16) C.1 C.2.1 zX6_101 rfl ?_
  refine ct_na0 C (bz := false) (N := 16) rfl (by decide) (Nat.le_of_ble_eq_true rfl) (Nat.le_of_ble_eq_true rfl) zX6_103 hP hD hS fun q12 H hP hD hS => ?_
  refine ct_pf C hin (ci := 6) (k := 15) (ty := .array .int) rfl (by decide +kernel) (by decide) (Nat.le_of_ble_eq_true rfl) (by decide +kernel) rfl rfl rfl zX6_105 hP hD hS fun H locs hP hD hS => ?_
  refine lv_aload_n C.1 C.2.1 zX6_108 rfl (lv_at hl 0 rfl) ?_
  refine ct_gf C (ci := 6) (k := 0) (q := q1) rfl (by decide +kernel) (by decide) rfl zX6_109 hP ?_
  refine lv_aload_n C.1 C.2.1 zX6_112 rfl (lv_at hl 0 rfl) ?_
  refine ct_gf C (ci := 6) (k := 1) (q := q2) rfl (by decide +kernel) (by decide) rfl zX6_113 hP ?_
  refine ct_cy C (i := 1) (j := 2) wm_991 (by decide) ⟨(Nat.le_of_ble_eq_true rfl), (Nat.le_of_ble_eq_true rfl)⟩ ⟨(Nat.le_of_ble_eq_true rfl), (Nat.le_of_ble_eq_true rfl)⟩ (Nat.le_of_ble_eq_true rfl) hl.1 zX6_116 rfl rfl hP hD hS fun H locs hP hS => ?_
  refine W.widen (k := 12) (n := 68654) (by decide) (by decide) ?_
  exact hend 119 H locs las (moL k3 (fun o => [h0, q1, q2, q3, q4, q5, q6, q7, q8, q9, q10, q11, q12].getD o 0)) zX6_119 ⟨_, rfl, rfl⟩ hP hD hS
/-! ThinVolumes -/
/-- what ThinVolumes is made of -/
def tvL (k3 : ClassId × ClassId × ClassId) (h0 : Nat) (f1 f2 f4 n : Nat → Nat) (g3 g5 : List (Nat → Nat)) : va_W := (h0, .inr (5, [.ref (f1 0), .ref (f2 0), .ref (n 0), .ref (f4 0), .ref (n 2), .ref (n 4), .ref (n 7), .ref (n 10), .ref (n 12)])) :: ((((((((stL k3 f1 ++ stL k3 f2) ++ paL k3 (n 0) (n 1) g3) ++ stL k3 f4) ++ paL k3 (n 2) (n 3) g5) ++ roL k3 512 (n 4) (n 5) (n 6)) ++ roL k3 16 (n 7) (n 8) (n 9)) ++ diL k3 (n 10) (n 11)) ++ [(n 12, ct_ia k3 256)])
set_option maxHeartbeats 4000000 in
theorem k_X5 (l : Launch) (D : va_G) (k3 : ClassId × ClassId × ClassId) : ct_Mt l D k3 yX5 cX5 1 4 256 503 68509 [] (.inr (5, [.null, .null, .null, .null, .null, .null, .null, .null, .null])) (fun h0 w => ∃ (f1 f2 f4 n : Nat → Nat) (g3 g5 : List (Nat → Nat)), g3.length = 16 ∧ g5.length = 16 ∧ w = tvL k3 h0 f1 f2 f4 n g3 g5) := by
  refine ct_enter (oc := 5) (i0 := 3) (by decide) rfl rfl (by decide) (by decide) (fun _ => Nat.le_of_ble_eq_true rfl) zX5_0 zX5_1 wX5_ob ?_
  intro h0 p e s m args below meth c Q A las C hin hP hD hl hend
  have hS : va_S A s.heap s.heap [] := va_S.rf
  have hl : lv_has las 1 [(0, .ref h0)] := hl
  refine lv_aload_n C.1 C.2.1 zX5_4 rfl (lv_at hl 0 rfl) ?_
  refine ct_nw C (ci := 4) (fs := [.null, .null, .null, .null, .null, .null, .null, .null, .null, .int 0, .int 0, .int 0]) rfl df_4 wl_124 wi_4 (Nat.le_of_ble_eq_true rfl) (Nat.le_of_ble_eq_true rfl) zX5_5 zX5_8 hP hD hS fun q1 H hP hD hS => ?_
  refine ct_iv (As := []) (k_X4 l D k3) C rfl (ci := 4) rfl (by decide) wX4_code wm_126 wX4_in ⟨by decide, by decide, by decide +kernel⟩ ⟨(Nat.le_of_ble_eq_true rfl), (Nat.le_of_ble_eq_true rfl)⟩ ⟨(Nat.le_of_ble_eq_true rfl), (Nat.le_of_ble_eq_true rfl)⟩ (Nat.le_of_ble_eq_true rfl) hl.1 zX5_9 hP hD hS fun w H locs hw hP hD hS => ?_
  obtain ⟨f1, rfl, rfl⟩ := hw
  refine ct_pf C hin (ci := 5) (k := 0) (ty := .object "ThinVolumes$State") rfl (by decide +kernel) (by decide) (Nat.le_of_ble_eq_true rfl) (by decide +kernel) rfl rfl rfl zX5_12 hP hD hS fun H locs hP hD hS => ?_
  refine lv_aload_n C.1 C.2.1 zX5_15 rfl (lv_at hl 0 rfl) ?_
  refine ct_nw C (ci := 4) (fs := [.null, .null, .null, .null, .null, .null, .null, .null, .null, .int 0, .int 0, .int 0]) rfl df_4 wl_124 wi_4 (Nat.le_of_ble_eq_true rfl) (Nat.le_of_ble_eq_true rfl) zX5_16 zX5_19 hP hD hS fun q2 H hP hD hS => ?_
  refine ct_iv (As := []) (k_X4 l D k3) C rfl (ci := 4) rfl (by decide) wX4_code wm_126 wX4_in ⟨by decide, by decide, by decide +kernel⟩ ⟨(Nat.le_of_ble_eq_true rfl), (Nat.le_of_ble_eq_true rfl)⟩ ⟨(Nat.le_of_ble_eq_true rfl), (Nat.le_of_ble_eq_true rfl)⟩ (Nat.le_of_ble_eq_true rfl) hl.1 zX5_20 hP hD hS fun w H locs hw hP hD hS => ?_
  obtain ⟨f2, rfl, rfl⟩ := hw
  refine ct_pf C hin (ci := 5) (k := 1) (ty := .object "ThinVolumes$State") rfl (by decide +kernel) (by decide) (Nat.le_of_ble_eq_true rfl) (by decide +kernel) rfl rfl rfl zX5_23 hP hD hS fun H locs hP hD hS => ?_
  refine lv_aload_n C.1 C.2.1 zX5_26 rfl (lv_at hl 0 rfl) ?_
  refine ct_nw C (ci := 1) (fs := [.null, .int 0]) rfl df_1 wl_207 wi_1 (Nat.le_of_ble_eq_true rfl) (Nat.le_of_ble_eq_true rfl) zX5_27 zX5_30 hP hD hS fun p3 H hP hD hS => ?_
  refine ct_iv (As := []) (k_X1 l D k3) C rfl (ci := 1) rfl (by decide) wX1_code wm_209 wX1_in ⟨by decide, by decide, by decide +kernel⟩ ⟨(Nat.le_of_ble_eq_true rfl), (Nat.le_of_ble_eq_true rfl)⟩ ⟨(Nat.le_of_ble_eq_true rfl), (Nat.le_of_ble_eq_true rfl)⟩ (Nat.le_of_ble_eq_true rfl) hl.1 zX5_31 hP hD hS fun w H locs hw hP hD hS => ?_
  obtain ⟨a3, g3, hg3, rfl⟩ := hw
  refine ct_pf C hin (ci := 5) (k := 2) (ty := .object "ThinVolumes$Past") rfl (by decide +kernel) (by decide) (Nat.le_of_ble_eq_true rfl) (by decide +kernel) rfl rfl rfl zX5_34 hP hD hS fun H locs hP hD hS => ?_
  refine lv_aload_n C.1 C.2.1 zX5_37 rfl (lv_at hl 0 rfl) ?_
  refine ct_nw C (ci := 4) (fs := [.null, .null, .null, .null, .null, .null, .null, .null, .null, .int 0, .int 0, .int 0]) rfl df_4 wl_124 wi_4 (Nat.le_of_ble_eq_true rfl) (Nat.le_of_ble_eq_true rfl) zX5_38 zX5_41 hP hD hS fun q4 H hP hD hS => ?_
  refine ct_iv (As := []) (k_X4 l D k3) C rfl (ci := 4) rfl (by decide) wX4_code wm_126 wX4_in ⟨by decide, by decide, by decide +kernel⟩ ⟨(Nat.le_of_ble_eq_true rfl), (Nat.le_of_ble_eq_true rfl)⟩ ⟨(Nat.le_of_ble_eq_true rfl), (Nat.le_of_ble_eq_true rfl)⟩ (Nat.le_of_ble_eq_true rfl) hl.1 zX5_42 hP hD hS fun w H locs hw hP hD hS => ?_
  obtain ⟨f4, rfl, rfl⟩ := hw
  refine ct_pf C hin (ci := 5) (k := 3) (ty := .object "ThinVolumes$State") rfl (by decide +kernel) (by decide) (Nat.le_of_ble_eq_true rfl) (by decide +kernel) rfl rfl rfl zX5_45 hP hD hS fun H locs hP hD hS => ?_
  refine lv_aload_n C.1 C.2.1 zX5_48 rfl (lv_at hl 0 rfl) ?_
  refine ct_nw C (ci := 1) (fs := [.null, .int 0]) rfl df_1 wl_207 wi_1 (Nat.le_of_ble_eq_true rfl) (Nat.le_of_ble_eq_true rfl) zX5_49 zX5_52 hP hD hS fun p5 H hP hD hS => ?_
  refine ct_iv (As := []) (k_X1 l D k3) C rfl (ci := 1) rfl (by decide) wX1_code wm_209 wX1_in ⟨by decide, by decide, by decide +kernel⟩ ⟨(Nat.le_of_ble_eq_true rfl), (Nat.le_of_ble_eq_true rfl)⟩ ⟨(Nat.le_of_ble_eq_true rfl), (Nat.le_of_ble_eq_true rfl)⟩ (Nat.le_of_ble_eq_true rfl) hl.1 zX5_53 hP hD hS fun w H locs hw hP hD hS => ?_
  obtain ⟨a5, g5, hg5, rfl⟩ := hw
  refine ct_pf C hin (ci := 5) (k := 4) (ty := .object "ThinVolumes$Past") rfl (by decide +kernel) (by decide) (Nat.le_of_ble_eq_true rfl) (by decide +kernel) rfl rfl rfl zX5_56 hP hD hS fun H locs hP hD hS => ?_
  refine lv_aload_n C.1 C.2.1 zX5_59 rfl (lv_at hl 0 rfl) ?_
  refine ct_nw C (ci := 3) (fs := [.null, .null, .int 0]) rfl df_3 wl_224 wi_3 (Nat.le_of_ble_eq_true rfl) (Nat.le_of_ble_eq_true rfl) zX5_60 zX5_63 hP hD hS fun r6 H hP hD hS => ?_
  refine lv_sipush (v := 512) C.1 C.2.1 zX5_64 rfl ?_
  refine ct_iv (As := [.int (Int32.ofNat 512)]) (k_X3 l D k3 512 (by decide)) C rfl (ci := 3) rfl (by decide) wX3_code wm_226 wX3_in ⟨by decide, by decide, by decide +kernel⟩ ⟨(Nat.le_of_ble_eq_true rfl), (Nat.le_of_ble_eq_true rfl)⟩ ⟨(Nat.le_of_ble_eq_true rfl), (Nat.le_of_ble_eq_true rfl)⟩ (Nat.le_of_ble_eq_true rfl) hl.1 zX5_67 hP hD hS fun w H locs hw hP hD hS => ?_
  obtain ⟨r6a, r6b, rfl⟩ := hw
  refine ct_pf C hin (ci := 5) (k := 5) (ty := .object "ThinVolumes$Rows") rfl (by decide +kernel) (by decide) (Nat.le_of_ble_eq_true rfl) (by decide +kernel) rfl rfl rfl zX5_70 hP hD hS fun H locs hP hD hS => ?_
  refine lv_aload_n C.1 C.2.1 zX5_73 rfl (lv_at hl 0 rfl) ?_
  refine ct_nw C (ci := 3) (fs := [.null, .null, .int 0]) rfl df_3 wl_224 wi_3 (Nat.le_of_ble_eq_true rfl) (Nat.le_of_ble_eq_true rfl) zX5_74 zX5_77 hP hD hS fun r7 H hP hD hS => ?_
  refine lv_bipush (v := 16) C.1 C.2.1 zX5_78 rfl ?_
  refine ct_iv (As := [.int (Int32.ofNat 16)]) (k_X3 l D k3 16 (by decide)) C rfl (ci := 3) rfl (by decide) wX3_code wm_226 wX3_in ⟨by decide, by decide, by decide +kernel⟩ ⟨(Nat.le_of_ble_eq_true rfl), (Nat.le_of_ble_eq_true rfl)⟩ ⟨(Nat.le_of_ble_eq_true rfl), (Nat.le_of_ble_eq_true rfl)⟩ (Nat.le_of_ble_eq_true rfl) hl.1 zX5_80 hP hD hS fun w H locs hw hP hD hS => ?_
  obtain ⟨r7a, r7b, rfl⟩ := hw
  refine ct_pf C hin (ci := 5) (k := 6) (ty := .object "ThinVolumes$Rows") rfl (by decide +kernel) (by decide) (Nat.le_of_ble_eq_true rfl) (by decide +kernel) rfl rfl rfl zX5_83 hP hD hS fun H locs hP hD hS => ?_
  refine lv_aload_n C.1 C.2.1 zX5_86 rfl (lv_at hl 0 rfl) ?_
  refine ct_nw C (ci := 0) (fs := [.null, .int 0, .int 0]) rfl df_0 wl_245 wi_0 (Nat.le_of_ble_eq_true rfl) (Nat.le_of_ble_eq_true rfl) zX5_87 zX5_90 hP hD hS fun d8 H hP hD hS => ?_
  refine ct_ivN (As := []) (k_X0 l D k3) C rfl (ci := 0) rfl (by decide) wX0_code C.2.2.2.2.2.1.2.2.1 wX0_in ⟨by decide, by decide, by decide +kernel⟩ ⟨(Nat.le_of_ble_eq_true rfl), (Nat.le_of_ble_eq_true rfl)⟩ ⟨(Nat.le_of_ble_eq_true rfl), (Nat.le_of_ble_eq_true rfl)⟩ (Nat.le_of_ble_eq_true rfl) hl.1 zX5_91 hP hD hS fun w H locs hw hP hD hS => ?_
  obtain ⟨d8a, rfl⟩ := hw
  refine ct_pf C hin (ci := 5) (k := 7) (ty := .object "ThinVolumes$Difference") rfl (by decide +kernel) (by decide) (Nat.le_of_ble_eq_true rfl) (by decide +kernel) rfl rfl rfl zX5_94 hP hD hS fun H locs hP hD hS => ?_
  refine lv_aload_n C.1 C.2.1 zX5_97 rfl (lv_at hl 0 rfl) ?_
  refine lv_sipush (v := 256) C.1 C.2.1 zX5_98 rfl ?_
  refine ct_na0 C (bz := false) (N := 256) rfl (by decide) (Nat.le_of_ble_eq_true rfl) (Nat.le_of_ble_eq_true rfl) zX5_101 hP hD hS fun s9 H hP hD hS => ?_
  refine ct_pf C hin (ci := 5) (k := 8) (ty := .array .int) rfl (by decide +kernel) (by decide) (Nat.le_of_ble_eq_true rfl) (by decide +kernel) rfl rfl rfl zX5_103 hP hD hS fun H locs hP hD hS => ?_
  refine W.widen (k := 503) (n := 68509) (by decide) (by decide) ?_
  exact hend 106 H locs las (tvL k3 h0 f1 f2 f4 (fun o => [p3, a3, p5, a5, r6, r6a, r6b, r7, r7a, r7b, d8, d8a, s9].getD o 0) g3 g5) zX5_106 ⟨f1, f2, f4, _, g3, g5, hg3, hg5, rfl⟩ hP hD hS
