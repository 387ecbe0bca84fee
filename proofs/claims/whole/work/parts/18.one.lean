/-! one step, whatever it is -/
theorem mx_dec : am_mx.all (fun q => decide (900 ≤ q.2.2 / 10000 ∧ q.2.2 / 10000 ≤ 903)) = true := by decide +kernel
theorem mx_ok (q : Nat × Nat × Nat) (h : q ∈ am_mx) : 900 ≤ q.2.2 / 10000 ∧ q.2.2 / 10000 ≤ 903 := by
  have := List.all_eq_true.mp mx_dec q h
  simpa using this
section SW
variable {p : Program} {l : Launch} {e : Env} {R : Room} {s : State} {m : MethodId} {args : Array Value} {below : List Frame} {meth : Method} {c : Code} {H0 : Heap} {A : Nat → Prop} {cells slots : Nat} {Q : State → Prop} {g : am_G} {nL : Nat} {cc : ByteArray} {oc : Nat} {ls st : List am_V} {M : am_M}
theorem sx_inv (C : am_Cx p R s m args c H0 A cells slots g nL cc oc) {pc d idx aux : Nat} {ins : ClassFile.Instr} {k : List am_V → am_M → Option am_O} {cl : am_C} {o : am_O} (hR : d + 1 ≤ R.frames ∧ 64 * (d + 1) ≤ R.locals) (hd : decode cc pc = .ok (ins, 3)) (hins : (ins = .invokevirtual idx ∧ aux / 1000 % 10 ≠ 0) ∨ (ins = .invokestatic idx ∧ aux / 1000 % 10 = 0)) (hml : (oc, idx, aux) ∈ am_ml ∨ (oc, idx, aux) ∈ am_mn) (h : am_inv k cl aux st M = some o) (hk : ∀ st' M', k st' M' = some o → am_Y p l e R s m args below meth c H0 A cells slots Q g nL (pc + 3) ls st' M') (hcl : ∀ j' as M1 r M2, cl j' as M1 = some (r, M2) → ∃ d', d = d' + 1 ∧ (j' < am_nm → am_okM g M1 → am_okL as → am_Mt l g d' j' as M1 r M2)) : am_Y p l e R s m args below meth c H0 A cells slots Q g nL pc ls st M := by
  obtain ⟨as, st', hs, hn, h1⟩ := tk_some _ _ _ h
  obtain ⟨hlen, h2⟩ := if_some h1
  rw [List.append_nil] at h2
  obtain ⟨hrc, h3⟩ := rc_some h2
  obtain ⟨r, M', hq, h4⟩ := an_some h3
  obtain ⟨d', rfl, hMt⟩ := hcl _ _ _ _ _ hq
  have hlq : am_lq (oc, idx, aux) = true := by
    rcases hml with h | h
    · exact List.all_eq_true.mp am_ml_ok _ h
    · exact List.all_eq_true.mp am_mn_ok _ h
  have hj := (lq_ok hlq).1
  subst hs
  exact sx_call C hR hd hins hml hn hlen hrc (fun hM hok => hMt hj hM hok) (hk _ _ h4)
set_option maxHeartbeats 4000000 in
theorem sx_step (C : am_Cx p R s m args c H0 A cells slots g nL cc oc) {d ret : Nat} {e0 : am_E} {k : am_K} {cl : am_C} {o : am_O} (hR : d + 1 ≤ R.frames ∧ 64 * (d + 1) ≤ R.locals) (hdec : decode cc e0.1 = .ok (e0.2.1, e0.2.2.1)) (hlc : am_lc oc e0 = true) (hlx : am_lx nL e0 = true) (h : am_step k cl ret e0 ls st M = some o) (hk : ∀ pc' ls' st' M', k pc' ls' st' M' = some o → am_Y p l e R s m args below meth c H0 A cells slots Q g nL pc' ls' st' M') (hcl : ∀ j' as M1 r M2, cl j' as M1 = some (r, M2) → ∃ d', d = d' + 1 ∧ (j' < am_nm → am_okM g M1 → am_okL as → am_Mt l g d' j' as M1 r M2)) (hret : ∀ (pcR : Nat) (ins : ClassFile.Instr) (H : Heap) (locs : List Loc) (as : Array Slot), am_okM g o.2 → (∀ v, o.1 = some v → am_okV v) → va_P g.2.1 vwCl (am_wd g o.2) H → va_S A H0 H locs → decode cc pcR = .ok (ins, 1) → am_rk ret o.1 ins → W p l e R s m args below meth c H locs cells slots Q (F0 m pcR as (o.1.map (am_cv g)).toList)) : am_Y p l e R s m args below meth c H0 A cells slots Q g nL e0.1 ls st M := by
  obtain ⟨pc, ins, len, aux, lv⟩ := e0
  dsimp only at hdec
  show am_Y p l e R s m args below meth c H0 A cells slots Q g nL pc ls st M
  refine sx_ms lv ?_
  have hx := C.1
  have hb := C.2.1
  cases ins with
  | iload n =>
    obtain rfl : len = 2 := by simpa [am_lx] using hlx
    obtain ⟨z, hz, h1⟩ := onI_some h
    exact sx_load (v := am_i z) hz (by simp) (fun H locs as rest hn kk => lv_iload hx hb hdec hn kk) (hk _ _ _ _ h1)
  | iload_n n =>
    obtain rfl : len = 1 := by simpa [am_lx] using hlx
    obtain ⟨z, hz, h1⟩ := onI_some h
    exact sx_load (v := am_i z) hz (by simp) (fun H locs as rest hn kk => lv_iload_n hx hb hdec rfl hn kk) (hk _ _ _ _ h1)
  | aload n =>
    obtain rfl : len = 2 := by simpa [am_lx] using hlx
    obtain ⟨t, i, hz, h1⟩ := onR_some (show am_onR (am_lg (am_ms lv ls) n) (fun t i => k (pc + 2) (am_ms lv ls) (am_r t i :: st) M) = some o from h)
    exact sx_load (v := am_r t i) hz (by simp) (fun H locs as rest hn kk => lv_aload hx hb hdec hn kk) (hk _ _ _ _ h1)
  | aload_n n =>
    obtain rfl : len = 1 := by simpa [am_lx] using hlx
    obtain ⟨t, i, hz, h1⟩ := onR_some (show am_onR (am_lg (am_ms lv ls) n) (fun t i => k (pc + 1) (am_ms lv ls) (am_r t i :: st) M) = some o from h)
    exact sx_load (v := am_r t i) hz (by simp) (fun H locs as rest hn kk => lv_aload_n hx hb hdec rfl hn kk) (hk _ _ _ _ h1)
  | lload n =>
    obtain rfl : len = 2 := by simpa [am_lx] using hlx
    obtain ⟨z, hz, h1⟩ := onL_some h
    exact sx_load (v := am_l z) hz (by simp) (fun H locs as rest hn kk => lv_lload hx hb hdec hn kk) (hk _ _ _ _ h1)
  | lload_n n =>
    obtain rfl : len = 1 := by simpa [am_lx] using hlx
    obtain ⟨z, hz, h1⟩ := onL_some h
    exact sx_load (v := am_l z) hz (by simp) (fun H locs as rest hn kk => lv_lload_n hx hb hdec rfl hn kk) (hk _ _ _ _ h1)
  | fload_n n =>
    obtain rfl : len = 1 := by simpa [am_lx] using hlx
    obtain ⟨z, hz, h1⟩ := onF_some h
    exact sx_load (v := am_f z) hz (by simp) (fun H locs as rest hn kk => lv_fload_n hx hb hdec rfl hn kk) (hk _ _ _ _ h1)
  | dload_n n =>
    obtain rfl : len = 1 := by simpa [am_lx] using hlx
    obtain ⟨z, hz, h1⟩ := onD_some h
    exact sx_load (v := am_d z) hz (by simp) (fun H locs as rest hn kk => lv_dload_n hx hb hdec rfl hn kk) (hk _ _ _ _ h1)
  | istore n =>
    have hl2 := hlx
    simp [am_lx] at hl2
    obtain ⟨rfl, hn⟩ := hl2
    obtain ⟨z, st', rfl, h1⟩ := i1_some h
    exact sx_store (v := am_i z) (fun H locs as rest lv hlv kk => lv_istore hx hb hdec hlv hn rfl kk) (hk _ _ _ _ h1)
  | istore_n n =>
    have hl2 := hlx
    simp [am_lx] at hl2
    obtain ⟨rfl, hn⟩ := hl2
    obtain ⟨z, st', rfl, h1⟩ := i1_some h
    exact sx_store (v := am_i z) (fun H locs as rest lv hlv kk => lv_istore_n hx hb hdec rfl hlv hn rfl kk) (hk _ _ _ _ h1)
  | astore n =>
    have hl2 := hlx
    simp [am_lx] at hl2
    obtain ⟨rfl, hn⟩ := hl2
    obtain ⟨w, st', rfl, h0⟩ := s1_some h
    obtain ⟨t, i, rfl, h1⟩ := onR_some h0
    exact sx_store (v := am_r t i) (fun H locs as rest lv hlv kk => lv_astore hx hb hdec hlv hn rfl kk) (hk _ _ _ _ h1)
  | astore_n n =>
    have hl2 := hlx
    simp [am_lx] at hl2
    obtain ⟨rfl, hn⟩ := hl2
    obtain ⟨w, st', rfl, h0⟩ := s1_some h
    obtain ⟨t, i, rfl, h1⟩ := onR_some h0
    exact sx_store (v := am_r t i) (fun H locs as rest lv hlv kk => lv_astore_n hx hb hdec rfl hlv hn rfl kk) (hk _ _ _ _ h1)
  | lstore n =>
    have hl2 := hlx
    simp [am_lx] at hl2
    obtain ⟨rfl, hn⟩ := hl2
    obtain ⟨w, st', rfl, h0⟩ := s1_some h
    obtain ⟨z, rfl, h1⟩ := onL_some h0
    exact sx_store2 (v := am_l z) (fun H locs as rest lv hlv kk => lv_lstore hx hb hdec hlv hn rfl kk) (hk _ _ _ _ h1)
  | lstore_n n =>
    have hl2 := hlx
    simp [am_lx] at hl2
    obtain ⟨rfl, hn⟩ := hl2
    obtain ⟨w, st', rfl, h0⟩ := s1_some h
    obtain ⟨z, rfl, h1⟩ := onL_some h0
    exact sx_store2 (v := am_l z) (fun H locs as rest lv hlv kk => lv_lstore_n hx hb hdec rfl hlv hn rfl kk) (hk _ _ _ _ h1)
  | fstore_n n =>
    have hl2 := hlx
    simp [am_lx] at hl2
    obtain ⟨rfl, hn⟩ := hl2
    obtain ⟨w, st', rfl, h0⟩ := s1_some h
    obtain ⟨z, rfl, h1⟩ := onF_some h0
    exact sx_store (v := am_f z) (fun H locs as rest lv hlv kk => lv_fstore_n hx hb hdec rfl hlv hn rfl kk) (hk _ _ _ _ h1)
  | dstore_n n =>
    have hl2 := hlx
    simp [am_lx] at hl2
    obtain ⟨rfl, hn⟩ := hl2
    obtain ⟨w, st', rfl, h0⟩ := s1_some h
    obtain ⟨z, rfl, h1⟩ := onD_some h0
    exact sx_store2 (v := am_d z) (fun H locs as rest lv hlv kk => lv_dstore_n hx hb hdec rfl hlv hn rfl kk) (hk _ _ _ _ h1)
  | iinc n w =>
    have hl2 := hlx
    simp [am_lx] at hl2
    obtain ⟨rfl, hn⟩ := hl2
    obtain ⟨z, hz, h1⟩ := onI_some h
    exact sx_iinc C hdec hn hz (hk _ _ _ _ h1)
  | iconst n =>
    have hl2 := hlx
    simp [am_lx] at hl2
    obtain ⟨rfl, hn⟩ := hl2
    exact sx_gen (vs := []) (v := [am_i n]) (fun H locs as rest kk => lv_iconst hx hb hdec rfl kk) (fun _ => okL1 (show am_32 n by unfold am_32; omega)) (hk _ _ _ _ h)
  | bipush n =>
    have hl2 := hlx
    simp [am_lx] at hl2
    obtain ⟨⟨rfl, hn⟩, hv⟩ := hl2
    exact sx_gen (vs := []) (v := [am_i n]) (fun H locs as rest kk => lv_bipush hx hb hdec hv kk) (fun _ => okL1 (show am_32 n by unfold am_32; omega)) (hk _ _ _ _ h)
  | sipush n =>
    have hl2 := hlx
    simp [am_lx] at hl2
    obtain ⟨⟨rfl, hn⟩, hv⟩ := hl2
    exact sx_gen (vs := []) (v := [am_i n]) (fun H locs as rest kk => lv_sipush hx hb hdec hv kk) (fun _ => okL1 (show am_32 n by unfold am_32; omega)) (hk _ _ _ _ h)
  | ldc n =>
    have hl2 := hlx
    simp [am_lx] at hl2
    have hc2 := hlc
    simp only [am_lc, List.contains_iff_mem] at hc2
    exact sx_ldc C hdec (Or.inl ⟨rfl, hl2.1, hl2.2⟩) hc2 (hk _ _ _ _ h)
  | ldc_w n =>
    have hl2 := hlx
    simp [am_lx] at hl2
    have hc2 := hlc
    simp only [am_lc, List.contains_iff_mem] at hc2
    exact sx_ldc C hdec (Or.inr (Or.inl ⟨rfl, hl2.1, hl2.2⟩)) hc2 (hk _ _ _ _ h)
  | ldc2_w n =>
    have hl2 := hlx
    simp [am_lx] at hl2
    have hc2 := hlc
    simp only [am_lc, List.contains_iff_mem] at hc2
    exact sx_ldc C hdec (Or.inr (Or.inr ⟨rfl, hl2.1, hl2.2⟩)) hc2 (hk _ _ _ _ h)
  | iadd =>
    obtain rfl : len = 1 := by simpa [am_lx] using hlx
    obtain ⟨x, y, st', rfl, h1⟩ := i2_some h
    exact sx_gen (vs := [am_i y, am_i x]) (v := [am_i (am_wr (x + y))]) (fun H locs as rest kk => lv_iadd (x := Int32.ofInt x) (y := Int32.ofInt y) hx hb hdec (by rw [← Int32.ofInt_add, ← am_of_wr]; exact kk)) (fun _ => okL1 (am_wr_32 _)) (hk _ _ _ _ h1)
  | isub =>
    obtain rfl : len = 1 := by simpa [am_lx] using hlx
    obtain ⟨x, y, st', rfl, h1⟩ := i2_some h
    exact sx_gen (vs := [am_i y, am_i x]) (v := [am_i (am_wr (x - y))]) (fun H locs as rest kk => lv_isub (x := Int32.ofInt x) (y := Int32.ofInt y) hx hb hdec (by rw [← Int32.ofInt_sub, ← am_of_wr]; exact kk)) (fun _ => okL1 (am_wr_32 _)) (hk _ _ _ _ h1)
  | imul =>
    obtain rfl : len = 1 := by simpa [am_lx] using hlx
    obtain ⟨x, y, st', rfl, h1⟩ := i2_some h
    exact sx_gen (vs := [am_i y, am_i x]) (v := [am_i (am_wr (x * y))]) (fun H locs as rest kk => lv_imul (x := Int32.ofInt x) (y := Int32.ofInt y) hx hb hdec (by rw [← Int32.ofInt_mul, ← am_of_wr]; exact kk)) (fun _ => okL1 (am_wr_32 _)) (hk _ _ _ _ h1)
  | iand =>
    obtain rfl : len = 1 := by simpa [am_lx] using hlx
    obtain ⟨x, y, st', rfl, h1⟩ := i2_some h
    exact sx_gen (vs := [am_i y, am_i x]) (v := [am_i (am_and x y)]) (fun H locs as rest kk => lv_iand (x := Int32.ofInt x) (y := Int32.ofInt y) hx hb hdec (by have e : am_cv g (am_i (am_and x y)) = _ := congrArg Value.int (am_of_to _); simp only [List.map_cons, List.map_nil, e] at kk; exact kk)) (fun _ => okL1 (am_to_32 _)) (hk _ _ _ _ h1)
  | ior =>
    obtain rfl : len = 1 := by simpa [am_lx] using hlx
    obtain ⟨x, y, st', rfl, h1⟩ := i2_some h
    exact sx_gen (vs := [am_i y, am_i x]) (v := [am_i (am_or x y)]) (fun H locs as rest kk => lv_ior (x := Int32.ofInt x) (y := Int32.ofInt y) hx hb hdec (by have e : am_cv g (am_i (am_or x y)) = _ := congrArg Value.int (am_of_to _); simp only [List.map_cons, List.map_nil, e] at kk; exact kk)) (fun _ => okL1 (am_to_32 _)) (hk _ _ _ _ h1)
  | ishl =>
    obtain rfl : len = 1 := by simpa [am_lx] using hlx
    obtain ⟨x, y, st', rfl, h1⟩ := i2_some h
    exact sx_gen (vs := [am_i y, am_i x]) (v := [am_i (am_shl x y)]) (fun H locs as rest kk => lv_ishl (x := Int32.ofInt x) (y := Int32.ofInt y) hx hb hdec (by have e : am_cv g (am_i (am_shl x y)) = _ := congrArg Value.int (am_of_to _); simp only [List.map_cons, List.map_nil, e] at kk; exact kk)) (fun _ => okL1 (am_to_32 _)) (hk _ _ _ _ h1)
  | ishr =>
    obtain rfl : len = 1 := by simpa [am_lx] using hlx
    obtain ⟨x, y, st', rfl, h1⟩ := i2_some h
    exact sx_gen (vs := [am_i y, am_i x]) (v := [am_i (am_shr x y)]) (fun H locs as rest kk => lv_ishr (x := Int32.ofInt x) (y := Int32.ofInt y) hx hb hdec (by have e : am_cv g (am_i (am_shr x y)) = _ := congrArg Value.int (am_of_to _); simp only [List.map_cons, List.map_nil, e] at kk; exact kk)) (fun _ => okL1 (am_to_32 _)) (hk _ _ _ _ h1)
  | iushr =>
    obtain rfl : len = 1 := by simpa [am_lx] using hlx
    obtain ⟨x, y, st', rfl, h1⟩ := i2_some h
    exact sx_gen (vs := [am_i y, am_i x]) (v := [am_i (am_ushr x y)]) (fun H locs as rest kk => lv_iushr (x := Int32.ofInt x) (y := Int32.ofInt y) hx hb hdec rfl (by have e : am_cv g (am_i (am_ushr x y)) = _ := congrArg Value.int (am_of_to _); simp only [List.map_cons, List.map_nil, e] at kk; exact kk)) (fun _ => okL1 (am_to_32 _)) (hk _ _ _ _ h1)
  | idiv =>
    obtain rfl : len = 1 := by simpa [am_lx] using hlx
    obtain ⟨x, y, st', rfl, h1⟩ := i2_some h
    obtain ⟨hne, h2⟩ := if_some h1
    intro hM hls hst
    have hy : am_32 y := hst (am_i y) (by simp)
    have hne2 : ¬ Int32.ofInt y = 0 := fun q => hne ((am_eq_iff hy am_32_0).mp (q.trans am_0.symm))
    exact sx_gen (vs := [am_i y, am_i x]) (v := [am_i (am_div x y)]) (fun H locs as rest kk => lv_idiv (x := Int32.ofInt x) (y := Int32.ofInt y) hx hb hdec hne2 (by have e : am_cv g (am_i (am_div x y)) = _ := congrArg Value.int (am_of_to _); simp only [List.map_cons, List.map_nil, e] at kk; exact kk)) (fun _ => okL1 (am_to_32 _)) (hk _ _ _ _ h2) hM hls hst
  | irem =>
    obtain rfl : len = 1 := by simpa [am_lx] using hlx
    obtain ⟨x, y, st', rfl, h1⟩ := i2_some h
    obtain ⟨hne, h2⟩ := if_some h1
    intro hM hls hst
    have hy : am_32 y := hst (am_i y) (by simp)
    have hne2 : ¬ Int32.ofInt y = 0 := fun q => hne ((am_eq_iff hy am_32_0).mp (q.trans am_0.symm))
    exact sx_gen (vs := [am_i y, am_i x]) (v := [am_i (am_rem x y)]) (fun H locs as rest kk => lv_irem (x := Int32.ofInt x) (y := Int32.ofInt y) hx hb hdec hne2 (by have e : am_cv g (am_i (am_rem x y)) = _ := congrArg Value.int (am_of_to _); simp only [List.map_cons, List.map_nil, e] at kk; exact kk)) (fun _ => okL1 (am_to_32 _)) (hk _ _ _ _ h2) hM hls hst
  | if_icmp cnd off =>
    have hl2 := hlx
    simp [am_lx] at hl2
    obtain ⟨rfl, ht⟩ := hl2
    obtain ⟨x, y, st', rfl, h1⟩ := i2_some h
    exact sx_br C hdec ht h1 (fun q => hk _ _ _ _ q) (fun q => hk _ _ _ _ q)
  | ifCond cnd off =>
    have hl2 := hlx
    simp [am_lx] at hl2
    obtain ⟨rfl, ht⟩ := hl2
    obtain ⟨x, st', rfl, h1⟩ := i1_some h
    exact sx_br0 C hdec ht h1 (fun q => hk _ _ _ _ q) (fun q => hk _ _ _ _ q)
  | goto off =>
    have hl2 := hlx
    simp [am_lx] at hl2
    obtain ⟨rfl, ht⟩ := hl2
    exact sx_gen (vs := []) (v := []) (fun H locs as rest kk => lv_goto hx hb hdec (show (pc : Int) + off = ((((pc : Int) + off).toNat : Nat) : Int) by omega) kk) (fun q => q) (hk _ _ _ _ h)
  | tableswitch df lo hi offs =>
    have hl2 := hlx
    simp only [am_lx, Bool.and_eq_true, decide_eq_true_eq, List.all_eq_true] at hl2
    obtain ⟨x, st', rfl, h1⟩ := i1_some h
    obtain ⟨hlen, h2⟩ := if_some h1
    exact sx_tsw C hdec hl2.1 hl2.2 hlen h2 (fun pc' q => hk _ _ _ _ q)
  | lookupswitch df ps =>
    have hl2 := hlx
    simp only [am_lx, Bool.and_eq_true, decide_eq_true_eq] at hl2
    have hps : ∀ q ∈ ps.toList, 0 ≤ (pc : Int) + q.2 := fun q hq => by
      have := List.all_eq_true.mp hl2.1.2 q hq
      simpa using this
    obtain ⟨x, st', rfl, h1⟩ := i1_some h
    exact sx_lsw C hdec hl2.1.1 hps hl2.2 h1 (fun pc' q => hk _ _ _ _ q)
  | dup =>
    obtain rfl : len = 1 := by simpa [am_lx] using hlx
    obtain ⟨v, st', rfl, h1⟩ := s1_some h
    obtain ⟨hc, h2⟩ := if_some h1
    exact sx_gen (vs := [v]) (v := [v, v]) (fun H locs as rest kk => lv_dup hx hb hdec (c2_1 g hc) kk) (fun q => okL_cons (q v (by simp)) q) (hk _ _ _ _ h2)
  | dup2 =>
    obtain rfl : len = 1 := by simpa [am_lx] using hlx
    obtain ⟨v, st', rfl, h1⟩ := s1_some h
    obtain ⟨w, st', rfl, h2⟩ := s1_some h1
    obtain ⟨hc, h3⟩ := if_some h2
    exact sx_gen (vs := [v, w]) (v := [v, w, v, w]) (fun H locs as rest kk => lv_dup2_11 hx hb hdec (c2_1 g hc.1) (c2_1 g hc.2) kk) (fun q => okL_cons (q v (by simp)) (okL_cons (q w (by simp)) q)) (hk _ _ _ _ h3)
  | pop =>
    obtain rfl : len = 1 := by simpa [am_lx] using hlx
    obtain ⟨v, st', rfl, h1⟩ := s1_some h
    obtain ⟨hc, h2⟩ := if_some h1
    exact sx_gen (vs := [v]) (v := []) (fun H locs as rest kk => lv_pop hx hb hdec (c2_1 g hc) kk) (fun _ w hw => by cases hw) (hk _ _ _ _ h2)
  | getfield n =>
    obtain rfl : len = 3 := by simpa [am_lx] using hlx
    have hc2 := hlc
    simp only [am_lc, List.contains_iff_mem] at hc2
    obtain ⟨v, st', rfl, h1⟩ := s1_some h
    obtain ⟨t, i, rfl, h2⟩ := onR_some h1
    obtain ⟨hc, h3⟩ := if_some h2
    refine sx_get C hdec hc2 hc (hk _ _ _ _ ?_)
    unfold am_gv
    rcases hfk : am_fk (aux / 32) (aux % 32) with _ | _ | _ | q <;> (rw [hfk] at h3; exact h3)
  | putfield n =>
    obtain rfl : len = 3 := by simpa [am_lx] using hlx
    have hc2 := hlc
    simp only [am_lc, List.contains_iff_mem] at hc2
    obtain ⟨x, st', rfl, h1⟩ := s1_some h
    obtain ⟨v, st', rfl, h2⟩ := s1_some h1
    obtain ⟨t, i, rfl, h3⟩ := onR_some h2
    obtain ⟨hc, h4⟩ := if_some h3
    rcases hfk : am_fk (aux / 32) (aux % 32) with _ | _ | _ | _ | q
    · rw [hfk] at h4
      obtain ⟨z, rfl, h5⟩ := onI_some h4
      exact sx_put C hdec hc2 hc (Or.inl ⟨hfk, rfl⟩) (hk _ _ _ _ h5)
    · rw [hfk] at h4
      obtain ⟨t', i', rfl, h5⟩ := onR_some h4
      obtain ⟨rfl, h6⟩ := if_some h5
      exact sx_put C hdec hc2 hc (Or.inr (Or.inr ⟨hfk, i', rfl, rfl⟩)) (hk _ _ _ _ h6)
    · rw [hfk] at h4
      cases h4
    · rw [hfk] at h4
      obtain ⟨z, rfl, h5⟩ := onI_some h4
      obtain ⟨h01, h6⟩ := if_some h5
      exact sx_put C hdec hc2 hc (Or.inr (Or.inl ⟨hfk, rfl, h01⟩)) (hk _ _ _ _ h6)
    · rw [hfk] at h4
      cases h4
  | arraylength =>
    obtain rfl : len = 1 := by simpa [am_lx] using hlx
    obtain ⟨v, st', rfl, h1⟩ := s1_some h
    obtain ⟨t, i, rfl, h2⟩ := onR_some h1
    by_cases ht : t = 21
    · subst ht
      exact sx_slen C hdec (hk _ _ _ _ h2)
    · have h3 : (match am_ar t with
        | some q => k (pc + 1) (am_ms lv ls) (am_i q.2 :: st') M
        | none => none) = some o := by
        unfold am_al at h2
        split at h2
        · exact absurd rfl ht
        · exact h2
      cases hq : am_ar t with
      | none => rw [hq] at h3; cases h3
      | some q =>
        rw [hq] at h3
        exact sx_alen C hdec hq (hk _ _ _ _ h3)
  | iaload =>
    obtain rfl : len = 1 := by simpa [am_lx] using hlx
    obtain ⟨j, st', rfl, h1⟩ := i1_some h
    obtain ⟨v, st', rfl, h2⟩ := s1_some h1
    obtain ⟨t, i, rfl, h3⟩ := onR_some h2
    by_cases ht : t = 21
    · subst ht
      obtain ⟨hj, h4⟩ := if_some h3
      exact sx_sald C hdec hj (hk _ _ _ _ h4)
    · have h4 : am_ak 0 t (fun n => am_if (0 ≤ j ∧ j < n) (k (pc + 1) (am_ms lv ls) (am_i (M i j) :: st') M)) = some o := by
        split at h3
        · exact absurd rfl ht
        · exact h3
      obtain ⟨n, ha, h5⟩ := ak_some h4
      obtain ⟨hj, h6⟩ := if_some h5
      exact sx_iald C (Or.inl ⟨rfl, rfl⟩) hdec ha hj (hk _ _ _ _ h6)
  | baload =>
    obtain rfl : len = 1 := by simpa [am_lx] using hlx
    obtain ⟨j, st', rfl, h1⟩ := i1_some h
    obtain ⟨v, st', rfl, h2⟩ := s1_some h1
    obtain ⟨t, i, rfl, h3⟩ := onR_some h2
    obtain ⟨n, ha, h5⟩ := ak_some h3
    obtain ⟨hj, h6⟩ := if_some h5
    exact sx_iald C (Or.inr ⟨rfl, rfl⟩) hdec ha hj (hk _ _ _ _ h6)
  | aaload =>
    obtain rfl : len = 1 := by simpa [am_lx] using hlx
    obtain ⟨j, st', rfl, h1⟩ := i1_some h
    obtain ⟨v, st', rfl, h2⟩ := s1_some h1
    obtain ⟨t, i, rfl, h3⟩ := onR_some h2
    obtain ⟨n, ha, h5⟩ := ak_some h3
    obtain ⟨hj, h6⟩ := if_some h5
    exact sx_aald C hdec ha hj (hk _ _ _ _ h6)
  | iastore =>
    obtain rfl : len = 1 := by simpa [am_lx] using hlx
    obtain ⟨x, st', rfl, h0⟩ := i1_some h
    obtain ⟨j, st', rfl, h1⟩ := i1_some h0
    obtain ⟨v, st', rfl, h2⟩ := s1_some h1
    obtain ⟨t, i, rfl, h3⟩ := onR_some h2
    obtain ⟨n, ha, h5⟩ := ak_some h3
    obtain ⟨hj, h6⟩ := if_some h5
    exact sx_iast C (Or.inl ⟨rfl, rfl⟩) hdec ha hj (hk _ _ _ _ h6)
  | bastore =>
    obtain rfl : len = 1 := by simpa [am_lx] using hlx
    obtain ⟨x, st', rfl, h0⟩ := i1_some h
    obtain ⟨j, st', rfl, h1⟩ := i1_some h0
    obtain ⟨v, st', rfl, h2⟩ := s1_some h1
    obtain ⟨t, i, rfl, h3⟩ := onR_some h2
    obtain ⟨n, ha, h5⟩ := ak_some h3
    obtain ⟨hj, h6⟩ := if_some h5
    exact sx_iast C (Or.inr ⟨rfl, rfl, hj.2⟩) hdec ha hj.1 (hk _ _ _ _ h6)
  | aastore =>
    obtain rfl : len = 1 := by simpa [am_lx] using hlx
    obtain ⟨x, st', rfl, h0⟩ := s1_some h
    obtain ⟨j, st', rfl, h1⟩ := i1_some h0
    obtain ⟨v, st', rfl, h2⟩ := s1_some h1
    obtain ⟨t', i', rfl, h3⟩ := onR_some h2
    obtain ⟨t, i, rfl, h4⟩ := onR_some h3
    obtain ⟨n, ha, h5⟩ := ak_some h4
    obtain ⟨hj, h6⟩ := if_some h5
    obtain ⟨hj, rfl⟩ := hj
    exact sx_aast C hdec ha hj (hk _ _ _ _ h6)
  | invokevirtual n =>
    obtain rfl : len = 3 := by simpa [am_lx] using hlx
    have hc2 := hlc
    simp only [am_lc, Bool.or_eq_true, List.contains_iff_mem] at hc2
    obtain ⟨hc, h1⟩ := if_some h
    exact sx_inv C hR hdec (Or.inl ⟨rfl, hc⟩) hc2 h1 (fun st' M' q => hk _ _ _ _ q) hcl
  | invokestatic n =>
    obtain rfl : len = 3 := by simpa [am_lx] using hlx
    have hc2 := hlc
    simp only [am_lc, Bool.or_eq_true, List.contains_iff_mem] at hc2
    have h' := h
    unfold am_step at h'
    dsimp only at h'
    have hmx : ∀ j, aux / 10000 = j → 900 ≤ j → (oc, n, aux) ∈ am_mx := fun j hj hj9 => by
      rcases hc2 with (hc2 | hc2) | hc2
      · have := (lq_ok (List.all_eq_true.mp am_ml_ok _ hc2)).1
        dsimp only at this
        have : aux / 10000 < 312 := this
        omega
      · have := (lq_ok (List.all_eq_true.mp am_mn_ok _ hc2)).1
        dsimp only at this
        have : aux / 10000 < 312 := this
        omega
      · exact hc2
    split at h'
    · rename_i hj
      obtain ⟨hlen, h1⟩ := if_some h'
      obtain ⟨x, y, st', rfl, h2⟩ := i2_some h1
      exact sx_max C hdec (hmx _ hj (by omega)) hj (by simp at hlen; omega) (hk _ _ _ _ h2)
    · rename_i hj
      obtain ⟨hlen, h1⟩ := if_some h'
      obtain ⟨n1, st', rfl, h2⟩ := i1_some h1
      obtain ⟨dp, st', rfl, h3⟩ := i1_some h2
      obtain ⟨w, st', rfl, h4⟩ := s1_some h3
      obtain ⟨sp, st', rfl, h5⟩ := i1_some h4
      obtain ⟨v, st', rfl, h6⟩ := s1_some h5
      obtain ⟨t, i, rfl, h7⟩ := onR_some h6
      obtain ⟨t', i', rfl, h8⟩ := onR_some h7
      cases hq : am_ar t with
      | none => rw [hq] at h8; cases h8
      | some q =>
        rw [hq] at h8
        obtain ⟨⟨rfl, hq2, rfl, rfl, hn0, hn1⟩, h9⟩ := if_some h8
        exact sx_copy C hdec (hmx _ hj (by omega)) hj (by simp at hlen; omega) hq hq2 ⟨hn0, hn1⟩ (hk _ _ _ _ h9)
    · rename_i hj
      obtain ⟨hlen, h1⟩ := if_some h'
      obtain ⟨v, st', rfl, h2⟩ := s1_some h1
      obtain ⟨x, rfl, h3⟩ := onF_some h2
      exact sx_fbits C hdec (hmx _ hj (by omega)) hj (by simp at hlen; omega) (hk _ _ _ _ h3)
    · rename_i hj
      obtain ⟨hlen, h1⟩ := if_some h'
      obtain ⟨v, st', rfl, h2⟩ := s1_some h1
      obtain ⟨x, rfl, h3⟩ := onD_some h2
      exact sx_dbits C hdec (hmx _ hj (by omega)) hj (by simp at hlen; omega) (hk _ _ _ _ h3)
    · obtain ⟨hc, h1⟩ := if_some h'
      have hc3 : (oc, n, aux) ∈ am_ml ∨ (oc, n, aux) ∈ am_mn := by
        rcases hc2 with hc2 | hc2
        · exact hc2
        · have := mx_ok _ hc2
          dsimp only at this
          rcases (show aux / 10000 = 900 ∨ aux / 10000 = 901 ∨ aux / 10000 = 902 ∨ aux / 10000 = 903 by omega) with q | q | q | q
          · exact (‹aux / 10000 = 900 → False› q).elim
          · exact (‹aux / 10000 = 901 → False› q).elim
          · exact (‹aux / 10000 = 902 → False› q).elim
          · exact (‹aux / 10000 = 903 → False› q).elim
      exact sx_inv C hR hdec (Or.inr ⟨rfl, hc⟩) hc3 h1 (fun st' M' q => hk _ _ _ _ q) hcl
  | return_ =>
    obtain rfl : len = 1 := by simpa [am_lx] using hlx
    have h' := h
    unfold am_step at h'
    dsimp only at h'
    cases st with
    | cons v st => cases h'
    | nil =>
      obtain ⟨hc, h1⟩ := if_some h'
      cases h1
      intro hM hls hst H locs as hP hS hl
      exact hret pc _ H locs as hM (fun v hv => by cases hv) hP hS hdec (Or.inl ⟨hc, rfl, rfl⟩)
  | ireturn =>
    obtain rfl : len = 1 := by simpa [am_lx] using hlx
    obtain ⟨z, st', rfl, h1⟩ := i1_some h
    cases st' with
    | cons v st => cases h1
    | nil =>
      dsimp only at h1
      split at h1
      · cases h1
        intro hM hls hst H locs as hP hS hl
        exact hret pc _ H locs as hM (fun v hv => by cases hv; exact hst (am_i z) (by simp)) hP hS hdec (Or.inr (Or.inl ⟨rfl, rfl, z, rfl⟩))
      · obtain ⟨h01, h2⟩ := if_some h1
        cases h2
        intro hM hls hst H locs as hP hS hl
        exact hret pc _ H locs as hM (fun v hv => by cases hv; exact hst (am_i z) (by simp)) hP hS hdec (Or.inr (Or.inr (Or.inl ⟨rfl, rfl, z, rfl, h01⟩)))
      · cases h1
  | areturn =>
    obtain rfl : len = 1 := by simpa [am_lx] using hlx
    obtain ⟨v, st', rfl, h1⟩ := s1_some h
    obtain ⟨t, i, rfl, h2⟩ := onR_some h1
    cases st' with
    | cons v st => cases h2
    | nil =>
      obtain ⟨⟨hr, rfl⟩, h3⟩ := if_some h2
      cases h3
      intro hM hls hst H locs as hP hS hl
      exact hret pc _ H locs as hM (fun v hv => by cases hv; exact hst (am_r 4 i) (by simp)) hP hS hdec (Or.inr (Or.inr (Or.inr (Or.inl ⟨hr, rfl, i, rfl⟩))))
  | lreturn =>
    obtain rfl : len = 1 := by simpa [am_lx] using hlx
    obtain ⟨v, st', rfl, h1⟩ := s1_some h
    obtain ⟨x, rfl, h2⟩ := onL_some h1
    cases st' with
    | cons v st => cases h2
    | nil =>
      obtain ⟨hr, h3⟩ := if_some h2
      cases h3
      intro hM hls hst H locs as hP hS hl
      exact hret pc _ H locs as hM (fun v hv => by cases hv; trivial) hP hS hdec (Or.inr (Or.inr (Or.inr (Or.inr ⟨hr, rfl, x, rfl⟩))))
  | lconst n =>
    obtain rfl : len = 1 := by simpa [am_lx] using hlx
    exact sx_gen (vs := []) (v := [am_l (Int64.ofNat (n : Nat))]) (fun H locs as rest kk => lv_lconst hx hb hdec rfl kk) (fun _ => okL1 trivial) (hk _ _ _ _ h)
  | fconst n =>
    obtain rfl : len = 1 := by simpa [am_lx] using hlx
    match n, hdec, h with
    | 0, hdec, h => exact sx_gen (vs := []) (v := [am_f FP.fconst0]) (fun H locs as rest kk => lv_fconst0 hx hb hdec kk) (fun _ => okL1 trivial) (hk _ _ _ _ h)
    | 1, hdec, h => exact sx_gen (vs := []) (v := [am_f FP.fconst1]) (fun H locs as rest kk => lv_fconst1 hx hb hdec kk) (fun _ => okL1 trivial) (hk _ _ _ _ h)
    | 2, hdec, h => exact sx_gen (vs := []) (v := [am_f FP.fconst2]) (fun H locs as rest kk => lv_fconst2 hx hb hdec kk) (fun _ => okL1 trivial) (hk _ _ _ _ h)
  | dconst n =>
    obtain rfl : len = 1 := by simpa [am_lx] using hlx
    match n, hdec, h with
    | 0, hdec, h => exact sx_gen (vs := []) (v := [am_d FP.dconst0]) (fun H locs as rest kk => lv_dconst0 hx hb hdec kk) (fun _ => okL1 trivial) (hk _ _ _ _ h)
    | 1, hdec, h => exact sx_gen (vs := []) (v := [am_d FP.dconst1]) (fun H locs as rest kk => lv_dconst1 hx hb hdec kk) (fun _ => okL1 trivial) (hk _ _ _ _ h)
  | ladd =>
    obtain rfl : len = 1 := by simpa [am_lx] using hlx
    obtain ⟨x, y, st', rfl, h1⟩ := l2_some h
    exact sx_gen (vs := [am_l y, am_l x]) (v := [am_l (x + y)]) (fun H locs as rest kk => lv_ladd hx hb hdec kk) (fun _ => okL1 trivial) (hk _ _ _ _ h1)
  | lsub =>
    obtain rfl : len = 1 := by simpa [am_lx] using hlx
    obtain ⟨x, y, st', rfl, h1⟩ := l2_some h
    exact sx_gen (vs := [am_l y, am_l x]) (v := [am_l (x - y)]) (fun H locs as rest kk => lv_lsub hx hb hdec kk) (fun _ => okL1 trivial) (hk _ _ _ _ h1)
  | lor =>
    obtain rfl : len = 1 := by simpa [am_lx] using hlx
    obtain ⟨x, y, st', rfl, h1⟩ := l2_some h
    exact sx_gen (vs := [am_l y, am_l x]) (v := [am_l (x ||| y)]) (fun H locs as rest kk => lv_lor hx hb hdec kk) (fun _ => okL1 trivial) (hk _ _ _ _ h1)
  | lshl =>
    obtain rfl : len = 1 := by simpa [am_lx] using hlx
    obtain ⟨y, st', rfl, h1⟩ := i1_some h
    obtain ⟨v, st', rfl, h2⟩ := s1_some h1
    obtain ⟨x, rfl, h3⟩ := onL_some h2
    exact sx_gen (vs := [am_i y, am_l x]) (v := [am_l (x <<< ((Int32.ofInt y).toInt64 &&& 63))]) (fun H locs as rest kk => lv_lshl hx hb hdec rfl kk) (fun _ => okL1 trivial) (hk _ _ _ _ h3)
  | lcmp =>
    obtain rfl : len = 1 := by simpa [am_lx] using hlx
    obtain ⟨x, y, st', rfl, h1⟩ := l2_some h
    exact sx_gen (vs := [am_l y, am_l x]) (v := [am_i (lg_cmp x y).toInt]) (fun H locs as rest kk => W.lcmp hx hb hdec (by have e : am_cv g (am_i (lg_cmp x y).toInt) = _ := congrArg Value.int (am_of_to _); simp only [List.map_cons, List.map_nil, e] at kk; exact kk)) (fun _ => okL1 (am_to_32 _)) (hk _ _ _ _ h1)
  | i2l =>
    obtain rfl : len = 1 := by simpa [am_lx] using hlx
    obtain ⟨x, st', rfl, h1⟩ := i1_some h
    exact sx_gen (vs := [am_i x]) (v := [am_l (Int32.ofInt x).toInt64]) (fun H locs as rest kk => lv_i2l hx hb hdec rfl kk) (fun _ => okL1 trivial) (hk _ _ _ _ h1)
  | l2d =>
    obtain rfl : len = 1 := by simpa [am_lx] using hlx
    obtain ⟨v, st', rfl, h1⟩ := s1_some h
    obtain ⟨x, rfl, h2⟩ := onL_some h1
    exact sx_gen (vs := [am_l x]) (v := [am_d (FP.l2d x)]) (fun H locs as rest kk => lv_l2d hx hb hdec kk) (fun _ => okL1 trivial) (hk _ _ _ _ h2)
  | i2d =>
    obtain rfl : len = 1 := by simpa [am_lx] using hlx
    obtain ⟨x, st', rfl, h1⟩ := i1_some h
    exact sx_gen (vs := [am_i x]) (v := [am_d (FP.i2d (Int32.ofInt x))]) (fun H locs as rest kk => lv_i2d hx hb hdec kk) (fun _ => okL1 trivial) (hk _ _ _ _ h1)
  | i2f =>
    obtain rfl : len = 1 := by simpa [am_lx] using hlx
    obtain ⟨x, st', rfl, h1⟩ := i1_some h
    exact sx_gen (vs := [am_i x]) (v := [am_f (FP.i2f (Int32.ofInt x))]) (fun H locs as rest kk => lv_i2f hx hb hdec kk) (fun _ => okL1 trivial) (hk _ _ _ _ h1)
  | d2i =>
    obtain rfl : len = 1 := by simpa [am_lx] using hlx
    obtain ⟨v, st', rfl, h1⟩ := s1_some h
    obtain ⟨x, rfl, h2⟩ := onD_some h1
    exact sx_gen (vs := [am_d x]) (v := [am_i (FP.d2i x).toInt]) (fun H locs as rest kk => lv_d2i hx hb hdec (by have e : am_cv g (am_i (FP.d2i x).toInt) = _ := congrArg Value.int (am_of_to _); simp only [List.map_cons, List.map_nil, e] at kk; exact kk)) (fun _ => okL1 (am_to_32 _)) (hk _ _ _ _ h2)
  | f2i =>
    obtain rfl : len = 1 := by simpa [am_lx] using hlx
    obtain ⟨v, st', rfl, h1⟩ := s1_some h
    obtain ⟨x, rfl, h2⟩ := onF_some h1
    exact sx_gen (vs := [am_f x]) (v := [am_i (FP.f2i x).toInt]) (fun H locs as rest kk => lv_f2i hx hb hdec (by have e : am_cv g (am_i (FP.f2i x).toInt) = _ := congrArg Value.int (am_of_to _); simp only [List.map_cons, List.map_nil, e] at kk; exact kk)) (fun _ => okL1 (am_to_32 _)) (hk _ _ _ _ h2)
  | d2l =>
    obtain rfl : len = 1 := by simpa [am_lx] using hlx
    obtain ⟨v, st', rfl, h1⟩ := s1_some h
    obtain ⟨x, rfl, h2⟩ := onD_some h1
    exact sx_gen (vs := [am_d x]) (v := [am_l (FP.d2l x)]) (fun H locs as rest kk => lv_d2l hx hb hdec kk) (fun _ => okL1 trivial) (hk _ _ _ _ h2)
  | fcmp op =>
    obtain rfl : len = 1 := by simpa [am_lx] using hlx
    obtain ⟨x, y, st', rfl, h1⟩ := f2_some h
    exact sx_gen (vs := [am_f y, am_f x]) (v := [am_i (Op.cmpValue (FP.fcmp x y) op).toInt]) (fun H locs as rest kk => lv_fcmp hx hb hdec (by have e : am_cv g (am_i (Op.cmpValue (FP.fcmp x y) op).toInt) = _ := congrArg Value.int (am_of_to _); simp only [List.map_cons, List.map_nil, e] at kk; exact kk)) (fun _ => okL1 (am_to_32 _)) (hk _ _ _ _ h1)
  | dcmp op =>
    obtain rfl : len = 1 := by simpa [am_lx] using hlx
    obtain ⟨x, y, st', rfl, h1⟩ := d2_some h
    exact sx_gen (vs := [am_d y, am_d x]) (v := [am_i (Op.cmpValue (FP.dcmp x y) op).toInt]) (fun H locs as rest kk => lv_dcmp hx hb hdec (by have e : am_cv g (am_i (Op.cmpValue (FP.dcmp x y) op).toInt) = _ := congrArg Value.int (am_of_to _); simp only [List.map_cons, List.map_nil, e] at kk; exact kk)) (fun _ => okL1 (am_to_32 _)) (hk _ _ _ _ h1)
  | fsub =>
    obtain rfl : len = 1 := by simpa [am_lx] using hlx
    obtain ⟨x, y, st', rfl, h1⟩ := f2_some h
    obtain ⟨hn, h2⟩ := if_some h1
    exact sx_gen (vs := [am_f y, am_f x]) (v := [am_f (FP.fsub x y)]) (fun H locs as rest kk => lv_fsub hx hb hdec hn kk) (fun _ => okL1 trivial) (hk _ _ _ _ h2)
  | fmul =>
    obtain rfl : len = 1 := by simpa [am_lx] using hlx
    obtain ⟨x, y, st', rfl, h1⟩ := f2_some h
    obtain ⟨hn, h2⟩ := if_some h1
    exact sx_gen (vs := [am_f y, am_f x]) (v := [am_f (FP.fmul x y)]) (fun H locs as rest kk => lv_fmul hx hb hdec hn kk) (fun _ => okL1 trivial) (hk _ _ _ _ h2)
  | fdiv =>
    obtain rfl : len = 1 := by simpa [am_lx] using hlx
    obtain ⟨x, y, st', rfl, h1⟩ := f2_some h
    obtain ⟨hn, h2⟩ := if_some h1
    exact sx_gen (vs := [am_f y, am_f x]) (v := [am_f (FP.fdiv x y)]) (fun H locs as rest kk => lv_fdiv hx hb hdec hn kk) (fun _ => okL1 trivial) (hk _ _ _ _ h2)
  | dadd =>
    obtain rfl : len = 1 := by simpa [am_lx] using hlx
    obtain ⟨x, y, st', rfl, h1⟩ := d2_some h
    obtain ⟨hn, h2⟩ := if_some h1
    exact sx_gen (vs := [am_d y, am_d x]) (v := [am_d (FP.dadd x y)]) (fun H locs as rest kk => lv_dadd hx hb hdec hn kk) (fun _ => okL1 trivial) (hk _ _ _ _ h2)
  | dsub =>
    obtain rfl : len = 1 := by simpa [am_lx] using hlx
    obtain ⟨x, y, st', rfl, h1⟩ := d2_some h
    obtain ⟨hn, h2⟩ := if_some h1
    exact sx_gen (vs := [am_d y, am_d x]) (v := [am_d (FP.dsub x y)]) (fun H locs as rest kk => lv_dsub hx hb hdec hn kk) (fun _ => okL1 trivial) (hk _ _ _ _ h2)
  | dmul =>
    obtain rfl : len = 1 := by simpa [am_lx] using hlx
    obtain ⟨x, y, st', rfl, h1⟩ := d2_some h
    obtain ⟨hn, h2⟩ := if_some h1
    exact sx_gen (vs := [am_d y, am_d x]) (v := [am_d (FP.dmul x y)]) (fun H locs as rest kk => lv_dmul hx hb hdec hn kk) (fun _ => okL1 trivial) (hk _ _ _ _ h2)
  | ddiv =>
    obtain rfl : len = 1 := by simpa [am_lx] using hlx
    obtain ⟨x, y, st', rfl, h1⟩ := d2_some h
    obtain ⟨hn, h2⟩ := if_some h1
    exact sx_gen (vs := [am_d y, am_d x]) (v := [am_d (FP.ddiv x y)]) (fun H locs as rest kk => lv_ddiv hx hb hdec hn kk) (fun _ => okL1 trivial) (hk _ _ _ _ h2)
  | _ => cases h
end SW
