/-! the small machine's answers are the machine's: methods by contract, a frame from any row on -/
def am_skip (i : ClassFile.Instr) : Bool := match i with
  | .new _ => true
  | .invokespecial _ => true
  | _ => false
def am_F (l : Launch) (g : am_G) (f : Nat) : Prop := ∀ (p : Program) (e : Env) (R : Room) (s : State) (m : MethodId) (args : Array Value) (below : List Frame) (meth : Method) (c : Code) (H0 : Heap) (A : Nat → Prop) (cells slots : Nat) (Q : State → Prop) (nL : Nat) (cc : ByteArray) (oc d j pc : Nat) (ls st : List am_V) (M : am_M) (o : am_O), am_Cx p R s m args c H0 A cells slots g nL cc oc → (d + 1 ≤ R.frames ∧ 64 * (d + 1) ≤ R.locals) → (∀ e0 ∈ (am_P j).2.2, decode cc e0.1 = .ok (e0.2.1, e0.2.2.1) ∧ (am_skip e0.2.1 = true ∨ (am_lc oc e0 = true ∧ am_lx nL e0 = true))) →
  (∀ (pcR : Nat) (ins : ClassFile.Instr) (H : Heap) (locs : List Loc) (as : Array Slot), am_okM g o.2 → (∀ v, o.1 = some v → am_okV v) → va_P g.2.1 vwCl (am_wd g o.2) H → va_S A H0 H locs → decode cc pcR = .ok (ins, 1) → am_rk (am_P j).2.1 o.1 ins → W p l e R s m args below meth c H locs cells slots Q (F0 m pcR as (o.1.map (am_cv g)).toList)) →
  am_ex am_P f d j pc ls st M = some o → am_Y p l e R s m args below meth c H0 A cells slots Q g nL pc ls st M
def am_K2 (l : Launch) (g : am_G) (f : Nat) : Prop := ∀ (d j : Nat) (as : List am_V) (M : am_M) (r : Option am_V) (M' : am_M), j < am_nm → (am_in as).length ≤ (am_P j).1 → am_ex am_P f d j 0 (am_en (am_P j).1 as) [] M = some (r, M') → am_okM g M → am_okL as → am_Mt l g d j as M r M'
theorem am_FS {l : Launch} {g : am_G} {f : Nat} (hF : am_F l g f) (hK : am_K2 l g f) : am_F l g (f + 1) := by
  intro p e R s m args below meth c H0 A cells slots Q nL cc oc d j pc ls st M o C hR hrow hret h
  cases hg : am_go (am_P j).2.2 pc with
  | nil =>
    unfold am_ex at h
    rw [hg] at h
    cases h
  | cons e0 rest =>
    rw [am_ex_key am_P hg] at h
    obtain ⟨pre, hpre⟩ := am_go_sf (am_P j).2.2 pc
    rw [hg] at hpre
    have hmem : e0 ∈ (am_P j).2.2 := by rw [hpre]; simp
    have hpc := am_go_hd hg
    obtain ⟨hdec, hch⟩ := hrow e0 hmem
    rcases hch with hsk | ⟨hlc, hlx⟩
    · obtain ⟨pc0, ins, len, aux, lv⟩ := e0
      dsimp only at hsk
      cases ins <;> first | exact absurd hsk Bool.false_ne_true | cases h
    · rw [← hpc]
      refine sx_step C hR hdec hlc hlx h (fun pc' ls' st' M' q => hF p e R s m args below meth c H0 A cells slots Q nL cc oc d j pc' ls' st' M' o C hR hrow hret q) (fun j' as M1 r M2 q => ?_) hret
      cases d with
      | zero => cases q
      | succ d' =>
        refine ⟨d', rfl, fun hj hM hok => ?_⟩
        obtain ⟨hlen, q2⟩ := if_some (show am_if ((am_in as).length ≤ (am_P j').1) (am_ex am_P f d' j' 0 (am_en (am_P j').1 as) [] M1) = some (r, M2) from q)
        exact hK d' j' as M1 r M2 hj hlen q2 hM hok
theorem in_len (g : am_G) : ∀ (as : List am_V), (lg_sl (as.map (am_cv g))).length = (am_in as).length
  | [] => rfl
  | v :: as => by
    have ih := in_len g as
    unfold lg_sl at ih ⊢
    simp only [List.map_cons, List.flatMap_cons, List.length_append, am_in]
    by_cases h : am_c2 v = true
    · rw [if_pos h, if_pos ((c2_cat g v).mpr h)]
      simp only [List.length_cons, List.length_nil]
      omega
    · rw [if_neg h, if_neg (fun q => h ((c2_cat g v).mp q))]
      simp only [List.length_cons, List.length_nil]
      omega
theorem lg_app : ∀ (l1 l2 : List am_V) (n : Nat), am_lg (l1 ++ l2) n = if n < l1.length then am_lg l1 n else am_lg l2 (n - l1.length)
  | [], l2, n => by simp
  | v :: l1, l2, 0 => by simp [am_lg]
  | v :: l1, l2, n + 1 => by
    have := lg_app l1 l2 n
    simp only [List.cons_append, am_lg, List.length_cons, this]
    by_cases h : n < l1.length
    · rw [if_pos h, if_pos (by omega)]
    · rw [if_neg h, if_neg (by omega)]
      congr 1
      omega
theorem lg_rep : ∀ (k n : Nat), am_lg (List.replicate k am_u) n = am_u
  | 0, _ => rfl
  | k + 1, 0 => rfl
  | k + 1, n + 1 => lg_rep k n
theorem in_args (g : am_G) : ∀ (as : List am_V) (b n : Nat), am_lg (am_in as) n ≠ am_u → (b + n, am_cv g (am_lg (am_in as) n)) ∈ lv_args b (as.map (am_cv g))
  | [], _, _, h => absurd rfl h
  | v :: as, b, n, h => by
    unfold am_in at h ⊢
    by_cases hc : am_c2 v = true
    · rw [if_pos hc] at h ⊢
      have hcat := (c2_cat g v).mpr hc
      match n, h with
      | 0, h => simp [lv_args, am_lg]
      | 1, h => exact absurd rfl h
      | n + 2, h =>
        have := in_args g as (b + 2) n h
        simp only [List.map_cons, lv_args, am_lg, hcat]
        refine List.mem_cons_of_mem _ ?_
        rw [show b + (n + 2) = b + 2 + n by omega]
        exact this
    · rw [if_neg hc] at h ⊢
      have hcat : (am_cv g v).category = 1 := c2_1 g (by simpa using hc)
      match n, h with
      | 0, h => simp [lv_args, am_lg]
      | n + 1, h =>
        have := in_args g as (b + 1) n h
        simp only [List.map_cons, lv_args, am_lg, hcat]
        refine List.mem_cons_of_mem _ ?_
        rw [show b + (n + 1) = b + 1 + n by omega]
        exact this
theorem in_ok : ∀ {as : List am_V}, am_okL as → am_okL (am_in as)
  | [], _ => fun w hw => by cases hw
  | v :: as, h => by
    unfold am_in
    have h1 := in_ok (as := as) fun w hw => h w (List.mem_cons_of_mem _ hw)
    by_cases hc : am_c2 v = true
    · rw [if_pos hc]; exact okL_cons (h v (by simp)) (okL_cons trivial h1)
    · rw [if_neg hc]; exact okL_cons (h v (by simp)) h1
theorem en_ok {n : Nat} {as : List am_V} (h : am_okL as) : am_okL (am_en n as) := okL_app (in_ok h) fun w hw => by
  rw [(List.mem_replicate.mp hw).2]; trivial
set_option maxHeartbeats 4000000 in
theorem am_FK {l : Launch} {g : am_G} {f : Nat} (hgok : am_gok g) (hL : g.2.2.2.2 ≤ 3584) (hF : am_F l g f) : am_K2 l g f := by
  intro d j as M r M' hj hlen h hM hok
  obtain ⟨hpl, hcls, hoc10, hmx40, hret5, hmh, hvh⟩ := ym hj
  refine Met.ofWF (cc := am_bt j) (maxL := (am_P j).1) (ret := am_rt (am_P j).2.1) (ws' := am_gd) hpl rfl ?_
  intro p e s m args below meth c s₁ B hml hv
  obtain ⟨rfl, hP, hK, hN, hX, hb⟩ := hv
  have hlocks := B.notSynchronized
  have hts := atoms_spec (ws := am_ws j) B.pre
  have hts' : ∀ w ∈ am_gd, w.before (as.map (am_cv g)).toArray s = true := fun w hw => hts w (List.mem_cons_of_mem _ hw)
  have hown : s.vm.findClass (am_cn (am_oc j)) = some m.cls := by rw [← hcls]; exact findClass_of_methodNamed B.named
  have hnA : ¬ am_A g (g.1 517) := fun ⟨i, hi, hq⟩ => by
    have := hgok 517 i (Nat.le_refl _) (by omega) hq
    omega
  have hrows := k_all j hj
  have C : am_Cx p (headSpec (am_ws j) (am_rm d)).room s m (as.map (am_cv g)).toArray c s.heap (am_A g) 0 0 g (am_P j).1 (am_bt j) (am_oc j) :=
    ⟨B.exec, B.bytes, hml, hown, hts', hK, hX, hb, fun i hi => ⟨i, hi, rfl⟩, hnA, hN, ⟨Nat.zero_le _, Nat.zero_le _, Nat.succ_le_succ (Nat.zero_le d), by show 64 ≤ 64 * (d + 1); omega⟩, hgok, hL⟩
  have hle : (lg_sl (as.map (am_cv g))).length ≤ (am_P j).1 := by rw [in_len]; exact hlen
  have hl := lv_entry (as.map (am_cv g)) (n := (am_P j).1) hle
  rw [lg_entry_eq]
  generalize (lg_sl (as.map (am_cv g)) ++ List.replicate ((am_P j).1 - (lg_sl (as.map (am_cv g))).length) Slot.unset).toArray = las at hl ⊢
  have hhl : am_hl g las (am_P j).1 (am_en (am_P j).1 as) := by
    refine ⟨hl.1, hl.2.1, by unfold am_en; simp; omega, fun n hn => ?_⟩
    unfold am_en at hn ⊢
    rw [lg_app] at hn ⊢
    by_cases hq : n < (am_in as).length
    · rw [if_pos hq] at hn ⊢
      have := hl.2.2 _ (in_args g as 0 n hn)
      simpa using this
    · rw [if_neg hq, lg_rep] at hn
      exact absurd rfl hn
  have hY := hF p e (headSpec (am_ws j) (am_rm d)).room s m (as.map (am_cv g)).toArray below meth c s.heap (am_A g) 0 0 (MQ below (am_Qc g r M') (as.map (am_cv g)).toArray s 0 0 (am_A g)) (am_P j).1 (am_bt j) (am_oc j) d j 0 (am_en (am_P j).1 as) [] M (r, M') C ⟨Nat.le_refl _, Nat.le_refl _⟩ (fun e0 he => ⟨(hrows e0 he).1, Or.inr (hrows e0 he).2⟩) ?_ h
  · exact hY hM (en_ok hok) (fun w hw => by cases hw) s.heap [] las hP va_S.rf hhl
  · intro pcR ins H locs as' hokM hrv hP' hS hdec hrk
    have hr := B.returns
    have hq : ∀ t : State, t.heap = H → s.WarmedH t.vm → am_Qc g r M' (as.map (am_cv g)).toArray s (.returned (r.map (am_cv g))) t := fun t ht _ => ⟨⟨rfl, hokM, hrv, by rw [ht]; exact hP'⟩, hS.F ht⟩
    rcases hrk with ⟨h1, h2, rfl⟩ | ⟨h1, rfl, z, h2⟩ | ⟨h1, rfl, z, h2, h3⟩ | ⟨h1, rfl, i, h2⟩ | ⟨h1, rfl, x, h2⟩
    · dsimp only at h2; subst h2
      rw [h1] at hr
      exact W.vret B.exec B.bytes hr hq hS.2.2 hdec
    · dsimp only at h2; subst h2
      rw [h1] at hr
      exact W.iret B.exec B.bytes hr hq hS.2.2 hdec
    · dsimp only at h2; subst h2
      rw [h1] at hr
      exact W.zret (ty := .boolean) B.exec B.bytes hr (by rcases h3 with rfl | rfl <;> rfl) hq hS.2.2 hdec
    · dsimp only at h2; subst h2
      rw [h1] at hr
      exact W.aret (rt := .object "ThinVolumes$State") B.exec B.bytes hr (Or.inl ⟨_, rfl⟩) (Or.inr ⟨_, rfl⟩) hq hS.2.2 hdec
    · dsimp only at h2; subst h2
      rw [h1] at hr
      exact W.lret B.exec B.bytes hr hq hS.2.2 hdec
theorem am_snd (l : Launch) (g : am_G) (hgok : am_gok g) (hL : g.2.2.2.2 ≤ 3584) : ∀ f, am_F l g f
  | 0 => by
    intro p e R s m args below meth c H0 A cells slots Q nL cc oc d j pc ls st M o C hR hrow hret h
    cases h
  | f + 1 => am_FS (am_snd l g hgok hL f) (am_FK hgok hL (am_snd l g hgok hL f))
/-- THE SMALL MACHINE IS SOUND: from any row of a code on, where it comes to an answer, so does the machine -/
theorem am_sound {l : Launch} {g : am_G} {p : Program} {e : Env} {R : Room} {s : State} {m : MethodId} {args : Array Value} {below : List Frame} {meth : Method} {c : Code} {H0 : Heap} {A : Nat → Prop} {cells slots : Nat} {Q : State → Prop} {nL : Nat} {cc : ByteArray} {oc d j pc : Nat} {ls st : List am_V} {M : am_M} {o : am_O} (C : am_Cx p R s m args c H0 A cells slots g nL cc oc) (hR : d + 1 ≤ R.frames ∧ 64 * (d + 1) ≤ R.locals) (hrow : ∀ e0 ∈ (am_P j).2.2, decode cc e0.1 = .ok (e0.2.1, e0.2.2.1) ∧ (am_skip e0.2.1 = true ∨ (am_lc oc e0 = true ∧ am_lx nL e0 = true)))
  (hret : ∀ (pcR : Nat) (ins : ClassFile.Instr) (H : Heap) (locs : List Loc) (as : Array Slot), am_okM g o.2 → (∀ v, o.1 = some v → am_okV v) → va_P g.2.1 vwCl (am_wd g o.2) H → va_S A H0 H locs → decode cc pcR = .ok (ins, 1) → am_rk (am_P j).2.1 o.1 ins → W p l e R s m args below meth c H locs cells slots Q (F0 m pcR as (o.1.map (am_cv g)).toList)) (h : am_at am_P d j pc ls st M = some o) : am_Y p l e R s m args below meth c H0 A cells slots Q g nL pc ls st M := by
  obtain ⟨f, hf⟩ := (am_at_iff am_P).mp h
  exact am_snd l g C.2.2.2.2.2.2.2.2.2.2.2.2.1 C.2.2.2.2.2.2.2.2.2.2.2.2.2 f p e R s m args below meth c H0 A cells slots Q nL cc oc d j pc ls st M o C hR hrow hret hf
