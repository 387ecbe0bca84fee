/-! the law: the claim out of one walk -/
theorem zL_0 : decode code 0 = .ok (.new 7, 3) := by decide +kernel
theorem zL_3 : decode code 3 = .ok (.dup, 1) := by decide +kernel
theorem zL_4 : decode code 4 = .ok (.invokespecial 9, 3) := by decide +kernel
theorem zL_7 : decode code 7 = .ok (.astore_n 1, 1) := by decide +kernel
theorem zL_8 : decode code 8 = .ok (.new 10, 3) := by decide +kernel
theorem zL_11 : decode code 11 = .ok (.dup, 1) := by decide +kernel
theorem zL_12 : decode code 12 = .ok (.invokespecial 12, 3) := by decide +kernel
theorem zL_15 : decode code 15 = .ok (.astore_n 2, 1) := by decide +kernel
theorem zL_16 : decode code 16 = .ok (.iconst 0, 1) := by decide +kernel
theorem zL_17 : decode code 17 = .ok (.istore_n 3, 1) := by decide +kernel
/-! THE CLAIM OUT OF ONE WALK OF THE LAW'S BODY. Your part is whole_start (and what it stands on); all else here is the same for every law, but numbers. -/
def R_law : String := "ThinVolumesLaw"
def lw_P (b : Addr) (xs : List Int32) (args : Array Value) (s : State) : Prop := args = #[.ref b] ∧ s.IntsAt b xs ∧ xs.length ≤ 3584 ∧ (Jvm.Cond.and given_1 narrow_1).before args s = true
/-- what a walk over the start with the record d0 says of its end, said of the start itself -/
theorem lw_closed {s t : State} {o : Outcome} {d0 : Drawn} {L : List Loc} {k n : Nat} (hd0 : s.drawn.sameBut d0 lw_cs) (hv : ∃ v, o = .returned v) (hW : (s.setDrawn d0).WarmedH t.vm) (hs : (s.setDrawn d0).sameButNew ({ t with vm := s.vm } : State) L k n) : State.butDraws s t lw_cs (fun t1 => Framed s o t1 L k n) := by
  have h2 : t.drawn = d0 := congrArg State.drawn hs.1
  refine ⟨⟨hv, hW, State.sameButNew.setDrawn hs s.drawn⟩, ?_, by decide⟩
  rw [h2]
  exact hd0
def lw_Q (_ : Array Value) (s : State) (o : Outcome) (t : State) : Prop := o = .returned (some (.int 1)) ∧ State.butDraws s t lw_cs (fun t1 => Framed s o t1 [] 600000 7302250)
def lw_Z (below : List Frame) (a : Array Value) (s : State) : State → Prop := fun t => ∃ o, t.status = .running ∧ Ended t below o ∧ lw_Q a s o t
/-- the law's own end, with 1 on the stack, nothing written that was there before, its room as the claim has it; d0: the record of draws at this point (at the entry s.drawn: begin with 'refine W.base ?_' and 'have hd0 := Drawn.sameBut.refl s.drawn lw_cs') -/
theorem lw_ret {p : Program} {l : Launch} {e : Env} {s : State} {m : MethodId} {below : List Frame} {meth : Method} {c : Code} {b : Nat} {d0 : Drawn} (hd0 : s.drawn.sameBut d0 lw_cs) (hx : p.tables.exec = Jvm.exec) (hb : c.code = code) (hr : meth.sig.returnType = ret) (hlocks : meth.locks = false) {pc : Nat} {H : Heap} {ls : Array Slot} (hdg : decode code pc = .ok (.ireturn, 1)) : W p l e room_1 (s.setDrawn d0) m #[Value.ref b] below meth c H [] 600000 7302250 (lw_Z below #[Value.ref b] s) (F0 m pc ls [.int 1]) := by
  intro T hT X
  obtain ⟨fs, hret, hrun, hended, hW, hframe⟩ := X.leave (v := some (.int 1)) (hlocks := hlocks) (fun h => by rw [hr] at h; cases h)
  have hmeth' : T.vm.method? m = some meth := X.method'
  refine ⟨T.setFrames fs, ?_, .returned (some (.int 1)), hrun, hended, rfl, lw_closed hd0 ⟨_, rfl⟩ hW hframe⟩
  jvm_step X.here [X.here.top, hx, hb, hdg, hmeth', hr, ret, narrow_b1]
  (try refine ⟨rfl, ?_⟩); (try refine ⟨rfl, ?_⟩)
  first | (intro acts; rw [hret _ acts rfl rfl rfl]) | rw [hret _ _ rfl rfl rfl]
  exact Steps.refl _
/-- what holds at the law's entry: the machine, the code, the tables' words (any of lw_tbl by 'hts w (by decide +kernel)'), the script of L ints xs at the cell b, what the Statement gives of the start (any of its parts by flat_of_before) -/
def lw_At (p : Program) (s : State) (m : MethodId) (meth : Method) (c : Code) (b L : Nat) (xs : Nat → Int32) : Prop :=
  p.tables.exec = Jvm.exec ∧ c.code = code ∧ meth.sig.returnType = ret ∧ c.maxLocals = 4 ∧ s.vm.findClass R_law = some m.cls ∧ (∀ w ∈ lw_tbl, w.before #[Value.ref b] s = true) ∧ va_X b L xs s s.heap ∧ b < s.heap.size ∧ meth.locks = false ∧ (Jvm.Cond.and given_1 narrow_1).before #[Value.ref b] s = true
set_option maxHeartbeats 4000000 in
set_option maxRecDepth 100000 in
theorem whole_start {p : Program} {e : Env} {s : State} {m : MethodId} {below : List Frame} {meth : Method} {c : Code} (l : Launch) (hflags : l.flags = flags0) {b L : Nat} {xs : Nat → Int32} (hL : L ≤ 3584) (C0 : lw_At p s m meth c b L xs) : W p l e room_1 s m #[Value.ref b] below meth c s.heap [] 0 0 (lw_Z below #[Value.ref b] s) (entryFrame m ([Value.ref b] : List Value).toArray 4) := by
  obtain ⟨hx, hb, hr, hml, hown, hts, hX, hbl, hlocks, hgv⟩ := C0
  have hts' : ∀ w ∈ am_gd, w.before #[Value.ref b] s = true := fun w hw => hts w (List.mem_filter.mp hw).1
  have hbA : ¬ (fun q : Nat => s.heap.size ≤ q) b := Nat.not_le.mpr hbl
  obtain ⟨D, k3, hK⟩ := ct_known hts
  have C : ct_C p s m #[Value.ref b] c 4 code 10 D k3 s.heap (fun q : Nat => s.heap.size ≤ q) := ⟨hx, hb, hml, hown, hts', hK, fun _ h => h⟩
  have hS : va_S (fun q : Nat => s.heap.size ≤ q) s.heap s.heap [] := va_S.rf
  have hP : va_P D vwCl [] s.heap := fun k q h => by simp at h
  have hD : va_D (fun q : Nat => s.heap.size ≤ q) [] := ⟨fun i j p q h => by simp at h, fun k q h => by simp at h⟩
  have hl := lv_entry ([.ref b]) (n := 4) (Nat.le_of_ble_eq_true rfl)
  rw [lg_entry_eq]
  generalize (lg_sl ([.ref b]) ++ List.replicate (4 - (lg_sl ([.ref b])).length) Slot.unset).toArray = ls at hl ⊢
  have hl : lv_has ls 4 [(0, .ref b)] := hl
  refine ct_nw C (ci := 5) (fs := [.null, .null, .null, .null, .null, .null, .null, .null, .null]) rfl df_5 wl_116 wi_5 (Nat.le_of_ble_eq_true rfl) (Nat.le_of_ble_eq_true rfl) zL_0 zL_3 hP hD hS fun h0 H hP hD hS => ?_
  refine ct_iv (As := []) (L := []) (k_X5 l D k3) C rfl (ci := 5) rfl (by decide) wX5_code wm_118 wX5_in ⟨by decide, by decide, by decide +kernel⟩ ⟨Nat.le_of_ble_eq_true rfl, Nat.le_of_ble_eq_true rfl⟩ ⟨Nat.le_of_ble_eq_true rfl, Nat.le_of_ble_eq_true rfl⟩ (Nat.le_of_ble_eq_true rfl) hl.1 zL_4 hP hD hS fun w H locs hw hP hD hS => ?_
  obtain ⟨f1, f2, f4, n, g3, g5, h3, h5, rfl⟩ := hw
  refine lv_astore_n (i := 1) (lv' := [(1, .ref h0), (0, .ref b)]) hx hb zL_7 rfl hl (by decide) rfl fun ls hl => ?_
  refine ct_nw C (ci := 6) (fs := [.null, .null, .int 0, .null, .null, .null, .null, .null, .null, .int 0, .int 0, .null, .null, .int 0, .null, .null, .int 0, .int 0, .int 0, .int 0]) rfl df_6 wl_985 wi_6 (Nat.le_of_ble_eq_true rfl) (Nat.le_of_ble_eq_true rfl) zL_8 zL_11 hP hD hS fun hm H hP hD hS => ?_
  refine ct_iv (As := []) (k_X6 l D k3) C rfl (ci := 6) rfl (by decide) wX6_code wm_987 wX6_in ⟨by decide, by decide, by decide +kernel⟩ ⟨Nat.le_of_ble_eq_true rfl, Nat.le_of_ble_eq_true rfl⟩ ⟨Nat.le_of_ble_eq_true rfl, Nat.le_of_ble_eq_true rfl⟩ (Nat.le_of_ble_eq_true rfl) hl.1 zL_12 hP hD hS fun w H locs hw hP hD hS => ?_
  obtain ⟨fm, rfl, rfl⟩ := hw
  refine lv_astore_n (i := 2) (lv' := [(2, .ref (fm 0)), (1, .ref h0), (0, .ref b)]) hx hb zL_15 rfl hl (by decide) rfl fun ls hl => ?_
  refine lv_iconst (v := 0) hx hb zL_16 (by decide) ?_
  refine lv_istore_n (i := 3) (lv' := [(3, .int 0), (2, .ref (fm 0)), (1, .ref h0), (0, .ref b)]) hx hb zL_17 rfl hl (by decide) rfl fun ls hl => ?_
  refine W.widen (k := 600000) (n := 7302250) (by decide) (by decide) ?_
  obtain ⟨g, hgd⟩ : ∃ g : am_G, g = (adr h0 b f1 f2 f4 n g3 g5 fm, D, k3, xs, L) := ⟨_, rfl⟩
  have hg1 : g.1 = adr h0 b f1 f2 f4 n g3 g5 fm := by rw [hgd]
  have hg2 : g.2.1 = D := by rw [hgd]
  have hg3 : g.2.2.1 = k3 := by rw [hgd]
  have hg4 : g.2.2.2.1 = xs := by rw [hgd]
  have hg5 : g.2.2.2.2 = L := by rw [hgd]
  have hP : va_P g.2.1 vwCl (tvL g.2.2.1 h0 f1 f2 f4 n g3 g5 ++ moL g.2.2.1 fm) H := by rw [hg2, hg3]; exact hP
  have hD : va_D (fun q : Nat => s.heap.size ≤ q) (tvL g.2.2.1 h0 f1 f2 f4 n g3 g5 ++ moL g.2.2.1 fm) := by rw [hg3]; exact hD
  have hPM := lay_P hg1 h3 h5 hP
  obtain ⟨hgok, hgA, h517⟩ := lay_gok hg1 h3 h5 hD hbA
  have hL5 : g.2.2.2.2 ≤ 3584 := by rw [hg5]; exact hL
  have hL32 : (g.2.2.2.2 : Int) < 2147483648 := by omega
  have hok : am_okM g (m0 g.2.2.2.2 g.2.2.2.1) := m0_ok.mpr hL32
  obtain ⟨M', hM'⟩ := lw_loop 0 512 0 (m0 g.2.2.2.2 g.2.2.2.1) (m0_GR _ _) (m0_np hL32) ⟨by rw [hok.2.2.2.2.1]; omega, by rw [hok.2.2.2.2.1]; omega⟩ (by decide) (by decide) (by decide) (fun j => hok.1 517 j)
  have hCx : am_Cx p room_1 s m #[Value.ref b] c s.heap (fun q : Nat => s.heap.size ≤ q) 600000 7302250 g 4 code 10 :=
    ⟨hx, hb, hml, hown, hts', by rw [hg2]; unfold am_ty; rw [hg3]; exact hK.1, by rw [h517, hg4, hg5]; exact hX, by rw [h517]; exact hbl, hgA, by rw [h517]; exact hbA, fun q hq => va_Nw.of rfl (hts _ (pl_in am_mn_in hq)), ⟨by decide, by decide, by decide, by decide⟩, hgok, hL5⟩
  have hY := am_sound (l := l) (e := e) (below := below) (meth := meth) (Q := lw_Z below #[Value.ref b] s) hCx ⟨(by decide : 0 + 21 + 1 ≤ 2048), (by decide : 64 * (0 + 21 + 1) ≤ 84000)⟩ k_Lw (fun pcR ins H locs as hokM hrv hP hS hdec hrk => ?_) hM'
  · have hyy := hY hok (fun v hv => ?_) (fun v hv => by cases hv) H locs ls hPM hS ⟨hl.1, hl.2.1, rfl, fun k hk => ?_⟩
    · exact hyy
    · simp only [List.mem_cons, List.not_mem_nil, or_false] at hv
      rcases hv with rfl | rfl | rfl | rfl
      · exact ⟨by decide, rfl⟩
      · exact ⟨by decide, rfl⟩
      · exact ⟨by decide, rfl⟩
      · exact am_32_0
    · match k, hk with
      | 0, _ =>
        have := lv_at hl 3 rfl
        show ls[0]? = some (.val (.ref (g.1 517)))
        rw [h517]
        exact this
      | 1, _ =>
        have := lv_at hl 2 rfl
        show ls[1]? = some (.val (.ref (g.1 0)))
        rw [hg1]
        exact this
      | 2, _ =>
        have := lv_at hl 1 rfl
        show ls[2]? = some (.val (.ref (g.1 504)))
        rw [hg1]
        exact this
      | 3, _ => exact lv_at hl 0 rfl
      | k + 4, hk => exact absurd rfl hk
  · rcases hrk with ⟨h1, -, -⟩ | ⟨h1, -, -⟩ | ⟨h1, rfl, -⟩ | ⟨h1, -, -⟩ | ⟨h1, -, -⟩
    · cases h1
    · cases h1
    · refine va_forget hS.2.2 ?_
      exact lw_ret (d0 := s.drawn) (Drawn.sameBut.refl s.drawn lw_cs) hx hb hr hlocks hdec
    · cases h1
    · cases h1
-- ===== YOUR PART ENDS =====
set_option maxHeartbeats 4000000 in
theorem lw_walk (l : Launch) (hflags : l.flags = flags0) (b : Addr) (xs : List Int32) : MetFree l x (headSpec (Jvm.Cond.code x code maxLocals ret :: tables_1) room_1) (lw_P b xs) (fun _ _ _ _ _ => True) lw_Q := by
  refine MetFree.of_bodyS (code := code) (maxLocals := maxLocals) (ret := ret) (by decide) ?_ ?_
  · intro args s m h hn
    obtain ⟨meth, c, h1, h2, h3, h4, h5, h6, -, -⟩ := Cond.code_spec hn (atoms_spec (ws := Jvm.Cond.code x code maxLocals ret :: tables_1) h _ List.mem_cons_self)
    exact ⟨meth, c, h1, h2, h3, h4, h5, h6⟩
  · intro p e s m args below meth c s₁ B hml0 hP _
    obtain ⟨rfl, hx, hbd, hgv⟩ := hP
    obtain ⟨scr, harrAt, hlist, hof, hsmall⟩ := hx
    obtain ⟨hcb, hkn, -, -⟩ := State.arrayAt?_spec harrAt
    have hown : s.vm.findClass R_law = some m.cls := findClass_of_methodNamed B.named
    have hts0 : ∀ c ∈ (Jvm.Cond.code x code maxLocals ret :: tables_1), c.before #[Value.ref b] s = true := atoms_spec (ws := Jvm.Cond.code x code maxLocals ret :: tables_1) B.pre
    have hts : ∀ w ∈ lw_tbl, w.before #[Value.ref b] s = true := k2_hts_sels lw_privs (fun w hw => hts0 w (List.mem_cons_of_mem _ hw)) lw_privs_ok
    have hml : c.maxLocals = 4 := B.maxLocals_eq (hts0 _ List.mem_cons_self)
    have X₀ : Stand p l e room_1 s m #[Value.ref b] below meth c s₁ [] 0 0 := Stand.of_body B
    have hh0 : s₁.heap = s.heap := by rw [B.state]; rfl
    have hsz : scr.slots.size = xs.length := by rw [← Array.length_toList, hlist, List.length_map]
    have hval : ∀ j : Nat, j < xs.length → scr.slots[j]? = some (.int (xs.getD j 0)) := fun j hj => by
      rw [← Array.getElem?_toList, hlist]
      simp [hj]
    have hbl : b < s.heap.size := (Array.getElem?_eq_some_iff.mp hcb).1
    have hX : va_X b xs.length (fun j => xs.getD j 0) s s.heap := ⟨scr, hcb, hof, hkn, hsz, hval⟩
    have K : W p l e room_1 s m #[Value.ref b] below meth c s₁.heap [] 0 0 (lw_Z below #[Value.ref b] s) (entryFrame m ([Value.ref b] : List Value).toArray 4) := by
      rw [hh0]
      exact whole_start l hflags hbd ⟨B.exec, B.bytes, B.returns, hml, hown, hts, hX, hbl, B.notSynchronized, hgv⟩
    obtain ⟨t, a1, o, b1, b2, b3⟩ := K s₁ rfl X₀
    exact ⟨t, o, a1, b1, b2, b3⟩
theorem lw_pre_spec {args : Array Value} {s : State} (h : (Jvm.Cond.and given_1 narrow_1).before args s = true) (hr : rest_1_c.before args s = true) : ∃ (b : Addr) (xs : List Int32), lw_P b xs args s := by
  have hs := flat_of_before _ h
  have hq := flat_of_before _ hr
  have hc : (Cond.count 1).before args s = true := hs _ (by decide +kernel)
  have harr : (Cond.arrayOf (.arg 0) .int).before args s = true := hs _ (by decide +kernel)
  have hle : (Cond.le (.length (.arg 0)) (.int 3584)).before args s = true := hs _ (by decide +kernel)
  have hlen : (Cond.isInt (.length (.arg 0))).before args s = true := hq _ (by decide +kernel)
  have hall : (Cond.all (.arg 0) (.isInt (.elem (.arg 0) (.index 0)))).before args s = true := hq _ (by decide +kernel)
  obtain ⟨b, xs, hb, hx⟩ := State.ints_of_pre rfl harr hlen hall
  have hsm : xs.length < 2 ^ 31 := hx.choose_spec.2.2.2
  have hev : (Term.length (.arg 0)).eval args s none [] s = some (.int xs.length.toInt32) := hx.length_eval hb
  have hv := Cond.le_ints hev (show (Term.int 3584).eval args s none [] s = some (.int 3584) from rfl)
  have hd : xs.length.toInt32 ≤ 3584 := by
    simpa [Cond.before, Cond.holds, hv] using hle
  have hN : xs.length ≤ 3584 := (Int32.ofNat_le_ofNat hsm (by decide)).mp (show Int32.ofNat xs.length ≤ Int32.ofNat 3584 from hd)
  exact ⟨b, xs, Cond.one_arg hc (show args[0]? = some (.ref b) from hb), hx, hN, h⟩
theorem lw_comes (l : Launch) (hflags : l.flags = flags0) : Comes l x (Jvm.Cond.code x code maxLocals ret :: tables_1) room_1 (fun tb e args s => Calls_1 tb e args s ∧ rest_1 tb e args s ∧ Pre_1 tb e args s)
    (fun _ _ args s o t => lw_Q args s o t) := by
  intro p e ha hc hk s m args below hf hfit hheap happ hpre
  obtain ⟨b, xs, hP⟩ := lw_pre_spec hpre.2.2 hpre.2.1
  obtain ⟨k, o, h1, h2, h3, hQ⟩ := lw_walk l hflags b xs p e ha hc hk s m args below hf ((Spec.applies_iff_loose hf).mp happ).1 hP trivial
  exact ⟨k, o, h1, h2, h3, hQ⟩
theorem lw_frame {s t : State} {o : Outcome} {args : Array Value} (h : State.butDraws s t lw_cs (fun t1 => Framed s o t1 [] 600000 7302250)) :
    State.butDraws s t [Jvm.Choice.named "NaN.bits"] (fun t1 => Framed s o t1 (fieldLocs frame_1_writes args s ++ arrayLocs frame_1_arrays args s ++ staticLocs frame_1_statics s) 600000 7302250) := h
theorem lw_limb (L : Cond) (hL : ∀ (args : Array Value) (s t : State), L.after args s (.returned (some (.int 1))) t = true) :
    ArmFor flags0 classFile x code maxLocals ret World_1 tables_1 room_1 Calls_1 rest_1 Pre_1
      (fun tb e a s o t => postC L tb e a s o t ∧ State.butDraws s t [Jvm.Choice.named "NaN.bits"] (fun t1 => Framed s o t1 (fieldLocs frame_1_writes a s ++ arrayLocs frame_1_arrays a s ++ staticLocs frame_1_statics s) 600000 7302250)) := by
  intro l hflags _ _ p e ha hc hk s m args below hf hfit hheap happ hpre
  obtain ⟨k, o, h1, h2, h3, rfl, hF⟩ := lw_comes l hflags p e ha hc hk s m args below hf hfit hheap happ hpre
  exact ⟨k, _, h1, h2, h3, hL args s _, lw_frame hF⟩
theorem i_vc : Claimed_1_1 ∧ Claimed_1_2 := ⟨lw_limb limb_1_1 (fun args s t => by simp [limb_1_1, Cond.after, Cond.holds, Cond.value]), lw_limb limb_1_2 (fun args s t => Cond.after_iff.mpr (by
  first | (rw [show limb_1_2 = Cond.eq .result (.int 1) from rfl, Cond.eq_ints (x := 1) (y := 1) rfl rfl]; simp; done) | (simp [limb_1_2, Cond.value, Term.eval]; done)))⟩
