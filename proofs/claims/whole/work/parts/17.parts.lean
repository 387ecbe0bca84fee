/-! every step of the small machine is the machine's -/
theorem onI_some {v : am_V} {f : Int → Option am_O} {o : am_O} (h : am_onI v f = some o) : ∃ z, v = am_i z ∧ f z = some o := by
  rcases v with z | _ | _ | _ | _ | _ <;> first | exact ⟨z, rfl, h⟩ | cases h
theorem onR_some {v : am_V} {f : Nat → Nat → Option am_O} {o : am_O} (h : am_onR v f = some o) : ∃ t i, v = am_r t i ∧ f t i = some o := by
  rcases v with _ | q | _ | _ | _ | _ <;> first | exact ⟨q.1, q.2, rfl, h⟩ | cases h
theorem onL_some {v : am_V} {f : Int64 → Option am_O} {o : am_O} (h : am_onL v f = some o) : ∃ z, v = am_l z ∧ f z = some o := by
  rcases v with _ | _ | z | _ | _ | _ <;> first | exact ⟨z, rfl, h⟩ | cases h
theorem onF_some {v : am_V} {f : UInt32 → Option am_O} {o : am_O} (h : am_onF v f = some o) : ∃ z, v = am_f z ∧ f z = some o := by
  rcases v with _ | _ | _ | z | _ | _ <;> first | exact ⟨z, rfl, h⟩ | cases h
theorem onD_some {v : am_V} {f : UInt64 → Option am_O} {o : am_O} (h : am_onD v f = some o) : ∃ z, v = am_d z ∧ f z = some o := by
  rcases v with _ | _ | _ | _ | z | _ <;> first | exact ⟨z, rfl, h⟩ | cases h
theorem s1_some {st : List am_V} {f : am_V → List am_V → Option am_O} {o : am_O} (h : am_s1 st f = some o) : ∃ v st', st = v :: st' ∧ f v st' = some o := by
  cases st with
  | nil => cases h
  | cons v st => exact ⟨v, st, rfl, h⟩
theorem i1_some {st : List am_V} {f : Int → List am_V → Option am_O} {o : am_O} (h : am_i1 st f = some o) : ∃ z st', st = am_i z :: st' ∧ f z st' = some o := by
  obtain ⟨v, st', rfl, h1⟩ := s1_some h
  obtain ⟨z, rfl, h2⟩ := onI_some h1
  exact ⟨z, st', rfl, h2⟩
theorem i2_some {st : List am_V} {f : Int → Int → List am_V → Option am_O} {o : am_O} (h : am_i2 st f = some o) : ∃ x y st', st = am_i y :: am_i x :: st' ∧ f x y st' = some o := by
  obtain ⟨v, st', rfl, h1⟩ := s1_some h
  obtain ⟨w, st', rfl, h2⟩ := s1_some h1
  obtain ⟨y, rfl, h3⟩ := onI_some h2
  obtain ⟨x, rfl, h4⟩ := onI_some h3
  exact ⟨x, y, st', rfl, h4⟩
theorem l2_some {st : List am_V} {f : Int64 → Int64 → List am_V → Option am_O} {o : am_O} (h : am_l2 st f = some o) : ∃ x y st', st = am_l y :: am_l x :: st' ∧ f x y st' = some o := by
  obtain ⟨v, st', rfl, h1⟩ := s1_some h
  obtain ⟨w, st', rfl, h2⟩ := s1_some h1
  obtain ⟨y, rfl, h3⟩ := onL_some h2
  obtain ⟨x, rfl, h4⟩ := onL_some h3
  exact ⟨x, y, st', rfl, h4⟩
theorem f2_some {st : List am_V} {f : UInt32 → UInt32 → List am_V → Option am_O} {o : am_O} (h : am_f2 st f = some o) : ∃ x y st', st = am_f y :: am_f x :: st' ∧ f x y st' = some o := by
  obtain ⟨v, st', rfl, h1⟩ := s1_some h
  obtain ⟨w, st', rfl, h2⟩ := s1_some h1
  obtain ⟨y, rfl, h3⟩ := onF_some h2
  obtain ⟨x, rfl, h4⟩ := onF_some h3
  exact ⟨x, y, st', rfl, h4⟩
theorem d2_some {st : List am_V} {f : UInt64 → UInt64 → List am_V → Option am_O} {o : am_O} (h : am_d2 st f = some o) : ∃ x y st', st = am_d y :: am_d x :: st' ∧ f x y st' = some o := by
  obtain ⟨v, st', rfl, h1⟩ := s1_some h
  obtain ⟨w, st', rfl, h2⟩ := s1_some h1
  obtain ⟨y, rfl, h3⟩ := onD_some h2
  obtain ⟨x, rfl, h4⟩ := onD_some h3
  exact ⟨x, y, st', rfl, h4⟩
theorem if_some {c : Prop} [Decidable c] {x : Option am_O} {o : am_O} (h : am_if c x = some o) : c ∧ x = some o := by
  unfold am_if at h
  by_cases hc : c
  · rw [if_pos hc] at h; exact ⟨hc, h⟩
  · rw [if_neg hc] at h; cases h
theorem ak_some {kd t : Nat} {f : Int → Option am_O} {o : am_O} (h : am_ak kd t f = some o) : ∃ n, am_ar t = some (kd, n) ∧ f n = some o := by
  unfold am_ak at h
  cases hq : am_ar t with
  | none => rw [hq] at h; cases h
  | some q =>
    rw [hq] at h
    dsimp only at h
    by_cases hk : q.1 = kd
    · rw [if_pos hk] at h; exact ⟨q.2, by rw [← hk], h⟩
    · rw [if_neg hk] at h; cases h
theorem tk_some {f : List am_V → List am_V → Option am_O} {o : am_O} : ∀ (n : Nat) (acc st : List am_V), am_tk n acc st f = some o → ∃ as st', st = as.reverse ++ st' ∧ as.length = n ∧ f (as ++ acc) st' = some o
  | 0, acc, st, h => ⟨[], st, rfl, rfl, h⟩
  | n + 1, acc, st, h => by
    obtain ⟨v, st1, rfl, h1⟩ := s1_some h
    obtain ⟨as, st', rfl, hl, h2⟩ := tk_some n _ _ h1
    exact ⟨as ++ [v], st', by simp, by simp [hl], by simpa using h2⟩
theorem rc_some {c : Nat} {as : List am_V} {x : Option am_O} {o : am_O} (h : am_rc c as x = some o) : (c ≠ 0 → ∃ (t i : Nat) (as' : List am_V), as = am_r t i :: as' ∧ am_cl t + 1 = c) ∧ x = some o := by
  cases c with
  | zero => exact ⟨fun q => absurd rfl q, h⟩
  | succ c =>
    obtain ⟨v, as', rfl, h1⟩ := s1_some h
    obtain ⟨t, i, rfl, h2⟩ := onR_some h1
    obtain ⟨hc, h3⟩ := if_some h2
    exact ⟨fun _ => ⟨t, i, as', rfl, by rw [hc]⟩, h3⟩
theorem an_some {ret : Nat} {q : Option am_O} {st : List am_V} {k : List am_V → am_M → Option am_O} {o : am_O} (h : am_an ret q st k = some o) : ∃ r M', q = some (r, M') ∧ k (r.toList ++ st) M' = some o := by
  cases q with
  | none => rcases ret with _ | _ | _ | _ | _ <;> cases h
  | some q =>
    obtain ⟨v, M'⟩ := q
    refine ⟨v, M', rfl, ?_⟩
    rcases ret with _ | _ | _ | _ | r
    · rcases v with _ | v
      · exact h
      · cases h
    · rcases v with _ | (v | _)
      · cases h
      · exact h
      · cases h
    · rcases v with _ | (v | (q | _))
      · cases h
      · cases h
      · obtain ⟨t, i⟩ := q
        have h : (if t = 4 then k (am_r 4 i :: st) M' else none) = some o := h
        by_cases hq : t = 4
        · subst hq; rw [if_pos rfl] at h; exact h
        · rw [if_neg hq] at h; cases h
      · cases h
    · rcases v with _ | (v | (v | (v | _)))
      · cases h
      · cases h
      · cases h
      · exact h
      · cases h
    · rcases v with _ | (v | _)
      · cases h
      · exact h
      · cases h
theorem okL1 {v : am_V} (h : am_okV v) : am_okL [v] := fun w hw => by
  rw [List.mem_singleton.mp hw]; exact h
/-- how a method ends: its kind of answer, what it answers, by which instruction -/
def am_rk (ret : Nat) (r : Option am_V) (ins : ClassFile.Instr) : Prop := (ret = 0 ∧ r = none ∧ ins = .return_) ∨ (ret = 1 ∧ ins = .ireturn ∧ ∃ z, r = some (am_i z)) ∨ (ret = 4 ∧ ins = .ireturn ∧ ∃ z, r = some (am_i z) ∧ (z = 0 ∨ z = 1)) ∨ (ret = 2 ∧ ins = .areturn ∧ ∃ i, r = some (am_r 4 i)) ∨ (ret = 3 ∧ ins = .lreturn ∧ ∃ x, r = some (am_l x))
section SV
variable {p : Program} {l : Launch} {e : Env} {R : Room} {s : State} {m : MethodId} {args : Array Value} {below : List Frame} {meth : Method} {c : Code} {H0 : Heap} {A : Nat → Prop} {cells slots : Nat} {Q : State → Prop} {g : am_G} {nL : Nat} {cc : ByteArray} {oc pc : Nat} {ls st : List am_V} {M : am_M}
theorem lv_ldcwf {H : Heap} {locs : List Loc} {as : Array Slot} {rest : List Value} (hexec : p.tables.exec = Jvm.exec) (hb : c.code = cc) {own : String} {index : Nat} {v : UInt32} (hown : s.vm.findClass own = some m.cls) (hconst : (Jvm.Cond.constantFloat own index v).before args s = true) (hdg : decode cc pc = .ok (.ldc_w index, 3)) (k : W p l e R s m args below meth c H locs cells slots Q (F0 m (pc + 3) as (.float v :: rest))) : W p l e R s m args below meth c H locs cells slots Q (F0 m pc as rest) := by
  intro T hT X
  obtain ⟨t, a, b⟩ := k T hT X
  refine ⟨t, ?_, b⟩
  obtain ⟨k1, cf, hk, hcf, hcp⟩ := Cond.constantFloat_spec hown hconst
  obtain ⟨k', hk', he⟩ := X.warmed.alike.2.2 _ _ hk
  have hdg' : decode c.code (F0 m pc as rest).pc = .ok (.ldc_w index, 3) := by rw [hb]; exact hdg
  jvm_step X.here [hexec, hdg', ldc_w.wp_float (s := T) (f := F0 m pc as rest) X.here.top hk' (by rw [he]; exact hcf) hcp]
  exact a
theorem sx_ms (lv : Nat) (k : am_Y p l e R s m args below meth c H0 A cells slots Q g nL pc (am_ms lv ls) st M) : am_Y p l e R s m args below meth c H0 A cells slots Q g nL pc ls st M := fun hM hls hst H locs as hP hS hl => k hM (ms_ok hls) hst H locs as hP hS (hl_ms lv hl)
theorem sx_fbits (C : am_Cx p R s m args c H0 A cells slots g nL cc oc) {idx aux : Nat} {x : UInt32} (hd : decode cc pc = .ok (.invokestatic idx, 3)) (hm : (oc, idx, aux) ∈ am_mx) (ha : aux / 10000 = 902) (hlen : st.length ≤ 9) (k : am_Y p l e R s m args below meth c H0 A cells slots Q g nL (pc + 3) ls (am_i x.toInt32.toInt :: st) M) : am_Y p l e R s m args below meth c H0 A cells slots Q g nL pc ls (am_f x :: st) M := by
  intro hM hls hst H locs las hP hS hl
  obtain ⟨hx, hb, hmx, hown, hts, hK, hX, hbl, hA, hbA, hnw, hroom, hgok, hL⟩ := C
  have hst' : am_okL st := fun w hw => hst w (by simp [hw])
  have hlk := hts _ (xl_gd hm)
  rw [ha] at hlk
  have hcat := cat_le g st
  have hkk := k hM hls (okL_cons (v := am_i _) (am_to_32 _) hst') H locs las hP hS hl
  refine vn_f2i hx hb (by rw [hmx]; exact hl.1.symm) hown hlk (hts _ (nn_gd (by simp [am_xn]) rfl)) (hts _ (nn_gd (by simp [am_xn]) rfl)) (hts _ (ini_gd (c := 8) (by decide))) hroom.2.2.1 (by omega) hd ?_
  have e : am_cv g (am_i x.toInt32.toInt) = .int x.toInt32 := by show Value.int _ = _; rw [am_of_to]
  rw [List.map_cons, e] at hkk
  exact hkk
theorem sx_dbits (C : am_Cx p R s m args c H0 A cells slots g nL cc oc) {idx aux : Nat} {x : UInt64} (hd : decode cc pc = .ok (.invokestatic idx, 3)) (hm : (oc, idx, aux) ∈ am_mx) (ha : aux / 10000 = 903) (hlen : st.length ≤ 9) (k : am_Y p l e R s m args below meth c H0 A cells slots Q g nL (pc + 3) ls (am_l x.toInt64 :: st) M) : am_Y p l e R s m args below meth c H0 A cells slots Q g nL pc ls (am_d x :: st) M := by
  intro hM hls hst H locs las hP hS hl
  obtain ⟨hx, hb, hmx, hown, hts, hK, hX, hbl, hA, hbA, hnw, hroom, hgok, hL⟩ := C
  have hst' : am_okL st := fun w hw => hst w (by simp [hw])
  have hlk := hts _ (xl_gd hm)
  rw [ha] at hlk
  have hcat := cat_le g st
  have hkk := k hM hls (okL_cons (v := am_l _) trivial hst') H locs las hP hS hl
  exact vn_d2l hx hb (by rw [hmx]; exact hl.1.symm) hown hlk (hts _ (nn_gd (by simp [am_xn]) rfl)) (hts _ (nn_gd (by simp [am_xn]) rfl)) (hts _ (ini_gd (c := 9) (by decide))) hroom.2.2.1 (by omega) hd hkk
theorem kl_gd {q : Nat × Nat × Nat} (h : q ∈ am_kl) : am_kw q ∈ am_gd := gd_mem (pl_in am_kl_in h) (List.all_eq_true.mp am_kl_ok q h)
theorem sx_ldc (C : am_Cx p R s m args c H0 A cells slots g nL cc oc) {idx aux len : Nat} {ins : ClassFile.Instr} (hd : decode cc pc = .ok (ins, len)) (hins : (ins = .ldc idx ∧ len = 2 ∧ aux ≤ 3) ∨ (ins = .ldc_w idx ∧ len = 3 ∧ aux ≤ 3) ∨ (ins = .ldc2_w idx ∧ len = 3 ∧ 4 ≤ aux ∧ aux ≤ 8)) (hm : (oc, idx, aux) ∈ am_kl) (k : am_Y p l e R s m args below meth c H0 A cells slots Q g nL (pc + len) ls (am_ldc aux :: st) M) : am_Y p l e R s m args below meth c H0 A cells slots Q g nL pc ls st M := by
  have hw := C.2.2.2.2.1 _ (kl_gd hm)
  have hown := C.2.2.2.1
  have hx := C.1
  have hb := C.2.1
  refine sx_gen (vs := []) (v := [am_ldc aux]) (pc' := pc + len) (fun H locs as rest kk => ?_) (fun _ => okL1 ?_) k
  · rcases hins with ⟨rfl, rfl, h3⟩ | ⟨rfl, rfl, h3⟩ | ⟨rfl, rfl, h4, h8⟩
    · rcases (show aux = 0 ∨ aux = 1 ∨ aux = 2 ∨ aux = 3 by omega) with rfl | rfl | rfl | rfl
      · exact lv_ldc hx hb hown hw hd kk
      · exact lv_ldc hx hb hown hw hd kk
      · exact lv_ldc hx hb hown hw hd kk
      · exact lv_ldcf hx hb hown hw hd kk
    · rcases (show aux = 0 ∨ aux = 1 ∨ aux = 2 ∨ aux = 3 by omega) with rfl | rfl | rfl | rfl
      · exact lv_ldcw hx hb hown hw hd kk
      · exact lv_ldcw hx hb hown hw hd kk
      · exact lv_ldcw hx hb hown hw hd kk
      · exact lv_ldcwf hx hb hown hw hd kk
    · rcases (show aux = 4 ∨ aux = 5 ∨ aux = 6 ∨ aux = 7 ∨ aux = 8 by omega) with rfl | rfl | rfl | rfl | rfl
      · exact lv_ldc2d hx hb hown hw hd kk
      · exact lv_ldc2d hx hb hown hw hd kk
      · exact lv_ldc2d hx hb hown hw hd kk
      · exact lv_ldc2 hx hb hown hw hd kk
      · exact lv_ldc2 hx hb hown hw hd kk
  · rcases (show aux = 0 ∨ aux = 1 ∨ aux = 2 ∨ 3 ≤ aux by omega) with rfl | rfl | rfl | h
    · show am_32 _; unfold am_32; omega
    · show am_32 _; unfold am_32; omega
    · show am_32 _; unfold am_32; omega
    · rcases hins with ⟨-, -, h3⟩ | ⟨-, -, h3⟩ | ⟨-, -, h4, h8⟩
      · have : aux = 3 := by omega
        subst this; trivial
      · have : aux = 3 := by omega
        subst this; trivial
      · rcases (show aux = 4 ∨ aux = 5 ∨ aux = 6 ∨ aux = 7 ∨ aux = 8 by omega) with rfl | rfl | rfl | rfl | rfl <;> trivial
end SV
