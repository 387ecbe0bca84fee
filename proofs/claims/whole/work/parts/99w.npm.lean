/-! the script's cell stays, references stay in their cells, an answer is of its kind: whatever the small machine runs -/
def np_v (v : am_V) : Prop := match v with
  | .inr (.inl q) => q.2 ≤ 517 ∧ am_tg q.2 = q.1
  | _ => True
abbrev np_l (l : List am_V) : Prop := ∀ v ∈ l, np_v v
def np_m (sc : Int → Int) (M : am_M) : Prop := M 517 = sc ∧ ((M 0 1).toNat ≤ 517 ∧ am_tg (M 0 1).toNat = 4) ∧ ∀ i, am_tg i = 16 → ∀ j : Int, 0 ≤ j → j < 16 → (M i j).toNat ≤ 517 ∧ am_tg (M i j).toNat = 4
def np_k (ret : Nat) (r : Option am_V) : Prop := (ret = 1 ∨ ret = 4 → ∃ z, r = some (am_i z)) ∧ (ret = 3 → ∃ x, r = some (am_l x))
def np_o (sc : Int → Int) (ret : Nat) (o : am_O) : Prop := np_m sc o.2 ∧ (∀ v, o.1 = some v → np_v v) ∧ np_k ret o.1
def np_Y (sc : Int → Int) (ret : Nat) (ls st : List am_V) (M : am_M) (o : am_O) : Prop := np_m sc M → np_l ls → np_l st → np_o sc ret o
theorem np_cons {v : am_V} {st : List am_V} (hv : np_v v) (hs : np_l st) : np_l (v :: st) := fun w hw => by
  rcases List.mem_cons.mp hw with rfl | h
  · exact hv
  · exact hs w h
theorem np_app {v st : List am_V} (hv : np_l v) (hs : np_l st) : np_l (v ++ st) := fun w hw => (List.mem_append.mp hw).elim (hv w) (hs w)
theorem np_l1 {v : am_V} (hv : np_v v) : np_l [v] := np_cons hv (fun w hw => by cases hw)
theorem np_lg : ∀ {ls : List am_V} {n : Nat}, np_l ls → np_v (am_lg ls n)
  | [], _, _ => trivial
  | v :: _, 0, h => h v (by simp)
  | _ :: l, n + 1, h => np_lg (ls := l) (n := n) fun w hw => h w (List.mem_cons_of_mem _ hw)
theorem np_mk : ∀ {ls : List am_V} {n : Nat}, np_l ls → np_l (am_mk n ls)
  | [], _, _ => fun w hw => by cases hw
  | v :: l, n, h => by
    unfold am_mk
    refine np_cons ?_ (np_mk fun w hw => h w (List.mem_cons_of_mem _ hw))
    by_cases hn : n % 2 = 1
    · rw [if_pos hn]; exact h v (by simp)
    · rw [if_neg hn]; trivial
theorem np_ms {ls : List am_V} {n : Nat} (h : np_l ls) : np_l (am_ms n ls) := by
  unfold am_ms
  by_cases hn : n = 0
  · rw [if_pos hn]; exact h
  · rw [if_neg hn]; exact np_mk h
theorem np_ls : ∀ {ls : List am_V} {n : Nat} {v : am_V}, np_l ls → np_v v → np_l (am_ls ls n v)
  | [], _, _, h, _ => h
  | _ :: _, 0, _, h, hv => np_cons hv fun w hw => h w (List.mem_cons_of_mem _ hw)
  | w :: l, n + 1, v, h, hv => by
    unfold am_ls
    refine np_cons ?_ (np_ls (fun w hw => h w (List.mem_cons_of_mem _ hw)) hv)
    by_cases hn : n = 0 ∧ am_c2 w = true
    · rw [if_pos hn]; trivial
    · rw [if_neg hn]; exact h w (by simp)
theorem np_in : ∀ {as : List am_V}, np_l as → np_l (am_in as)
  | [], _ => fun w hw => by cases hw
  | v :: as, h => by
    unfold am_in
    have h1 := np_in (as := as) fun w hw => h w (List.mem_cons_of_mem _ hw)
    by_cases hc : am_c2 v = true
    · rw [if_pos hc]; exact np_cons (h v (by simp)) (np_cons trivial h1)
    · rw [if_neg hc]; exact np_cons (h v (by simp)) h1
theorem np_en {n : Nat} {as : List am_V} (h : np_l as) : np_l (am_en n as) := np_app (np_in h) fun w hw => by
  rw [(List.mem_replicate.mp hw).2]; trivial
theorem np_off {sc : Int → Int} {M : am_M} {i : Nat} {f : Int → Int} (h : np_m sc M) (h1 : i ≠ 517) (h2 : i ≠ 0) (h3 : am_tg i ≠ 16) : np_m sc (am_st M i f) := by
  have e : ∀ k, k ≠ i → am_st M i f k = M k := fun k hk => by simp [am_st, hk]
  refine ⟨by rw [e 517 h1.symm]; exact h.1, by rw [e 0 h2.symm]; exact h.2.1, fun k hk => ?_⟩
  rw [e k (fun q => h3 (q ▸ hk))]
  exact h.2.2 k hk
theorem np_ldc (aux : Nat) : np_v (am_ldc aux) := by
  unfold am_ldc
  split <;> trivial
theorem np_fk5 (k : Nat) : am_fk 5 k ≠ 0 ∧ am_fk 5 k ≠ 3 := by
  show (if k = 1 then 1 else 2) ≠ 0 ∧ (if k = 1 then 1 else 2) ≠ 3
  split <;> decide
section NP
variable {sc : Int → Int} {ret : Nat} {ls st : List am_V} {M : am_M} {o : am_O}
theorem px_gen {vs v : List am_V} (hok : np_l vs → np_l v) (k : np_Y sc ret ls (v ++ st) M o) : np_Y sc ret ls (vs ++ st) M o := fun hM hls hst => k hM hls (np_app (hok fun w hw => hst w (List.mem_append_left _ hw)) fun w hw => hst w (List.mem_append_right _ hw))
theorem px_load {n : Nat} {v : am_V} (hz : am_lg ls n = v) (k : np_Y sc ret ls (v :: st) M o) : np_Y sc ret ls st M o := fun hM hls hst => k hM hls (np_cons (hz ▸ np_lg hls) hst)
theorem px_store {n : Nat} {v : am_V} (k : np_Y sc ret (am_ls ls n v) st M o) : np_Y sc ret ls (v :: st) M o := fun hM hls hst => k hM (np_ls hls (hst v (by simp))) fun w hw => hst w (List.mem_cons_of_mem _ hw)
theorem px_store2 {n : Nat} {v : am_V} (k : np_Y sc ret (am_lw ls n v) st M o) : np_Y sc ret ls (v :: st) M o := fun hM hls hst => k hM (np_ls (np_ls hls trivial) (hst v (by simp))) fun w hw => hst w (List.mem_cons_of_mem _ hw)
theorem px_br {c : ClassFile.Cond} {x y : Int} {a b : Option am_O} {P : Prop} (h : am_br c x y a b = some o) (ha : a = some o → P) (hb : b = some o → P) : P := by
  unfold am_br at h
  cases c <;> dsimp only at h <;> split at h <;> first | exact ha h | exact hb h
theorem px_sw {k : Nat → Option am_O} {pc : Nat} {df x : Int} {P : Prop} (hk : ∀ pc', k pc' = some o → P) : ∀ (l : List Int) (lo : Int), am_sw k pc df x lo l = some o → P
  | [], _, h => hk _ h
  | q :: l, lo, h => by
    unfold am_sw at h
    split at h
    · exact hk _ h
    · exact px_sw hk l (lo + 1) h
theorem px_lk {k : Nat → Option am_O} {pc : Nat} {df x : Int} {P : Prop} (hk : ∀ pc', k pc' = some o → P) : ∀ (l : List (Int × Int)), am_lk k pc df x l = some o → P
  | [], h => hk _ h
  | q :: l, h => by
    unfold am_lk at h
    split at h
    · exact hk _ h
    · exact px_lk hk l h
theorem px_inv {oc idx aux : Nat} {k : List am_V → am_M → Option am_O} {cl : am_C} (hml : (oc, idx, aux) ∈ am_ml ∨ (oc, idx, aux) ∈ am_mn) (h : am_inv k cl aux st M = some o) (hk : ∀ st' M', k st' M' = some o → np_Y sc ret ls st' M' o) (hcl : ∀ j' as M1 r M2, j' < am_nm → cl j' as M1 = some (r, M2) → np_m sc M1 → np_l as → np_m sc M2 ∧ ∀ v, r = some v → np_v v) : np_Y sc ret ls st M o := by
  obtain ⟨as, st', hs, hn, h1⟩ := tk_some _ _ _ h
  obtain ⟨hlen, h2⟩ := if_some h1
  rw [List.append_nil] at h2
  obtain ⟨hrc, h3⟩ := rc_some h2
  obtain ⟨r, M', hq, h4⟩ := an_some h3
  have hlq : am_lq (oc, idx, aux) = true := by
    rcases hml with h | h
    · exact List.all_eq_true.mp am_ml_ok _ h
    · exact List.all_eq_true.mp am_mn_ok _ h
  have hj := (lq_ok hlq).1
  subst hs
  intro hM hls hst
  obtain ⟨hM', hr⟩ := hcl _ _ _ _ _ hj hq hM fun w hw => hst w (by simp [hw])
  refine hk _ _ h4 hM' hls (np_app (fun w hw => ?_) fun w hw => hst w (by simp [hw]))
  cases r with
  | none => cases hw
  | some v => simp at hw; rw [hw]; exact hr v rfl
theorem px_arr {t i kd : Nat} {n : Int} (ha : am_ar t = some (kd, n)) (hkd : kd < 2) (hi : am_tg i = t) : i ≠ 517 ∧ i ≠ 0 ∧ am_tg i ≠ 16 := by
  refine ⟨?_, ?_, ?_⟩
  · rintro rfl
    have : t = 21 := hi.symm
    subst this
    cases ha
  · rintro rfl
    have : t = 5 := hi.symm
    subst this
    cases ha
  · intro q
    have : t = 16 := hi.symm.trans q
    subst this
    cases ha
    omega
set_option maxHeartbeats 4000000 in
theorem np_step {oc : Nat} {e0 : am_E} {k : am_K} {cl : am_C} (hlc : am_lc oc e0 = true) (h : am_step k cl ret e0 ls st M = some o) (hk : ∀ pc' ls' st' M', k pc' ls' st' M' = some o → np_Y sc ret ls' st' M' o) (hcl : ∀ j' as M1 r M2, j' < am_nm → cl j' as M1 = some (r, M2) → np_m sc M1 → np_l as → np_m sc M2 ∧ ∀ v, r = some v → np_v v) : np_Y sc ret ls st M o := by
  obtain ⟨pc, ins, len, aux, lv⟩ := e0
  suffices hh : np_Y sc ret (am_ms lv ls) st M o from fun hM hls hst => hh hM (np_ms hls) hst
  cases ins with
  | iload n =>
    obtain ⟨z, hz, h1⟩ := onI_some h
    exact px_load (v := am_i z) hz (hk _ _ _ _ h1)
  | iload_n n =>
    obtain ⟨z, hz, h1⟩ := onI_some h
    exact px_load (v := am_i z) hz (hk _ _ _ _ h1)
  | lload n =>
    obtain ⟨z, hz, h1⟩ := onL_some h
    exact px_load (v := am_l z) hz (hk _ _ _ _ h1)
  | lload_n n =>
    obtain ⟨z, hz, h1⟩ := onL_some h
    exact px_load (v := am_l z) hz (hk _ _ _ _ h1)
  | fload_n n =>
    obtain ⟨z, hz, h1⟩ := onF_some h
    exact px_load (v := am_f z) hz (hk _ _ _ _ h1)
  | dload_n n =>
    obtain ⟨z, hz, h1⟩ := onD_some h
    exact px_load (v := am_d z) hz (hk _ _ _ _ h1)
  | aload n =>
    obtain ⟨t, i, hz, h1⟩ := onR_some (show am_onR (am_lg (am_ms lv ls) n) (fun t i => k (pc + len) (am_ms lv ls) (am_r t i :: st) M) = some o from h)
    exact px_load (v := am_r t i) hz (hk _ _ _ _ h1)
  | aload_n n =>
    obtain ⟨t, i, hz, h1⟩ := onR_some (show am_onR (am_lg (am_ms lv ls) n) (fun t i => k (pc + len) (am_ms lv ls) (am_r t i :: st) M) = some o from h)
    exact px_load (v := am_r t i) hz (hk _ _ _ _ h1)
  | istore n =>
    obtain ⟨z, st', rfl, h1⟩ := i1_some h
    exact px_store (v := am_i z) (hk _ _ _ _ h1)
  | istore_n n =>
    obtain ⟨z, st', rfl, h1⟩ := i1_some h
    exact px_store (v := am_i z) (hk _ _ _ _ h1)
  | astore n =>
    obtain ⟨w, st', rfl, h0⟩ := s1_some h
    obtain ⟨t, i, rfl, h1⟩ := onR_some h0
    exact px_store (v := am_r t i) (hk _ _ _ _ h1)
  | astore_n n =>
    obtain ⟨w, st', rfl, h0⟩ := s1_some h
    obtain ⟨t, i, rfl, h1⟩ := onR_some h0
    exact px_store (v := am_r t i) (hk _ _ _ _ h1)
  | lstore n =>
    obtain ⟨w, st', rfl, h0⟩ := s1_some h
    obtain ⟨z, rfl, h1⟩ := onL_some h0
    exact px_store2 (v := am_l z) (hk _ _ _ _ h1)
  | lstore_n n =>
    obtain ⟨w, st', rfl, h0⟩ := s1_some h
    obtain ⟨z, rfl, h1⟩ := onL_some h0
    exact px_store2 (v := am_l z) (hk _ _ _ _ h1)
  | fstore_n n =>
    obtain ⟨w, st', rfl, h0⟩ := s1_some h
    obtain ⟨z, rfl, h1⟩ := onF_some h0
    exact px_store (v := am_f z) (hk _ _ _ _ h1)
  | dstore_n n =>
    obtain ⟨w, st', rfl, h0⟩ := s1_some h
    obtain ⟨z, rfl, h1⟩ := onD_some h0
    exact px_store2 (v := am_d z) (hk _ _ _ _ h1)
  | iinc n w =>
    obtain ⟨z, hz, h1⟩ := onI_some h
    exact fun hM hls hst => hk _ _ _ _ h1 hM (np_ls hls trivial) hst
  | iconst n =>
    exact fun hM hls hst => hk _ _ _ _ h hM hls (np_cons trivial hst)
  | bipush n =>
    exact fun hM hls hst => hk _ _ _ _ h hM hls (np_cons trivial hst)
  | sipush n =>
    exact fun hM hls hst => hk _ _ _ _ h hM hls (np_cons trivial hst)
  | lconst n =>
    exact fun hM hls hst => hk _ _ _ _ h hM hls (np_cons trivial hst)
  | fconst n =>
    exact fun hM hls hst => hk _ _ _ _ h hM hls (np_cons trivial hst)
  | dconst n =>
    exact fun hM hls hst => hk _ _ _ _ h hM hls (np_cons trivial hst)
  | ldc n =>
    exact fun hM hls hst => hk _ _ _ _ h hM hls (np_cons (np_ldc aux) hst)
  | ldc_w n =>
    exact fun hM hls hst => hk _ _ _ _ h hM hls (np_cons (np_ldc aux) hst)
  | ldc2_w n =>
    exact fun hM hls hst => hk _ _ _ _ h hM hls (np_cons (np_ldc aux) hst)
  | iadd =>
    obtain ⟨x, y, st', rfl, h1⟩ := i2_some h
    exact fun hM hls hst => hk _ _ _ _ h1 hM hls (np_cons trivial fun w hw => hst w (by simp [hw]))
  | isub =>
    obtain ⟨x, y, st', rfl, h1⟩ := i2_some h
    exact fun hM hls hst => hk _ _ _ _ h1 hM hls (np_cons trivial fun w hw => hst w (by simp [hw]))
  | imul =>
    obtain ⟨x, y, st', rfl, h1⟩ := i2_some h
    exact fun hM hls hst => hk _ _ _ _ h1 hM hls (np_cons trivial fun w hw => hst w (by simp [hw]))
  | iand =>
    obtain ⟨x, y, st', rfl, h1⟩ := i2_some h
    exact fun hM hls hst => hk _ _ _ _ h1 hM hls (np_cons trivial fun w hw => hst w (by simp [hw]))
  | ior =>
    obtain ⟨x, y, st', rfl, h1⟩ := i2_some h
    exact fun hM hls hst => hk _ _ _ _ h1 hM hls (np_cons trivial fun w hw => hst w (by simp [hw]))
  | ishl =>
    obtain ⟨x, y, st', rfl, h1⟩ := i2_some h
    exact fun hM hls hst => hk _ _ _ _ h1 hM hls (np_cons trivial fun w hw => hst w (by simp [hw]))
  | ishr =>
    obtain ⟨x, y, st', rfl, h1⟩ := i2_some h
    exact fun hM hls hst => hk _ _ _ _ h1 hM hls (np_cons trivial fun w hw => hst w (by simp [hw]))
  | iushr =>
    obtain ⟨x, y, st', rfl, h1⟩ := i2_some h
    exact fun hM hls hst => hk _ _ _ _ h1 hM hls (np_cons trivial fun w hw => hst w (by simp [hw]))
  | idiv =>
    obtain ⟨x, y, st', rfl, h1⟩ := i2_some h
    obtain ⟨-, h2⟩ := if_some h1
    exact fun hM hls hst => hk _ _ _ _ h2 hM hls (np_cons trivial fun w hw => hst w (by simp [hw]))
  | irem =>
    obtain ⟨x, y, st', rfl, h1⟩ := i2_some h
    obtain ⟨-, h2⟩ := if_some h1
    exact fun hM hls hst => hk _ _ _ _ h2 hM hls (np_cons trivial fun w hw => hst w (by simp [hw]))
  | if_icmp cnd off =>
    obtain ⟨x, y, st', rfl, h1⟩ := i2_some h
    exact fun hM hls hst => px_br h1 (fun q => hk _ _ _ _ q hM hls fun w hw => hst w (by simp [hw])) (fun q => hk _ _ _ _ q hM hls fun w hw => hst w (by simp [hw]))
  | ifCond cnd off =>
    obtain ⟨x, st', rfl, h1⟩ := i1_some h
    exact fun hM hls hst => px_br h1 (fun q => hk _ _ _ _ q hM hls fun w hw => hst w (by simp [hw])) (fun q => hk _ _ _ _ q hM hls fun w hw => hst w (by simp [hw]))
  | goto off =>
    exact hk _ _ _ _ h
  | tableswitch df lo hi offs =>
    obtain ⟨x, st', rfl, h1⟩ := i1_some h
    obtain ⟨hlen, h2⟩ := if_some h1
    exact fun hM hls hst => px_sw (fun pc' q => hk _ _ _ _ q hM hls fun w hw => hst w (by simp [hw])) _ _ h2
  | lookupswitch df ps =>
    obtain ⟨x, st', rfl, h1⟩ := i1_some h
    exact fun hM hls hst => px_lk (fun pc' q => hk _ _ _ _ q hM hls fun w hw => hst w (by simp [hw])) _ h1
  | dup =>
    obtain ⟨v, st', rfl, h1⟩ := s1_some h
    obtain ⟨hc, h2⟩ := if_some h1
    exact fun hM hls hst => hk _ _ _ _ h2 hM hls (np_cons (hst v (by simp)) hst)
  | dup2 =>
    obtain ⟨v, st', rfl, h1⟩ := s1_some h
    obtain ⟨w, st', rfl, h2⟩ := s1_some h1
    obtain ⟨hc, h3⟩ := if_some h2
    exact fun hM hls hst => hk _ _ _ _ h3 hM hls (np_cons (hst v (by simp)) (np_cons (hst w (by simp)) hst))
  | pop =>
    obtain ⟨v, st', rfl, h1⟩ := s1_some h
    obtain ⟨hc, h2⟩ := if_some h1
    exact fun hM hls hst => hk _ _ _ _ h2 hM hls (fun w hw => hst w (by simp [hw]))
  | getfield n =>
    have hc2 := hlc
    simp only [am_lc, List.contains_iff_mem] at hc2
    obtain ⟨v, st', rfl, h1⟩ := s1_some h
    obtain ⟨t, i, rfl, h2⟩ := onR_some h1
    obtain ⟨hc, h3⟩ := if_some h2
    obtain ⟨r, hr, hkr⟩ := fl_cls hc2
    obtain ⟨-, -, -, -, hc7, hnf, -⟩ := cls_all hr
    dsimp only at hkr hc7 hnf
    obtain ⟨ht8, har, hnft⟩ := cl_tag hc hc7
    intro hM hls hst
    have hv : i ≤ 517 ∧ am_tg i = t := hst (am_r t i) (by simp)
    have hst' : np_l st' := fun w hw => hst w (by simp [hw])
    have hi : i < 517 := by
      rcases Nat.lt_or_ge i 517 with q | q
      · exact q
      · have : i = 517 := by omega
        subst this
        have : am_tg 517 = 21 := rfl
        omega
    have hk32 : aux % 32 < 32 := Nat.mod_lt _ (by decide)
    rcases hfk : am_fk (aux / 32) (aux % 32) with _ | _ | _ | q
    · rw [hfk] at h3; exact hk _ _ _ _ h3 hM hls (np_cons trivial hst')
    · rw [hfk] at h3
      obtain ⟨h5, h6⟩ := am_fk1 _ hc7 _ hk32 hfk
      have ht5 : t = 5 := by
        rw [h5] at hc
        unfold am_cl at hc
        split at hc
        · omega
        · exact hc
      have hi0 := am_fk5 i (by omega) (hv.2.trans ht5)
      rw [hi0, h6] at h3
      exact hk _ _ _ _ h3 hM hls (np_cons hM.2.1 hst')
    · rw [hfk] at h3
      have hl := am_lay_ok i hi (aux % 32) (by rw [hv.2, hnft]; omega) (by rw [hv.2]; exact har) (by rw [hv.2, hc]; exact hfk)
      rw [hv.2] at hl
      exact hk _ _ _ _ h3 hM hls (np_cons (v := am_r _ _) ⟨by show i + _ ≤ 517; omega, hl.2⟩ hst')
    · rw [hfk] at h3; exact hk _ _ _ _ h3 hM hls (np_cons trivial hst')
  | putfield n =>
    have hc2 := hlc
    simp only [am_lc, List.contains_iff_mem] at hc2
    obtain ⟨x, st', rfl, h1⟩ := s1_some h
    obtain ⟨v, st', rfl, h2⟩ := s1_some h1
    obtain ⟨t, i, rfl, h3⟩ := onR_some h2
    obtain ⟨hc, h4⟩ := if_some h3
    obtain ⟨r, hr, hkr⟩ := fl_cls hc2
    obtain ⟨-, -, -, -, hc7, hnf, -⟩ := cls_all hr
    dsimp only at hkr hc7 hnf
    obtain ⟨ht8, har, hnft⟩ := cl_tag hc hc7
    intro hM hls hst
    have hv : i ≤ 517 ∧ am_tg i = t := hst (am_r t i) (by simp)
    have hst' : np_l st' := fun w hw => hst w (by simp [hw])
    have hi : i ≠ 517 := by
      rintro rfl
      have : am_tg 517 = 21 := rfl
      omega
    have h16 : am_tg i ≠ 16 := by rw [hv.2]; omega
    have hk32 : aux % 32 < 32 := Nat.mod_lt _ (by decide)
    have h05 : am_fk (aux / 32) (aux % 32) = 0 ∨ am_fk (aux / 32) (aux % 32) = 3 → i ≠ 0 := by
      rintro hq rfl
      have h5 : t = 5 := hv.2.symm
      rw [h5] at hc
      have hc5 : aux / 32 = 5 := hc.symm
      rw [hc5] at hq
      have := np_fk5 (aux % 32)
      rcases hq with q | q
      · exact this.1 q
      · exact this.2 q
    rcases hfk : am_fk (aux / 32) (aux % 32) with _ | _ | _ | _ | q
    · rw [hfk] at h4
      obtain ⟨z, rfl, h5⟩ := onI_some h4
      exact hk _ _ _ _ h5 (np_off hM hi (h05 (Or.inl hfk)) h16) hls hst'
    · rw [hfk] at h4
      obtain ⟨t', i', rfl, h5⟩ := onR_some h4
      obtain ⟨rfl, h6⟩ := if_some h5
      have hv' : i' ≤ 517 ∧ am_tg i' = 4 := hst (am_r 4 i') (by simp)
      obtain ⟨h7, h8⟩ := am_fk1 _ hc7 _ hk32 hfk
      have ht5 : t = 5 := by
        rw [h7] at hc
        unfold am_cl at hc
        split at hc
        · omega
        · exact hc
      have hi0 := am_fk5 i (by omega) (hv.2.trans ht5)
      subst hi0
      rw [h8] at h6
      have e16 : ∀ k, am_tg k = 16 → am_set M 0 1 (i' : Int) k = M k := fun k hk => by
        have hk0 : k ≠ 0 := by
          rintro rfl
          cases hk
        simp [am_set, am_st, hk0]
      refine hk _ _ _ _ h6 ⟨hM.1, ?_, fun k hk j j1 j2 => by rw [show am_set M 0 ((1 : Nat) : Int) (i' : Int) k = M k from e16 k hk]; exact hM.2.2 k hk j j1 j2⟩ hls hst'
      show (am_set M 0 1 (i' : Int) 0 1).toNat ≤ 517 ∧ am_tg (am_set M 0 1 (i' : Int) 0 1).toNat = 4
      have : am_set M 0 1 (i' : Int) 0 1 = i' := by simp [am_set, am_st, am_up]
      rw [this]
      exact hv'
    · rw [hfk] at h4; cases h4
    · rw [hfk] at h4
      obtain ⟨z, rfl, h5⟩ := onI_some h4
      obtain ⟨h01, h6⟩ := if_some h5
      exact hk _ _ _ _ h6 (np_off hM hi (h05 (Or.inr hfk)) h16) hls hst'
    · rw [hfk] at h4; cases h4
  | arraylength =>
    obtain ⟨v, st', rfl, h1⟩ := s1_some h
    obtain ⟨t, i, rfl, h2⟩ := onR_some h1
    intro hM hls hst
    have hst' : np_l st' := fun w hw => hst w (by simp [hw])
    unfold am_al at h2
    split at h2
    · exact hk _ _ _ _ h2 hM hls (np_cons trivial hst')
    · split at h2
      · exact hk _ _ _ _ h2 hM hls (np_cons trivial hst')
      · cases h2
  | iaload =>
    obtain ⟨j, st', rfl, h1⟩ := i1_some h
    obtain ⟨v, st', rfl, h2⟩ := s1_some h1
    obtain ⟨t, i, rfl, h3⟩ := onR_some h2
    intro hM hls hst
    have hst' : np_l st' := fun w hw => hst w (by simp [hw])
    split at h3
    · obtain ⟨hj, h4⟩ := if_some h3
      exact hk _ _ _ _ h4 hM hls (np_cons trivial hst')
    · obtain ⟨n, ha, h5⟩ := ak_some h3
      obtain ⟨hj, h6⟩ := if_some h5
      exact hk _ _ _ _ h6 hM hls (np_cons trivial hst')
  | baload =>
    obtain ⟨j, st', rfl, h1⟩ := i1_some h
    obtain ⟨v, st', rfl, h2⟩ := s1_some h1
    obtain ⟨t, i, rfl, h3⟩ := onR_some h2
    obtain ⟨n, ha, h5⟩ := ak_some h3
    obtain ⟨hj, h6⟩ := if_some h5
    exact fun hM hls hst => hk _ _ _ _ h6 hM hls (np_cons trivial fun w hw => hst w (by simp [hw]))
  | aaload =>
    obtain ⟨j, st', rfl, h1⟩ := i1_some h
    obtain ⟨v, st', rfl, h2⟩ := s1_some h1
    obtain ⟨t, i, rfl, h3⟩ := onR_some h2
    obtain ⟨n, ha, h5⟩ := ak_some h3
    obtain ⟨hj, h6⟩ := if_some h5
    intro hM hls hst
    have hv : i ≤ 517 ∧ am_tg i = t := hst (am_r t i) (by simp)
    obtain ⟨h16, hn⟩ := (ar_dec t (ar_lt ha) _ ha).2.2.2.1 rfl
    dsimp only at hn
    exact hk _ _ _ _ h6 hM hls (np_cons (v := am_r _ _) (hM.2.2 i (hv.2.trans h16) j hj.1 (by omega)) fun w hw => hst w (by simp [hw]))
  | iastore =>
    obtain ⟨x, st', rfl, h0⟩ := i1_some h
    obtain ⟨j, st', rfl, h1⟩ := i1_some h0
    obtain ⟨v, st', rfl, h2⟩ := s1_some h1
    obtain ⟨t, i, rfl, h3⟩ := onR_some h2
    obtain ⟨n, ha, h5⟩ := ak_some h3
    obtain ⟨hj, h6⟩ := if_some h5
    intro hM hls hst
    have hv : i ≤ 517 ∧ am_tg i = t := hst (am_r t i) (by simp)
    obtain ⟨a1, a2, a3⟩ := px_arr ha (by decide) hv.2
    exact hk _ _ _ _ h6 (np_off hM a1 a2 a3) hls (fun w hw => hst w (by simp [hw]))
  | bastore =>
    obtain ⟨x, st', rfl, h0⟩ := i1_some h
    obtain ⟨j, st', rfl, h1⟩ := i1_some h0
    obtain ⟨v, st', rfl, h2⟩ := s1_some h1
    obtain ⟨t, i, rfl, h3⟩ := onR_some h2
    obtain ⟨n, ha, h5⟩ := ak_some h3
    obtain ⟨hj, h6⟩ := if_some h5
    intro hM hls hst
    have hv : i ≤ 517 ∧ am_tg i = t := hst (am_r t i) (by simp)
    obtain ⟨a1, a2, a3⟩ := px_arr ha (by decide) hv.2
    exact hk _ _ _ _ h6 (np_off hM a1 a2 a3) hls (fun w hw => hst w (by simp [hw]))
  | aastore =>
    obtain ⟨x, st', rfl, h0⟩ := s1_some h
    obtain ⟨j, st', rfl, h1⟩ := i1_some h0
    obtain ⟨v, st', rfl, h2⟩ := s1_some h1
    obtain ⟨t', i', rfl, h3⟩ := onR_some h2
    obtain ⟨t, i, rfl, h4⟩ := onR_some h3
    obtain ⟨n, ha, h5⟩ := ak_some h4
    obtain ⟨hj, h6⟩ := if_some h5
    obtain ⟨hj, rfl⟩ := hj
    intro hM hls hst
    have hv : i ≤ 517 ∧ am_tg i = t := hst (am_r t i) (by simp)
    have hv' : i' ≤ 517 ∧ am_tg i' = 4 := hst (am_r 4 i') (by simp)
    obtain ⟨h16, hn⟩ := (ar_dec t (ar_lt ha) _ ha).2.2.2.1 rfl
    have hti : am_tg i = 16 := hv.2.trans h16
    have hi : i ≠ 517 := by
      rintro rfl
      have : am_tg 517 = 21 := rfl
      omega
    have hi0 : i ≠ 0 := by
      rintro rfl
      have : am_tg 0 = 5 := rfl
      omega
    have e : ∀ k, k ≠ i → am_set M i j (i' : Int) k = M k := fun k hk => by simp [am_set, am_st, hk]
    refine hk _ _ _ _ h6 ⟨by rw [e 517 hi.symm]; exact hM.1, by rw [e 0 hi0.symm]; exact hM.2.1, fun k hk16 j' g1 g2 => ?_⟩ hls (fun w hw => hst w (by simp [hw]))
    by_cases hki : k = i
    · subst hki
      by_cases hjj : j' = j
      · have : am_set M k j (i' : Int) k j' = i' := by simp [am_set, am_st, am_up, hjj]
        rw [this]
        exact hv'
      · have : am_set M k j (i' : Int) k j' = M k j' := by simp [am_set, am_st, am_up, hjj]
        rw [this]
        exact hM.2.2 k hk16 j' g1 g2
    · rw [e k hki]
      exact hM.2.2 k hk16 j' g1 g2
  | invokevirtual n =>
    have hc2 := hlc
    simp only [am_lc, Bool.or_eq_true, List.contains_iff_mem] at hc2
    obtain ⟨hc, h1⟩ := if_some h
    exact px_inv hc2 h1 (fun st' M' q => hk _ _ _ _ q) hcl
  | invokestatic n =>
    have hc2 := hlc
    simp only [am_lc, Bool.or_eq_true, List.contains_iff_mem] at hc2
    have h' := h
    unfold am_step at h'
    dsimp only at h'
    have _hmx : ∀ j, aux / 10000 = j → 900 ≤ j → (oc, n, aux) ∈ am_mx := fun j hj hj9 => by
      rcases hc2 with (hc2 | hc2) | hc2
      · have := (lq_ok (List.all_eq_true.mp am_ml_ok _ hc2)).1
        dsimp only at this
        have : aux / 10000 < 312 := this
        omega
      · have := (lq_ok (List.all_eq_true.mp am_mn_ok _ hc2)).1
        dsimp only at this
        have : aux / 10000 < 312 := this
        omega
      · exact hc2
    split at h'
    · rename_i hj
      obtain ⟨hlen, h1⟩ := if_some h'
      obtain ⟨x, y, st', rfl, h2⟩ := i2_some h1
      exact fun hM hls hst => hk _ _ _ _ h2 hM hls (np_cons trivial fun w hw => hst w (by simp [hw]))
    · rename_i hj
      obtain ⟨hlen, h1⟩ := if_some h'
      obtain ⟨n1, st', rfl, h2⟩ := i1_some h1
      obtain ⟨dp, st', rfl, h3⟩ := i1_some h2
      obtain ⟨w, st', rfl, h4⟩ := s1_some h3
      obtain ⟨sp, st', rfl, h5⟩ := i1_some h4
      obtain ⟨v, st', rfl, h6⟩ := s1_some h5
      obtain ⟨t, i, rfl, h7⟩ := onR_some h6
      obtain ⟨t', i', rfl, h8⟩ := onR_some h7
      cases hq : am_ar t with
      | none => rw [hq] at h8; cases h8
      | some q =>
        rw [hq] at h8
        obtain ⟨⟨rfl, hq2, rfl, rfl, hn0, hn1⟩, h9⟩ := if_some h8
        intro hM hls hst
        have hv : i ≤ 517 ∧ am_tg i = t := hst (am_r t i) (by simp)
        obtain ⟨a1, a2, a3⟩ := px_arr (kd := q.1) (n := q.2) hq hq2 hv.2
        exact hk _ _ _ _ h9 (np_off hM a1 a2 a3) hls (fun w hw => hst w (by simp [hw]))
    · rename_i hj
      obtain ⟨hlen, h1⟩ := if_some h'
      obtain ⟨v, st', rfl, h2⟩ := s1_some h1
      obtain ⟨x, rfl, h3⟩ := onF_some h2
      exact fun hM hls hst => hk _ _ _ _ h3 hM hls (np_cons trivial fun w hw => hst w (by simp [hw]))
    · rename_i hj
      obtain ⟨hlen, h1⟩ := if_some h'
      obtain ⟨v, st', rfl, h2⟩ := s1_some h1
      obtain ⟨x, rfl, h3⟩ := onD_some h2
      exact fun hM hls hst => hk _ _ _ _ h3 hM hls (np_cons trivial fun w hw => hst w (by simp [hw]))
    · obtain ⟨hc, h1⟩ := if_some h'
      have hc3 : (oc, n, aux) ∈ am_ml ∨ (oc, n, aux) ∈ am_mn := by
        rcases hc2 with hc2 | hc2
        · exact hc2
        · have := mx_ok _ hc2
          dsimp only at this
          rcases (show aux / 10000 = 900 ∨ aux / 10000 = 901 ∨ aux / 10000 = 902 ∨ aux / 10000 = 903 by omega) with q | q | q | q
          · exact (‹aux / 10000 = 900 → False› q).elim
          · exact (‹aux / 10000 = 901 → False› q).elim
          · exact (‹aux / 10000 = 902 → False› q).elim
          · exact (‹aux / 10000 = 903 → False› q).elim
      exact px_inv hc3 h1 (fun st' M' q => hk _ _ _ _ q) hcl
  | return_ =>
    have h' := h
    unfold am_step at h'
    dsimp only at h'
    cases st with
    | cons v st => cases h'
    | nil =>
      obtain ⟨hc, h1⟩ := if_some h'
      cases h1
      intro hM hls hst
      exact ⟨hM, fun v hv => (by cases hv), fun q => by omega, fun q => by omega⟩
  | ireturn =>
    obtain ⟨z, st', rfl, h1⟩ := i1_some h
    cases st' with
    | cons v st => cases h1
    | nil =>
      dsimp only at h1
      split at h1
      · cases h1
        exact fun hM hls hst => ⟨hM, fun v hv => (by cases hv; trivial), fun _ => ⟨z, rfl⟩, fun q => by omega⟩
      · obtain ⟨h01, h2⟩ := if_some h1
        cases h2
        exact fun hM hls hst => ⟨hM, fun v hv => (by cases hv; trivial), fun _ => ⟨z, rfl⟩, fun q => by omega⟩
      · cases h1
  | areturn =>
    obtain ⟨v, st', rfl, h1⟩ := s1_some h
    obtain ⟨t, i, rfl, h2⟩ := onR_some h1
    cases st' with
    | cons v st => cases h2
    | nil =>
      obtain ⟨⟨hr, rfl⟩, h3⟩ := if_some h2
      cases h3
      exact fun hM hls hst => ⟨hM, fun v hv => (by cases hv; exact hst (am_r 4 i) (by simp)), fun q => by omega, fun q => by omega⟩
  | lreturn =>
    obtain ⟨v, st', rfl, h1⟩ := s1_some h
    obtain ⟨x, rfl, h2⟩ := onL_some h1
    cases st' with
    | cons v st => cases h2
    | nil =>
      obtain ⟨hr, h3⟩ := if_some h2
      cases h3
      exact fun hM hls hst => ⟨hM, fun v hv => (by cases hv; trivial), fun q => by omega, fun _ => ⟨x, rfl⟩⟩
  | ladd =>
    obtain ⟨x, y, st', rfl, h1⟩ := l2_some h
    exact fun hM hls hst => hk _ _ _ _ h1 hM hls (np_cons trivial fun w hw => hst w (by simp [hw]))
  | lsub =>
    obtain ⟨x, y, st', rfl, h1⟩ := l2_some h
    exact fun hM hls hst => hk _ _ _ _ h1 hM hls (np_cons trivial fun w hw => hst w (by simp [hw]))
  | lor =>
    obtain ⟨x, y, st', rfl, h1⟩ := l2_some h
    exact fun hM hls hst => hk _ _ _ _ h1 hM hls (np_cons trivial fun w hw => hst w (by simp [hw]))
  | lcmp =>
    obtain ⟨x, y, st', rfl, h1⟩ := l2_some h
    exact fun hM hls hst => hk _ _ _ _ h1 hM hls (np_cons trivial fun w hw => hst w (by simp [hw]))
  | fcmp op =>
    obtain ⟨x, y, st', rfl, h1⟩ := f2_some h
    exact fun hM hls hst => hk _ _ _ _ h1 hM hls (np_cons trivial fun w hw => hst w (by simp [hw]))
  | dcmp op =>
    obtain ⟨x, y, st', rfl, h1⟩ := d2_some h
    exact fun hM hls hst => hk _ _ _ _ h1 hM hls (np_cons trivial fun w hw => hst w (by simp [hw]))
  | fsub =>
    obtain ⟨x, y, st', rfl, h1⟩ := f2_some h
    obtain ⟨-, h2⟩ := if_some h1
    exact fun hM hls hst => hk _ _ _ _ h2 hM hls (np_cons trivial fun w hw => hst w (by simp [hw]))
  | fmul =>
    obtain ⟨x, y, st', rfl, h1⟩ := f2_some h
    obtain ⟨-, h2⟩ := if_some h1
    exact fun hM hls hst => hk _ _ _ _ h2 hM hls (np_cons trivial fun w hw => hst w (by simp [hw]))
  | fdiv =>
    obtain ⟨x, y, st', rfl, h1⟩ := f2_some h
    obtain ⟨-, h2⟩ := if_some h1
    exact fun hM hls hst => hk _ _ _ _ h2 hM hls (np_cons trivial fun w hw => hst w (by simp [hw]))
  | dadd =>
    obtain ⟨x, y, st', rfl, h1⟩ := d2_some h
    obtain ⟨-, h2⟩ := if_some h1
    exact fun hM hls hst => hk _ _ _ _ h2 hM hls (np_cons trivial fun w hw => hst w (by simp [hw]))
  | dsub =>
    obtain ⟨x, y, st', rfl, h1⟩ := d2_some h
    obtain ⟨-, h2⟩ := if_some h1
    exact fun hM hls hst => hk _ _ _ _ h2 hM hls (np_cons trivial fun w hw => hst w (by simp [hw]))
  | dmul =>
    obtain ⟨x, y, st', rfl, h1⟩ := d2_some h
    obtain ⟨-, h2⟩ := if_some h1
    exact fun hM hls hst => hk _ _ _ _ h2 hM hls (np_cons trivial fun w hw => hst w (by simp [hw]))
  | ddiv =>
    obtain ⟨x, y, st', rfl, h1⟩ := d2_some h
    obtain ⟨-, h2⟩ := if_some h1
    exact fun hM hls hst => hk _ _ _ _ h2 hM hls (np_cons trivial fun w hw => hst w (by simp [hw]))
  | lshl =>
    obtain ⟨y, st', rfl, h1⟩ := i1_some h
    obtain ⟨v, st', rfl, h2⟩ := s1_some h1
    obtain ⟨x, rfl, h3⟩ := onL_some h2
    exact fun hM hls hst => hk _ _ _ _ h3 hM hls (np_cons trivial fun w hw => hst w (by simp [hw]))
  | i2l =>
    obtain ⟨x, st', rfl, h1⟩ := i1_some h
    exact fun hM hls hst => hk _ _ _ _ h1 hM hls (np_cons trivial fun w hw => hst w (by simp [hw]))
  | i2d =>
    obtain ⟨x, st', rfl, h1⟩ := i1_some h
    exact fun hM hls hst => hk _ _ _ _ h1 hM hls (np_cons trivial fun w hw => hst w (by simp [hw]))
  | i2f =>
    obtain ⟨x, st', rfl, h1⟩ := i1_some h
    exact fun hM hls hst => hk _ _ _ _ h1 hM hls (np_cons trivial fun w hw => hst w (by simp [hw]))
  | l2d =>
    obtain ⟨v, st', rfl, h1⟩ := s1_some h
    obtain ⟨x, rfl, h2⟩ := onL_some h1
    exact fun hM hls hst => hk _ _ _ _ h2 hM hls (np_cons trivial fun w hw => hst w (by simp [hw]))
  | d2i =>
    obtain ⟨v, st', rfl, h1⟩ := s1_some h
    obtain ⟨x, rfl, h2⟩ := onD_some h1
    exact fun hM hls hst => hk _ _ _ _ h2 hM hls (np_cons trivial fun w hw => hst w (by simp [hw]))
  | d2l =>
    obtain ⟨v, st', rfl, h1⟩ := s1_some h
    obtain ⟨x, rfl, h2⟩ := onD_some h1
    exact fun hM hls hst => hk _ _ _ _ h2 hM hls (np_cons trivial fun w hw => hst w (by simp [hw]))
  | f2i =>
    obtain ⟨v, st', rfl, h1⟩ := s1_some h
    obtain ⟨x, rfl, h2⟩ := onF_some h1
    exact fun hM hls hst => hk _ _ _ _ h2 hM hls (np_cons trivial fun w hw => hst w (by simp [hw]))
  | _ => cases h
end NP
theorem np_ex (sc : Int → Int) : ∀ (f d j pc : Nat) (ls st : List am_V) (M : am_M) (o : am_O), j < am_nm → am_ex am_P f d j pc ls st M = some o → np_Y sc (am_P j).2.1 ls st M o
  | 0, _, _, _, _, _, _, _, _, h => by cases h
  | f + 1, d, j, pc, ls, st, M, o, hj, h => by
    cases hg : am_go (am_P j).2.2 pc with
    | nil =>
      unfold am_ex at h
      rw [hg] at h
      cases h
    | cons e0 rest =>
      rw [am_ex_key am_P hg] at h
      obtain ⟨pre, hpre⟩ := am_go_sf (am_P j).2.2 pc
      rw [hg] at hpre
      have hmem : e0 ∈ (am_P j).2.2 := by rw [hpre]; simp
      obtain ⟨-, hlc, -⟩ := k_all j hj e0 hmem
      refine np_step hlc h (fun pc' ls' st' M' q => np_ex sc f d j pc' ls' st' M' o hj q) (fun j' as M1 r M2 hj' q hM has => ?_)
      cases d with
      | zero => cases q
      | succ d' =>
        obtain ⟨hlen, q2⟩ := if_some (show am_if ((am_in as).length ≤ (am_P j').1) (am_ex am_P f d' j' 0 (am_en (am_P j').1 as) [] M1) = some (r, M2) from q)
        have := np_ex sc f d' j' 0 _ _ M1 (r, M2) hj' q2 hM (np_en has) (fun w hw => by cases hw)
        exact ⟨this.1, this.2.1⟩
