/-! memory: fields and arrays -/
theorem gd_mem {w : Cond} (h : w ∈ lw_tbl) (hg : goodWord w = true) : w ∈ am_gd := List.mem_filter.mpr ⟨h, hg⟩
theorem gd_good {w : Cond} (h : w ∈ am_gd) : goodWord w = true := (List.mem_filter.mp h).2
theorem pl_in {α : Type} {xs : List α} {f : α → Cond} {ps : List Nat} (h : xs.map (fun q => some (f q)) = ps.map (fun i => lw_tbl[i]?)) {q : α} (hq : q ∈ xs) : f q ∈ lw_tbl := by
  have h1 : some (f q) ∈ xs.map (fun q => some (f q)) := List.mem_map.mpr ⟨q, hq, rfl⟩
  rw [h] at h1
  obtain ⟨i, -, hi⟩ := List.mem_map.mp h1
  exact List.mem_of_getElem? hi
theorem fl_mem {q : Nat × Nat × Nat} (h : q ∈ am_fl) : am_fw q ∈ am_gd := by
  have h2 := List.all_eq_true.mp am_fl_ok q h
  simp only [Bool.and_eq_true] at h2
  exact gd_mem (pl_in am_fl_in h) h2.1
theorem fl_cls {q : Nat × Nat × Nat} (h : q ∈ am_fl) : ∃ r, vwCl[q.2.2 / 32]? = some r ∧ q.2.2 % 32 < r.2.2 := by
  have h2 := List.all_eq_true.mp am_fl_ok q h
  simp only [Bool.and_eq_true] at h2
  cases hr : vwCl[q.2.2 / 32]? with
  | none => rw [hr] at h2; cases h2.2
  | some r =>
    rw [hr] at h2
    exact ⟨r, rfl, by simpa using h2.2⟩
def am_cty (c : Nat) : Nat → FieldType := match c with
  | 0 => tyX0
  | 1 => tyX1
  | 2 => tyX2
  | 3 => tyX3
  | 4 => tyX4
  | 5 => tyX5
  | _ => tyX6
set_option maxRecDepth 20000 in
theorem cw_0 : ∀ w ∈ u_ws RX0 TX0 3, w ∈ am_gd := by decide +kernel
set_option maxRecDepth 20000 in
theorem cw_1 : ∀ w ∈ u_ws RX1 TX1 2, w ∈ am_gd := by decide +kernel
set_option maxRecDepth 20000 in
theorem cw_2 : ∀ w ∈ u_ws RX2 TX2 4, w ∈ am_gd := by decide +kernel
set_option maxRecDepth 20000 in
theorem cw_3 : ∀ w ∈ u_ws RX3 TX3 3, w ∈ am_gd := by decide +kernel
set_option maxRecDepth 20000 in
theorem cw_4 : ∀ w ∈ u_ws RX4 TX4 12, w ∈ am_gd := by decide +kernel
set_option maxRecDepth 20000 in
theorem cw_5 : ∀ w ∈ u_ws RX5 TX5 9, w ∈ am_gd := by decide +kernel
set_option maxRecDepth 20000 in
theorem cw_6 : ∀ w ∈ u_ws RX6 TX6 20, w ∈ am_gd := by decide +kernel
theorem cls_all {c : Nat} {r : vw_C} (h : vwCl[c]? = some r) : (∀ w ∈ u_ws r.1 r.2.1 r.2.2, w ∈ am_gd) ∧ (∀ k, k < r.2.2 → parseFieldDescriptor (r.2.1 k).2.2.1 = some (am_cty c k)) ∧ (∀ a, a < r.2.2 → ∀ b, b < r.2.2 → a ≠ b → (r.2.1 a).2.1 ≠ (r.2.1 b).2.1) ∧ r.1 = am_cn c ∧ c < 7 ∧ r.2.2 = am_nf c ∧ r.2.2 ≤ 20 := by
  match c, h with
  | 0, h => cases h; exact ⟨cw_0, tyX0_ok, nmX0, rfl, by decide, rfl, by decide⟩
  | 1, h => cases h; exact ⟨cw_1, tyX1_ok, nmX1, rfl, by decide, rfl, by decide⟩
  | 2, h => cases h; exact ⟨cw_2, tyX2_ok, nmX2, rfl, by decide, rfl, by decide⟩
  | 3, h => cases h; exact ⟨cw_3, tyX3_ok, nmX3, rfl, by decide, rfl, by decide⟩
  | 4, h => cases h; exact ⟨cw_4, tyX4_ok, nmX4, rfl, by decide, rfl, by decide⟩
  | 5, h => cases h; exact ⟨cw_5, tyX5_ok, nmX5, rfl, by decide, rfl, by decide⟩
  | 6, h => cases h; exact ⟨cw_6, tyX6_ok, nmX6, rfl, by decide, rfl, by decide⟩
  | c + 7, h => simp at h
theorem fin_ok : ∀ c, c < 7 → ∀ k, k < 20 → ∀ r, vwCl[c]? = some r → k < r.2.2 → (am_fk c k = 2 ∨ (r.2.1 k).2.2.2 = false) ∧ (am_fk c k = 0 → am_cty c k = .int) ∧ (am_fk c k = 3 → am_cty c k = .boolean) ∧ (am_fk c k = 1 → am_cty c k = .object "ThinVolumes$State") := by
  intro c hc k hk r hr hkr
  match c, hr with
  | 0, hr => cases hr; revert k; decide +kernel
  | 1, hr => cases hr; revert k; decide +kernel
  | 2, hr => cases hr; revert k; decide +kernel
  | 3, hr => cases hr; revert k; decide +kernel
  | 4, hr => cases hr; revert k; decide +kernel
  | 5, hr => cases hr; revert k; decide +kernel
  | 6, hr => cases hr; revert k; decide +kernel
theorem cl_tag {t c : Nat} (h : am_cl t = c) (hc : c < 7) : t < 8 ∧ am_ar t = none ∧ am_nf t = am_nf c := by
  unfold am_cl at h
  by_cases ht : t = 7
  · subst ht
    rw [if_pos rfl] at h
    subst h
    exact ⟨by decide, rfl, rfl⟩
  · rw [if_neg ht] at h
    subst h
    refine ⟨by omega, ?_, rfl⟩
    rcases (show t = 0 ∨ t = 1 ∨ t = 2 ∨ t = 3 ∨ t = 4 ∨ t = 5 ∨ t = 6 by omega) with rfl | rfl | rfl | rfl | rfl | rfl | rfl <;> rfl
/-- what a field read comes to -/
def am_gv (M : am_M) (aux t i : Nat) : am_V := match am_fk (aux / 32) (aux % 32) with
  | 1 => am_r 4 (M i (aux % 32 : Nat)).toNat
  | 2 => am_r (am_ly t (aux % 32)).1 (i + (am_ly t (aux % 32)).2)
  | _ => am_i (M i (aux % 32 : Nat))
theorem okM_st {g : am_G} {M : am_M} {i : Nat} {f : Int → Int} (h : am_okM g M) (hi : i < 517) (h32 : ∀ j, am_32 (f j)) (h0 : i = 0 → 0 ≤ f 1 ∧ (f 1).toNat ≤ 517 ∧ am_tg (f 1).toNat = 4) (h16 : am_tg i = 16 → ∀ j, 0 ≤ j → j < 16 → 0 ≤ f j ∧ (f j).toNat ≤ 517 ∧ am_tg (f j).toNat = 4) (h15 : am_tg i = 15 → ∀ j, f j = 0 ∨ f j = 1) : am_okM g (am_st M i f) := by
  obtain ⟨a1, a2, a3, a4, a5, a6⟩ := h
  have e : ∀ k, k ≠ i → am_st M i f k = M k := fun k hk => by simp [am_st, hk]
  have e0 : am_st M i f i = f := by simp [am_st]
  refine ⟨fun k j => ?_, ?_, fun k hk j hj1 hj2 => ?_, fun k hk j => ?_, by rw [e 517 (by omega)]; exact a5, fun j hj => by rw [e 517 (by omega)]; exact a6 j hj⟩
  · by_cases hk : k = i
    · subst hk; rw [e0]; exact h32 j
    · rw [e k hk]; exact a1 k j
  · by_cases hk : 0 = i
    · rw [← hk] at e0 ⊢; rw [e0]; exact h0 hk.symm
    · rw [e 0 hk]; exact a2
  · by_cases hki : k = i
    · subst hki; rw [e0]; exact h16 hk j hj1 hj2
    · rw [e k hki]; exact a3 k hk j hj1 hj2
  · by_cases hki : k = i
    · subst hki; rw [e0]; exact h15 hk j
    · rw [e k hki]; exact a4 k hk j
theorem am_tg0 : am_tg 0 = 5 := rfl
theorem am_t21 : ∀ i, i < 518 → am_tg i = 21 → i = 517 := by decide +kernel
theorem ar_lt {t : Nat} {q : Nat × Int} (h : am_ar t = some q) : t < 21 := by
  unfold am_ar at h
  split at h <;> first | omega | cases h
theorem ar_dec : ∀ t, t < 21 → ∀ q, am_ar t = some q → q.1 < 3 ∧ 0 ≤ q.2 ∧ q.2 ≤ 32336 ∧ (q.1 = 2 → t = 16 ∧ q.2 = 16) ∧ (q.1 = 1 → t = 15 ∧ q.2 = 12) := by
  intro t ht q hq
  unfold am_ar at hq
  split at hq <;> first | (cases hq; decide) | cases hq
theorem ar_ok {t kd : Nat} {n : Int} (h : am_ar t = some (kd, n)) : kd < 3 ∧ 0 ≤ n ∧ n ≤ 32336 := ⟨(ar_dec t (ar_lt h) _ h).1, (ar_dec t (ar_lt h) _ h).2.1, (ar_dec t (ar_lt h) _ h).2.2.1⟩
theorem ar_2 {t : Nat} {n : Int} (h : am_ar t = some (2, n)) : t = 16 ∧ n = 16 := (ar_dec t (ar_lt h) _ h).2.2.2.1 rfl
section SY
variable {p : Program} {l : Launch} {e : Env} {R : Room} {s : State} {m : MethodId} {args : Array Value} {below : List Frame} {meth : Method} {c : Code} {H0 : Heap} {A : Nat → Prop} {cells slots : Nat} {Q : State → Prop} {g : am_G} {nL : Nat} {cc : ByteArray} {oc pc : Nat} {ls st : List am_V} {M : am_M}
theorem sx_get (C : am_Cx p R s m args c H0 A cells slots g nL cc oc) {idx aux t i : Nat} (hd : decode cc pc = .ok (.getfield idx, 3)) (hf : (oc, idx, aux) ∈ am_fl) (ht : am_cl t = aux / 32) (k : am_Y p l e R s m args below meth c H0 A cells slots Q g nL (pc + 3) ls (am_gv M aux t i :: st) M) : am_Y p l e R s m args below meth c H0 A cells slots Q g nL pc ls (am_r t i :: st) M := by
  intro hM hls hst H locs as hP hS hl
  obtain ⟨hx, hb, hml, hown, hts, hK, hX, hbl, hA, hbA, hnw, hroom, hgok, hL⟩ := C
  have hv : i ≤ 517 ∧ am_tg i = t := hst (am_r t i) (by simp)
  have hst' : am_okL st := fun w hw => hst w (by simp [hw])
  obtain ⟨r, hr, hk⟩ := fl_cls hf
  dsimp only at hr hk
  obtain ⟨hin, hty, hnm, hcn, hc7, hnf, hn20⟩ := cls_all hr
  obtain ⟨ht8, har, hnft⟩ := cl_tag ht hc7
  have hi : i < 517 := by
    rcases Nat.lt_or_ge i 517 with h | h
    · exact h
    · have : i = 517 := by omega
      subst this
      have : am_tg 517 = 21 := rfl
      omega
  have hcell := wd_at g M hi
  rw [ce_obj g M hv.2 har, ht] at hcell
  have hw := hts _ (fl_mem hf)
  have hw2 : (Cond.fieldLink (am_cn oc) idx (r.2.1 (aux % 32)).1 (r.2.1 (aux % 32)).2.1 (r.2.1 (aux % 32)).2.2.1).before args s = true := by
    have e : am_fw (oc, idx, aux) = Cond.fieldLink (am_cn oc) idx (r.2.1 (aux % 32)).1 (r.2.1 (aux % 32)).2.1 (r.2.1 (aux % 32)).2.2.1 := by
      unfold am_fw
      rw [hr]
    rw [← e]
    exact hw
  have hkn : aux % 32 < am_nf t := by rw [hnft, ← hnf]; exact hk
  have hval : am_fv g M t i (aux % 32) = am_cv g (am_gv M aux t i) ∧ am_okV (am_gv M aux t i) := by
    have hlay := am_lay_ok i hi (aux % 32) (by rw [hv.2]; exact hkn) (by rw [hv.2]; exact har)
    unfold am_fv am_gv
    rw [ht]
    rw [hv.2, ht] at hlay
    rcases hfk : am_fk (aux / 32) (aux % 32) with _ | _ | _ | n
    · exact ⟨rfl, hM.1 _ _⟩
    · refine ⟨rfl, ?_⟩
      obtain ⟨h5, h1⟩ := am_fk1 _ hc7 _ (by omega) hfk
      have : t = 5 := by
        unfold am_cl at ht
        by_cases h7 : t = 7
        · rw [if_pos h7] at ht; omega
        · rw [if_neg h7] at ht; omega
      have hi0 := am_fk5 i (by omega) (hv.2.trans this)
      subst hi0
      rw [h1]
      exact ⟨hM.2.1.2.1, hM.2.1.2.2⟩
    · obtain ⟨h1, h2⟩ := hlay hfk
      exact ⟨rfl, by show _ ≤ 517; omega, h2⟩
    · exact ⟨rfl, hM.1 _ _⟩
  refine va_get (D := g.2.1) (ci := aux / 32) (v := am_cv g (am_gv M aux t i)) (C := r.1) (T := r.2.1) (N := r.2.2) hx hb hts hin hown hK hP i hcell hr (aux % 32) hk hw2 (fun _ h => h) ?_ hd (k hM hls (okL_cons hval.2 hst') H locs as hP hS hl)
  rw [List.getElem?_map, List.getElem?_range hkn, ← hval.1]
  rfl
theorem map_set {n k : Nat} {f f' : Nat → Value} {v : Value} (hk : f' k = v) (ho : ∀ q, q ≠ k → f' q = f q) : ((List.range n).map f).set k v = (List.range n).map f' := by
  apply List.ext_getElem?
  intro q
  by_cases hn : q < n
  · by_cases hq : q = k
    · subst hq
      rw [List.getElem?_set_self (by simpa using hn), List.getElem?_map, List.getElem?_range hn, ← hk]
      rfl
    · rw [List.getElem?_set_ne (fun h => hq h.symm), List.getElem?_map, List.getElem?_map, List.getElem?_range hn]
      show some (f q) = some (f' q)
      rw [ho q hq]
  · rw [List.getElem?_eq_none (by simpa using hn), List.getElem?_eq_none (by simpa using hn)]
/-- a field is set: the value as the field's kind wants it -/
theorem sx_put (C : am_Cx p R s m args c H0 A cells slots g nL cc oc) {idx aux t i : Nat} {v : am_V} {z : Int} (hd : decode cc pc = .ok (.putfield idx, 3)) (hf : (oc, idx, aux) ∈ am_fl) (ht : am_cl t = aux / 32) (hv : (am_fk (aux / 32) (aux % 32) = 0 ∧ v = am_i z) ∨ (am_fk (aux / 32) (aux % 32) = 3 ∧ v = am_i z ∧ (z = 0 ∨ z = 1)) ∨ (am_fk (aux / 32) (aux % 32) = 1 ∧ ∃ i' : Nat, v = am_r 4 i' ∧ z = i')) (k : am_Y p l e R s m args below meth c H0 A cells slots Q g nL (pc + 3) ls st (am_set M i (aux % 32 : Nat) z)) : am_Y p l e R s m args below meth c H0 A cells slots Q g nL pc ls (v :: am_r t i :: st) M := by
  intro hM hls hst H locs as hP hS hl
  obtain ⟨hx, hb, hml, hown, hts, hK, hX, hbl, hA, hbA, hnw, hroom, hgok, hL⟩ := C
  have hvi : i ≤ 517 ∧ am_tg i = t := hst (am_r t i) (by simp)
  have hvv : am_okV v := hst v (by simp)
  have hst' : am_okL st := fun w hw => hst w (by simp [hw])
  obtain ⟨r, hr, hk⟩ := fl_cls hf
  dsimp only at hr hk
  obtain ⟨hin, hty, hnm, hcn, hc7, hnf, hn20⟩ := cls_all hr
  obtain ⟨ht8, har, hnft⟩ := cl_tag ht hc7
  have hi : i < 517 := by
    rcases Nat.lt_or_ge i 517 with h | h
    · exact h
    · have : i = 517 := by omega
      subst this
      have : am_tg 517 = 21 := rfl
      omega
  have hcell := wd_at g M hi
  rw [ce_obj g M hvi.2 har, ht] at hcell
  have hw := hts _ (fl_mem hf)
  have hw2 : (Cond.fieldLink (am_cn oc) idx (r.2.1 (aux % 32)).1 (r.2.1 (aux % 32)).2.1 (r.2.1 (aux % 32)).2.2.1).before args s = true := by
    have e : am_fw (oc, idx, aux) = Cond.fieldLink (am_cn oc) idx (r.2.1 (aux % 32)).1 (r.2.1 (aux % 32)).2.1 (r.2.1 (aux % 32)).2.2.1 := by
      unfold am_fw
      rw [hr]
    rw [← e]
    exact hw
  obtain ⟨hfin, f0, f3, f1⟩ := fin_ok _ hc7 (aux % 32) (by omega) r hr hk
  have hkn : aux % 32 < am_nf t := by rw [hnft, ← hnf]; exact hk
  have hfin' : (r.2.1 (aux % 32)).2.2.2 = false := by
    rcases hfin with h | h
    · rcases hv with ⟨h1, -⟩ | ⟨h1, -, -⟩ | ⟨h1, -⟩ <;> omega
    · exact h
  have hz32 : am_32 z := by
    rcases hv with ⟨-, rfl⟩ | ⟨-, rfl, -⟩ | ⟨-, i', rfl, rfl⟩
    · exact hvv
    · exact hvv
    · have : i' ≤ 517 := hvv.1
      unfold am_32; omega
  have hfit : narrow (am_cty (aux / 32) (aux % 32)) (am_cv g v) = am_cv g v ∧ fits (am_cty (aux / 32) (aux % 32)) (am_cv g v) = true := by
    rcases hv with ⟨h1, rfl⟩ | ⟨h1, rfl, h2⟩ | ⟨h1, i', rfl, rfl⟩
    · rw [f0 h1]; exact ⟨rfl, rfl⟩
    · rw [f3 h1]
      rcases h2 with rfl | rfl <;> exact ⟨rfl, rfl⟩
    · rw [f1 h1]; exact ⟨rfl, rfl⟩
  have hnew : am_wd g (am_set M i (aux % 32 : Nat) z) = (am_wd g M).set i (g.1 i, .inr (aux / 32, ((List.range (am_nf t)).map (am_fv g M t i)).set (aux % 32) (am_cv g v))) := by
    unfold am_set
    rw [wd_set g M _ hi, ce_obj g _ hvi.2 har, ht]
    have e0 : ((List.range (am_nf t)).map (am_fv g M t i)).set (aux % 32) (am_cv g v) = (List.range (am_nf t)).map (am_fv g (am_st M i (am_up (M i) (aux % 32 : Nat) z)) t i) := ?_
    · rw [e0]
    refine map_set ?_ ?_
    · have e1 : am_st M i (am_up (M i) (aux % 32 : Nat) z) i ((aux % 32 : Nat) : Int) = z := by simp [am_st, am_up]
      unfold am_fv
      rw [ht]
      rcases hv with ⟨h1, rfl⟩ | ⟨h1, rfl, h2⟩ | ⟨h1, i', rfl, rfl⟩
      · rw [h1, e1]; rfl
      · rw [h1, e1]; rfl
      · rw [h1, e1]; simp [am_cv]
    · intro q hq
      have e1 : am_st M i (am_up (M i) (aux % 32 : Nat) z) i (q : Int) = M i q := by
        simp only [am_st, am_up, if_true]
        rw [if_neg (by omega)]
      unfold am_fv
      rw [e1]
  have hokM : am_okM g (am_set M i (aux % 32 : Nat) z) := by
    refine okM_st hM hi (fun j => ?_) (fun hi0 => ?_) (fun h16 => ?_) (fun h15 => ?_)
    · unfold am_up
      by_cases hj : j = ((aux % 32 : Nat) : Int)
      · rw [if_pos hj]; exact hz32
      · rw [if_neg hj]; exact hM.1 _ _
    · subst hi0
      unfold am_up
      by_cases hj : (1 : Int) = ((aux % 32 : Nat) : Int)
      · rw [if_pos hj]
        have ht5 : t = 5 := by rw [← hvi.2]; rfl
        have hc5 : aux / 32 = 5 := by rw [← ht, ht5]; rfl
        have hk1 : aux % 32 = 1 := by omega
        rcases hv with ⟨h1, -⟩ | ⟨h1, -, -⟩ | ⟨h1, i', rfl, rfl⟩
        · rw [hc5, hk1] at h1; cases h1
        · rw [hc5, hk1] at h1; cases h1
        · exact ⟨by omega, by simpa using hvv.1, by simpa using hvv.2⟩
      · rw [if_neg hj]; exact hM.2.1
    · rw [hvi.2] at h16; omega
    · rw [hvi.2] at h15; omega
  refine va_put (D := g.2.1) (ci := aux / 32) (v := am_cv g v) (C := r.1) (T := r.2.1) (N := r.2.2) hx hb hts hin (am_cty (aux / 32)) hty hnm hown hK hP (wd_D g M hgok hA) hS i hcell hr (aux % 32) hk hw2 (fun _ h => h) hfin' (hty _ hk) hfit.1 hfit.2 (by simpa using hkn) hd fun H1 locs1 hP1 hD1 hS1 => ?_
  exact k hokM hls hst' H1 locs1 as (by rw [hnew]; exact hP1) hS1 hl
theorem sx_iald (C : am_Cx p R s m args c H0 A cells slots g nL cc oc) {kd t i : Nat} {n j : Int} {ins : ClassFile.Instr} (hkd : (kd = 0 ∧ ins = .iaload) ∨ (kd = 1 ∧ ins = .baload)) (hd : decode cc pc = .ok (ins, 1)) (ha : am_ar t = some (kd, n)) (hj : 0 ≤ j ∧ j < n) (k : am_Y p l e R s m args below meth c H0 A cells slots Q g nL (pc + 1) ls (am_i (M i j) :: st) M) : am_Y p l e R s m args below meth c H0 A cells slots Q g nL pc ls (am_i j :: am_r t i :: st) M := by
  intro hM hls hst H locs as hP hS hl
  obtain ⟨hx, hb, hml, hown, hts, hK, hX, hbl, hA, hbA, hnw, hroom, hgok, hL⟩ := C
  have hvi : i ≤ 517 ∧ am_tg i = t := hst (am_r t i) (by simp)
  have hj32 : am_32 j := hst (am_i j) (by simp)
  have hst' : am_okL st := fun w hw => hst w (by simp [hw])
  have hi := ar_517 hvi.1 hvi.2 ha
  have hcell := wd_at g M hi
  have hkk := k hM hls (okL_cons (hM.1 _ _) hst') H locs as hP hS hl
  have hv : Int32.ofInt (M i (((Int32.ofInt j).toNatClampNeg : Nat) : Int)) = Int32.ofInt (M i j) := by rw [am_nt hj32 hj.1]
  rcases hkd with ⟨rfl, rfl⟩ | ⟨rfl, rfl⟩
  · rw [ce_arr g M hvi.2 ha (by decide)] at hcell
    refine va_iald hx hb hK hP i 0 hcell rfl (am_vin hj32 hj.1 hj.2) hd ?_
    rw [hv]
    exact hkk
  · rw [ce_arr g M hvi.2 ha (by decide)] at hcell
    refine va_zald hx hb hK hP i 1 hcell rfl (am_vin hj32 hj.1 hj.2) hd ?_
    rw [hv]
    exact hkk
theorem sx_sald (C : am_Cx p R s m args c H0 A cells slots g nL cc oc) {i : Nat} {j : Int} (hd : decode cc pc = .ok (.iaload, 1)) (hj : 0 ≤ j ∧ j < M i (-1)) (k : am_Y p l e R s m args below meth c H0 A cells slots Q g nL (pc + 1) ls (am_i (M i j) :: st) M) : am_Y p l e R s m args below meth c H0 A cells slots Q g nL pc ls (am_i j :: am_r 21 i :: st) M := by
  intro hM hls hst H locs as hP hS hl
  obtain ⟨hx, hb, hml, hown, hts, hK, hX, hbl, hA, hbA, hnw, hroom, hgok, hL⟩ := C
  have hvi : i ≤ 517 ∧ am_tg i = 21 := hst (am_r 21 i) (by simp)
  have hj32 : am_32 j := hst (am_i j) (by simp)
  have hst' : am_okL st := fun w hw => hst w (by simp [hw])
  have hi : i = 517 := am_t21 i (by omega) hvi.2
  subst hi
  have hlen := hM.2.2.2.2.1
  rw [hlen] at hj
  have hkk := k hM hls (okL_cons (hM.1 _ _) hst') H locs as hP hS hl
  refine va_sld hx hb hX hbl hbA hS (i := Int32.ofInt j) (by rw [vp_in_iff, am_to_of hj32]; omega) hd ?_
  have hn : (Int32.ofInt j).toNatClampNeg = j.toNat := by have := am_nt hj32 hj.1; omega
  have h2 := hM.2.2.2.2.2 j.toNat (by omega)
  rw [show ((j.toNat : Nat) : Int) = j by omega] at h2
  rw [hn, ← am_of_to (g.2.2.2.1 j.toNat), ← h2]
  exact hkk
theorem sx_slen (C : am_Cx p R s m args c H0 A cells slots g nL cc oc) {i : Nat} (hd : decode cc pc = .ok (.arraylength, 1)) (k : am_Y p l e R s m args below meth c H0 A cells slots Q g nL (pc + 1) ls (am_i (M i (-1)) :: st) M) : am_Y p l e R s m args below meth c H0 A cells slots Q g nL pc ls (am_r 21 i :: st) M := by
  intro hM hls hst H locs as hP hS hl
  obtain ⟨hx, hb, hml, hown, hts, hK, hX, hbl, hA, hbA, hnw, hroom, hgok, hL⟩ := C
  have hvi : i ≤ 517 ∧ am_tg i = 21 := hst (am_r 21 i) (by simp)
  have hst' : am_okL st := fun w hw => hst w (by simp [hw])
  have hi : i = 517 := am_t21 i (by omega) hvi.2
  subst hi
  have hkk := k hM hls (okL_cons (hM.1 _ _) hst') H locs as hP hS hl
  refine va_slen hx hb hX hbl hbA hS hd ?_
  rw [hM.2.2.2.2.1] at hkk
  exact hkk
theorem sx_alen (C : am_Cx p R s m args c H0 A cells slots g nL cc oc) {t i : Nat} {q : Nat × Int} (hd : decode cc pc = .ok (.arraylength, 1)) (ha : am_ar t = some q) (k : am_Y p l e R s m args below meth c H0 A cells slots Q g nL (pc + 1) ls (am_i q.2 :: st) M) : am_Y p l e R s m args below meth c H0 A cells slots Q g nL pc ls (am_r t i :: st) M := by
  intro hM hls hst H locs as hP hS hl
  obtain ⟨hx, hb, hml, hown, hts, hK, hX, hbl, hA, hbA, hnw, hroom, hgok, hL⟩ := C
  have hvi : i ≤ 517 ∧ am_tg i = t := hst (am_r t i) (by simp)
  have hst' : am_okL st := fun w hw => hst w (by simp [hw])
  have hi := ar_517 hvi.1 hvi.2 ha
  have hcell := wd_at g M hi
  obtain ⟨kd, n⟩ := q
  obtain ⟨hkd, hn0, hn1⟩ := ar_ok ha
  have hkk := k hM hls (okL_cons (v := am_i n) (show am_32 n by unfold am_32; omega) hst') H locs as hP hS hl
  have hv : Int32.ofNat n.toNat = Int32.ofInt n := by
    obtain ⟨k, rfl⟩ : ∃ k : Nat, n = k := ⟨n.toNat, by omega⟩
    exact (Int32.ofInt_eq_ofNat).symm
  rcases (show kd = 0 ∨ kd = 1 ∨ kd = 2 by omega) with rfl | rfl | rfl
  · rw [ce_arr g M hvi.2 ha (by decide)] at hcell
    exact va_alen hx hb hK hP i 0 hcell (ty := .int) rfl hv hd hkk
  · rw [ce_arr g M hvi.2 ha (by decide)] at hcell
    exact va_alen hx hb hK hP i 1 hcell (ty := .boolean) rfl hv hd hkk
  · rw [ce_ref g M hvi.2 ha] at hcell
    exact va_alen hx hb hK hP i 2 hcell (ty := .object "ThinVolumes$State") rfl hv hd hkk
theorem sx_aald (C : am_Cx p R s m args c H0 A cells slots g nL cc oc) {t i : Nat} {n j : Int} (hd : decode cc pc = .ok (.aaload, 1)) (ha : am_ar t = some (2, n)) (hj : 0 ≤ j ∧ j < n) (k : am_Y p l e R s m args below meth c H0 A cells slots Q g nL (pc + 1) ls (am_r 4 (M i j).toNat :: st) M) : am_Y p l e R s m args below meth c H0 A cells slots Q g nL pc ls (am_i j :: am_r t i :: st) M := by
  intro hM hls hst H locs as hP hS hl
  obtain ⟨hx, hb, hml, hown, hts, hK, hX, hbl, hA, hbA, hnw, hroom, hgok, hL⟩ := C
  have hvi : i ≤ 517 ∧ am_tg i = t := hst (am_r t i) (by simp)
  have hj32 : am_32 j := hst (am_i j) (by simp)
  have hst' : am_okL st := fun w hw => hst w (by simp [hw])
  have hi := ar_517 hvi.1 hvi.2 ha
  have hcell := wd_at g M hi
  rw [ce_ref g M hvi.2 ha] at hcell
  obtain ⟨ht16, hn16⟩ := ar_2 ha
  obtain ⟨b1, b2, b3⟩ := hM.2.2.1 i (hvi.2.trans ht16) j hj.1 (by omega)
  have hkk := k hM hls (okL_cons (v := am_r 4 (M i j).toNat) ⟨b2, b3⟩ hst') H locs as hP hS hl
  refine va_aldq (C := "ThinVolumes$State") hx hb hK hP i 2 hcell rfl (am_vin hj32 hj.1 hj.2) hd ?_
  show W p l e R s m args below meth c H locs cells slots Q (F0 m (pc + 1) as (va_rf (some (g.1 (M i (((Int32.ofInt j).toNatClampNeg : Nat) : Int)).toNat)) :: _))
  rw [am_nt hj32 hj.1]
  exact hkk
theorem sx_iast (C : am_Cx p R s m args c H0 A cells slots g nL cc oc) {kd t i : Nat} {n j x : Int} {ins : ClassFile.Instr} (hkd : (kd = 0 ∧ ins = .iastore) ∨ (kd = 1 ∧ ins = .bastore ∧ (x = 0 ∨ x = 1))) (hd : decode cc pc = .ok (ins, 1)) (ha : am_ar t = some (kd, n)) (hj : 0 ≤ j ∧ j < n) (k : am_Y p l e R s m args below meth c H0 A cells slots Q g nL (pc + 1) ls st (am_set M i j x)) : am_Y p l e R s m args below meth c H0 A cells slots Q g nL pc ls (am_i x :: am_i j :: am_r t i :: st) M := by
  intro hM hls hst H locs as hP hS hl
  obtain ⟨hx, hb, hml, hown, hts, hK, hX, hbl, hA, hbA, hnw, hroom, hgok, hL⟩ := C
  have hvi : i ≤ 517 ∧ am_tg i = t := hst (am_r t i) (by simp)
  have hj32 : am_32 j := hst (am_i j) (by simp)
  have hx32 : am_32 x := hst (am_i x) (by simp)
  have hst' : am_okL st := fun w hw => hst w (by simp [hw])
  have hi := ar_517 hvi.1 hvi.2 ha
  have hcell := wd_at g M hi
  obtain ⟨hkd2, hn0, hn1⟩ := ar_ok ha
  have hk2 : kd < 2 := by rcases hkd with ⟨rfl, -⟩ | ⟨rfl, -, -⟩ <;> decide
  rw [ce_arr g M hvi.2 ha hk2] at hcell
  have hnew : am_wd g (am_set M i j x) = (am_wd g M).set i (g.1 i, .inl (if kd = 0 then g.2.2.1.1 else g.2.2.1.2.1, n.toNat, .inl (upd (fun j => Int32.ofInt (M i j)) (Int32.ofInt j).toNatClampNeg (Int32.ofInt x)))) := by
    unfold am_set
    rw [wd_set g M _ hi, ce_arr g _ hvi.2 ha hk2]
    have e0 : (fun q : Nat => Int32.ofInt (am_st M i (am_up (M i) j x) i q)) = upd (fun j => Int32.ofInt (M i j)) (Int32.ofInt j).toNatClampNeg (Int32.ofInt x) := ?_
    · rw [e0]
    funext q
    simp only [upd, am_st, if_true, am_up]
    have hn := am_nt hj32 hj.1
    by_cases hq : q = (Int32.ofInt j).toNatClampNeg
    · rw [if_pos hq, if_pos (by omega)]
    · rw [if_neg hq, if_neg (by omega)]
  have hokM : am_okM g (am_set M i j x) := by
    refine okM_st hM hi (fun q => ?_) (fun hi0 => ?_) (fun h16 => ?_) (fun h15 => fun q => ?_)
    · unfold am_up
      by_cases hq : q = j
      · rw [if_pos hq]; exact hx32
      · rw [if_neg hq]; exact hM.1 _ _
    · subst hi0
      have h5 : t = 5 := hvi.2.symm.trans am_tg0
      rw [h5] at ha
      cases ha
    · rw [hvi.2] at h16
      subst h16
      cases ha
      omega
    · rw [hvi.2] at h15
      subst h15
      rcases hkd with ⟨rfl, -⟩ | ⟨-, -, hb01⟩
      · cases ha
      · unfold am_up
        by_cases hq : q = j
        · rw [if_pos hq]; exact hb01
        · rw [if_neg hq]; exact hM.2.2.2.1 i hvi.2 q
  rcases hkd with ⟨rfl, rfl⟩ | ⟨rfl, rfl, hb01⟩
  · refine va_iast hx hb hK hP (wd_D g M hgok hA) hS i 0 hcell rfl (am_vin hj32 hj.1 hj.2) hd fun H1 locs1 hP1 hD1 hS1 => ?_
    exact k hokM hls hst' H1 locs1 as (by rw [hnew]; exact hP1) hS1 hl
  · refine va_zast hx hb hK hP (wd_D g M hgok hA) hS i 1 hcell rfl (am_vin hj32 hj.1 hj.2) hd fun H1 locs1 hP1 hD1 hS1 => ?_
    have hnr : vp_nar .boolean (Int32.ofInt x) = Int32.ofInt x := by rcases hb01 with rfl | rfl <;> rfl
    rw [hnr] at hP1
    exact k hokM hls hst' H1 locs1 as (by rw [hnew]; exact hP1) hS1 hl
theorem sx_aast (C : am_Cx p R s m args c H0 A cells slots g nL cc oc) {t i i' : Nat} {n j : Int} (hd : decode cc pc = .ok (.aastore, 1)) (ha : am_ar t = some (2, n)) (hj : 0 ≤ j ∧ j < n) (k : am_Y p l e R s m args below meth c H0 A cells slots Q g nL (pc + 1) ls st (am_set M i j (i' : Int))) : am_Y p l e R s m args below meth c H0 A cells slots Q g nL pc ls (am_r 4 i' :: am_i j :: am_r t i :: st) M := by
  intro hM hls hst H locs as hP hS hl
  obtain ⟨hx, hb, hml, hown, hts, hK, hX, hbl, hA, hbA, hnw, hroom, hgok, hL⟩ := C
  have hvi : i ≤ 517 ∧ am_tg i = t := hst (am_r t i) (by simp)
  have hv' : i' ≤ 517 ∧ am_tg i' = 4 := hst (am_r 4 i') (by simp)
  have hj32 : am_32 j := hst (am_i j) (by simp)
  have hst' : am_okL st := fun w hw => hst w (by simp [hw])
  have hi := ar_517 hvi.1 hvi.2 ha
  have hi'7 : i' < 517 := by
    rcases Nat.lt_or_ge i' 517 with h | h
    · exact h
    · have : i' = 517 := by omega
      subst this
      cases hv'.2
  have hcell := wd_at g M hi
  rw [ce_ref g M hvi.2 ha] at hcell
  have hcell' := wd_at g M hi'7
  rw [ce_obj g M hv'.2 rfl] at hcell'
  obtain ⟨ht16, hn16⟩ := ar_2 ha
  have hnew : am_wd g (am_set M i j (i' : Int)) = (am_wd g M).set i (g.1 i, .inl (g.2.2.1.2.2, n.toNat, .inr (.inr (.inr (.inr (va_up (fun j => some (g.1 (M i j).toNat)) (Int32.ofInt j).toNatClampNeg (some (g.1 i')))))))) := by
    unfold am_set
    rw [wd_set g M _ hi, ce_ref g _ hvi.2 ha]
    have e0 : (fun q : Nat => some (g.1 (am_st M i (am_up (M i) j (i' : Int)) i q).toNat)) = va_up (fun j => some (g.1 (M i j).toNat)) (Int32.ofInt j).toNatClampNeg (some (g.1 i')) := ?_
    · rw [e0]
    funext q
    simp only [va_up, am_st, if_true, am_up]
    have hn := am_nt hj32 hj.1
    by_cases hq : q = (Int32.ofInt j).toNatClampNeg
    · rw [if_pos hq, if_pos (by omega)]; simp
    · rw [if_neg hq, if_neg (by omega)]
  have hokM : am_okM g (am_set M i j (i' : Int)) := by
    refine okM_st hM hi (fun q => ?_) (fun hi0 => ?_) (fun h16 => fun q hq1 hq2 => ?_) (fun h15 => ?_)
    · unfold am_up
      by_cases hq : q = j
      · rw [if_pos hq]; unfold am_32; omega
      · rw [if_neg hq]; exact hM.1 _ _
    · subst hi0
      have h5 : t = 5 := hvi.2.symm.trans am_tg0
      omega
    · unfold am_up
      by_cases hq : q = j
      · rw [if_pos hq]; exact ⟨by omega, by simpa using hv'.1, by simpa using hv'.2⟩
      · rw [if_neg hq]; exact hM.2.2.1 i h16 q hq1 hq2
    · rw [hvi.2] at h15; omega
  refine va_astq (r := (RX4, TX4, 12)) hx hb hK hP (wd_D g M hgok hA) hS i 2 i' 4 hcell rfl hcell' rfl (am_vin hj32 hj.1 hj.2) hd fun H1 locs1 hP1 hD1 hS1 => ?_
  exact k hokM hls hst' H1 locs1 as (by rw [hnew]; exact hP1) hS1 hl
end SY
