/-! what one step looks at: nothing, one state that follows, or one call and then one state -/
def am_vw (T : am_K → am_C → Option am_O) : Prop :=
  (∃ c, ∀ k cl, T k cl = c) ∨ (∃ (pc : Nat) (ls st : List am_V) (M : am_M), ∀ k cl, T k cl = k pc ls st M) ∨
  (∃ (j : Nat) (as : List am_V) (M : am_M) (g : am_K → am_O → Option am_O), (∀ k cl, T k cl = (cl j as M).bind (g k)) ∧
    ∀ o, (∀ k, g k o = none) ∨ (∃ (pc : Nat) (ls st : List am_V) (M' : am_M), ∀ k, g k o = k pc ls st M'))
theorem vw_c (c : Option am_O) : am_vw (fun _ _ => c) := Or.inl ⟨c, fun _ _ => rfl⟩
theorem vw_k (pc : Nat) (ls st : List am_V) (M : am_M) : am_vw (fun k _ => k pc ls st M) := Or.inr (Or.inl ⟨pc, ls, st, M, fun _ _ => rfl⟩)
theorem vw_v {z : Int} {F : Int → am_K → am_C → Option am_O} (h : ∀ z, am_vw (F z)) : am_vw (fun k cl => am_v z (fun z => F z k cl)) := h z
theorem vw_w {M : am_M} {F : am_M → am_K → am_C → Option am_O} (h : ∀ M, am_vw (F M)) : am_vw (fun k cl => am_w M (fun M => F M k cl)) := h M
theorem vw_onI {v : am_V} {F : Int → am_K → am_C → Option am_O} (h : ∀ z, am_vw (F z)) : am_vw (fun k cl => am_onI v (fun z => F z k cl)) := by
  rcases v with z | _ | _ | _ | _ | _ <;> first | exact h z | exact vw_c none
theorem vw_onR {v : am_V} {F : Nat → Nat → am_K → am_C → Option am_O} (h : ∀ t i, am_vw (F t i)) : am_vw (fun k cl => am_onR v (fun t i => F t i k cl)) := by
  rcases v with _ | z | _ | _ | _ | _ <;> first | exact h z.1 z.2 | exact vw_c none
theorem vw_onL {v : am_V} {F : Int64 → am_K → am_C → Option am_O} (h : ∀ z, am_vw (F z)) : am_vw (fun k cl => am_onL v (fun z => F z k cl)) := by
  rcases v with _ | _ | z | _ | _ | _ <;> first | exact h z | exact vw_c none
theorem vw_onF {v : am_V} {F : UInt32 → am_K → am_C → Option am_O} (h : ∀ z, am_vw (F z)) : am_vw (fun k cl => am_onF v (fun z => F z k cl)) := by
  rcases v with _ | _ | _ | z | _ | _ <;> first | exact h z | exact vw_c none
theorem vw_onD {v : am_V} {F : UInt64 → am_K → am_C → Option am_O} (h : ∀ z, am_vw (F z)) : am_vw (fun k cl => am_onD v (fun z => F z k cl)) := by
  rcases v with _ | _ | _ | _ | z | _ <;> first | exact h z | exact vw_c none
theorem vw_s1 {st : List am_V} {F : am_V → List am_V → am_K → am_C → Option am_O} (h : ∀ v st, am_vw (F v st)) : am_vw (fun k cl => am_s1 st (fun v st => F v st k cl)) := by
  cases st with
  | nil => exact vw_c none
  | cons v st => exact h v st
theorem vw_ite {c : Prop} [Decidable c] {F G : am_K → am_C → Option am_O} (h : am_vw F) (g : am_vw G) : am_vw (fun k cl => if c then F k cl else G k cl) := by
  by_cases hc : c
  · simp only [if_pos hc]; exact h
  · simp only [if_neg hc]; exact g
theorem vw_if {c : Prop} [Decidable c] {F : am_K → am_C → Option am_O} (h : am_vw F) : am_vw (fun k cl => am_if c (F k cl)) := vw_ite h (vw_c none)
theorem vw_i1 {st : List am_V} {F : Int → List am_V → am_K → am_C → Option am_O} (h : ∀ z st, am_vw (F z st)) : am_vw (fun k cl => am_i1 st (fun z st => F z st k cl)) := vw_s1 fun _ _ => vw_onI fun _ => h _ _
theorem vw_i2 {st : List am_V} {F : Int → Int → List am_V → am_K → am_C → Option am_O} (h : ∀ x y st, am_vw (F x y st)) : am_vw (fun k cl => am_i2 st (fun x y st => F x y st k cl)) := vw_s1 fun _ _ => vw_s1 fun _ _ => vw_onI fun _ => vw_onI fun _ => h _ _ _
theorem vw_l2 {st : List am_V} {F : Int64 → Int64 → List am_V → am_K → am_C → Option am_O} (h : ∀ x y st, am_vw (F x y st)) : am_vw (fun k cl => am_l2 st (fun x y st => F x y st k cl)) := vw_s1 fun _ _ => vw_s1 fun _ _ => vw_onL fun _ => vw_onL fun _ => h _ _ _
theorem vw_f2 {st : List am_V} {F : UInt32 → UInt32 → List am_V → am_K → am_C → Option am_O} (h : ∀ x y st, am_vw (F x y st)) : am_vw (fun k cl => am_f2 st (fun x y st => F x y st k cl)) := vw_s1 fun _ _ => vw_s1 fun _ _ => vw_onF fun _ => vw_onF fun _ => h _ _ _
theorem vw_d2 {st : List am_V} {F : UInt64 → UInt64 → List am_V → am_K → am_C → Option am_O} (h : ∀ x y st, am_vw (F x y st)) : am_vw (fun k cl => am_d2 st (fun x y st => F x y st k cl)) := vw_s1 fun _ _ => vw_s1 fun _ _ => vw_onD fun _ => vw_onD fun _ => h _ _ _
theorem vw_br {c : ClassFile.Cond} {x y : Int} {F G : am_K → am_C → Option am_O} (h : am_vw F) (g : am_vw G) : am_vw (fun k cl => am_br c x y (F k cl) (G k cl)) := by
  cases c <;> first | exact vw_ite h g | exact vw_ite g h
theorem vw_sw {F : Nat → am_K → am_C → Option am_O} (h : ∀ pc, am_vw (F pc)) {pc : Nat} {df x : Int} : ∀ (l : List Int) (lo : Int), am_vw (fun k cl => am_sw (fun pc => F pc k cl) pc df x lo l)
  | [], _ => h _
  | _ :: l, lo => vw_ite (h _) (vw_sw h l (lo + 1))
theorem vw_lk {F : Nat → am_K → am_C → Option am_O} (h : ∀ pc, am_vw (F pc)) {pc : Nat} {df x : Int} : ∀ (l : List (Int × Int)), am_vw (fun k cl => am_lk (fun pc => F pc k cl) pc df x l)
  | [] => h _
  | _ :: l => vw_ite (h _) (vw_lk h l)
theorem vw_ak {kd t : Nat} {F : Int → am_K → am_C → Option am_O} (h : ∀ z, am_vw (F z)) : am_vw (fun k cl => am_ak kd t (fun z => F z k cl)) := by
  unfold am_ak
  cases am_ar t with
  | none => exact vw_c none
  | some q => exact vw_ite (h _) (vw_c none)
theorem vw_al {M : am_M} {t i : Nat} {F : Int → am_K → am_C → Option am_O} (h : ∀ z, am_vw (F z)) : am_vw (fun k cl => am_al M t i (fun z => F z k cl)) := by
  unfold am_al
  split
  · exact h _
  · cases am_ar t with
    | none => exact vw_c none
    | some q => exact h _
theorem vw_tk {F : List am_V → List am_V → am_K → am_C → Option am_O} (h : ∀ as st, am_vw (F as st)) : ∀ (n : Nat) (acc st : List am_V), am_vw (fun k cl => am_tk n acc st (fun as st => F as st k cl))
  | 0, _, _ => h _ _
  | n + 1, _, _ => vw_s1 fun _ _ => vw_tk h n _ _
theorem vw_rc {c : Nat} {as : List am_V} {F : am_K → am_C → Option am_O} (h : am_vw F) : am_vw (fun k cl => am_rc c as (F k cl)) := by
  cases c with
  | zero => exact h
  | succ c => exact vw_s1 fun _ _ => vw_onR fun _ _ => vw_if h
theorem vw_an {ret j nx : Nat} {as ls st : List am_V} {M : am_M} : am_vw (fun k cl => am_an ret (cl j as M) st (fun st M => k nx ls st M)) := by
  refine Or.inr (Or.inr ⟨j, as, M, fun k o => am_an ret (some o) st (fun st M => k nx ls st M), fun k cl => ?_, fun o => ?_⟩)
  · show am_an ret (cl j as M) st (fun st M => k nx ls st M) = (cl j as M).bind _
    cases cl j as M with
    | some o => rfl
    | none => rcases ret with _ | _ | _ | _ | _ <;> rfl
  · obtain ⟨v, M'⟩ := o
    rcases ret with _ | _ | _ | _ | r
    · rcases v with _ | v
      · exact Or.inr ⟨_, _, _, _, fun _ => rfl⟩
      · exact Or.inl fun _ => rfl
    · rcases v with _ | (v | _)
      · exact Or.inl fun _ => rfl
      · exact Or.inr ⟨_, _, _, _, fun _ => rfl⟩
      · exact Or.inl fun _ => rfl
    · rcases v with _ | (v | (q | _))
      · exact Or.inl fun _ => rfl
      · exact Or.inl fun _ => rfl
      · by_cases hq : q.1 = 4
        · exact Or.inr ⟨_, _, _, _, fun _ => by simp only [am_an, am_bR, if_pos hq]; rfl⟩
        · exact Or.inl fun _ => by simp only [am_an, am_bR, if_neg hq]
      · exact Or.inl fun _ => rfl
    · rcases v with _ | (v | (v | (v | _)))
      · exact Or.inl fun _ => rfl
      · exact Or.inl fun _ => rfl
      · exact Or.inl fun _ => rfl
      · exact Or.inr ⟨_, _, _, _, fun _ => rfl⟩
      · exact Or.inl fun _ => rfl
    · rcases v with _ | (v | _)
      · exact Or.inl fun _ => rfl
      · exact Or.inr ⟨_, _, _, _, fun _ => rfl⟩
      · exact Or.inl fun _ => rfl
theorem vw_inv {aux nx : Nat} {ls st : List am_V} {M : am_M} : am_vw (fun k cl => am_inv (fun st M => k nx ls st M) cl aux st M) :=
  vw_tk (F := fun as st k cl => am_if (st.length ≤ 4) (am_rc (aux / 1000 % 10) as (am_an (aux % 10) (cl (aux / 10000) as M) st (fun st M => k nx ls st M)))) (fun _ _ => vw_if (vw_rc vw_an)) _ _ _
theorem vw_nat {n nx : Nat} {ls st : List am_V} {M : am_M} : am_vw (fun k _ => am_nat (fun st M => k nx ls st M) n st M) := by
  unfold am_nat
  refine vw_if ?_
  split
  · exact vw_i2 fun _ _ _ => vw_k _ _ _ _
  · refine vw_i1 fun _ _ => vw_i1 fun _ _ => vw_s1 fun _ _ => vw_i1 fun _ _ => vw_s1 fun _ _ => vw_onR fun t _ => vw_onR fun _ _ => ?_
    cases am_ar t with
    | none => exact vw_c none
    | some q => exact vw_if (vw_w fun _ => vw_k _ _ _ _)
  · exact vw_s1 fun _ _ => vw_onF fun _ => vw_k _ _ _ _
  · exact vw_s1 fun _ _ => vw_onD fun _ => vw_k _ _ _ _
  · exact vw_c none
set_option maxHeartbeats 4000000 in
theorem vw_step (ret : Nat) (e : am_E) (ls st : List am_V) (M : am_M) : am_vw (fun k cl => am_step k cl ret e ls st M) := by
  obtain ⟨pc, ins, len, aux, lv⟩ := e
  unfold am_step
  dsimp only
  split
  all_goals first
    | exact vw_c _
    | exact vw_k _ _ _ _
    | exact vw_onI fun _ => vw_k _ _ _ _
    | exact vw_onR fun _ _ => vw_k _ _ _ _
    | exact vw_onL fun _ => vw_k _ _ _ _
    | exact vw_onF fun _ => vw_k _ _ _ _
    | exact vw_onD fun _ => vw_k _ _ _ _
    | exact vw_i1 fun _ _ => vw_k _ _ _ _
    | exact vw_i2 fun _ _ _ => vw_k _ _ _ _
    | exact vw_i2 fun _ _ _ => vw_if (vw_k _ _ _ _)
    | exact vw_l2 fun _ _ _ => vw_k _ _ _ _
    | exact vw_f2 fun _ _ _ => vw_k _ _ _ _
    | exact vw_d2 fun _ _ _ => vw_k _ _ _ _
    | exact vw_f2 fun _ _ _ => vw_if (vw_k _ _ _ _)
    | exact vw_d2 fun _ _ _ => vw_if (vw_k _ _ _ _)
    | exact vw_s1 fun _ _ => vw_onR fun _ _ => vw_k _ _ _ _
    | exact vw_s1 fun _ _ => vw_onL fun _ => vw_k _ _ _ _
    | exact vw_s1 fun _ _ => vw_onF fun _ => vw_k _ _ _ _
    | exact vw_s1 fun _ _ => vw_onD fun _ => vw_k _ _ _ _
    | exact vw_s1 fun _ _ => vw_if (vw_k _ _ _ _)
    | exact vw_s1 fun _ _ => vw_s1 fun _ _ => vw_if (vw_k _ _ _ _)
    | exact vw_i2 fun _ _ _ => vw_br (vw_k _ _ _ _) (vw_k _ _ _ _)
    | exact vw_i1 fun _ _ => vw_br (vw_k _ _ _ _) (vw_k _ _ _ _)
    | exact vw_i1 fun _ _ => vw_if (vw_sw (fun _ => vw_k _ _ _ _) _ _)
    | exact vw_i1 fun _ _ => vw_lk (fun _ => vw_k _ _ _ _) _
    | exact vw_s1 fun _ _ => vw_onR fun _ _ => vw_al fun _ => vw_k _ _ _ _
    | exact vw_i1 fun _ _ => vw_s1 fun _ _ => vw_onR fun _ _ => vw_ak fun _ => vw_if (vw_k _ _ _ _)
    | exact vw_i1 fun _ _ => vw_v fun _ => vw_k _ _ _ _
    | exact vw_onI fun _ => vw_v fun _ => vw_k _ _ _ _
    | exact vw_i1 fun _ _ => vw_i1 fun _ _ => vw_s1 fun _ _ => vw_onR fun _ _ => vw_ak fun _ => vw_if (vw_w fun _ => vw_k _ _ _ _)
    | exact vw_s1 fun _ _ => vw_i1 fun _ _ => vw_s1 fun _ _ => vw_onR fun _ _ => vw_onR fun _ _ => vw_ak fun _ => vw_if (vw_w fun _ => vw_k _ _ _ _)
    | exact vw_i1 fun _ _ => vw_s1 fun _ _ => vw_onL fun _ => vw_k _ _ _ _
    | exact vw_if vw_inv
    | skip
  · refine vw_s1 fun _ _ => vw_onR fun _ _ => vw_if ?_
    split <;> exact vw_k _ _ _ _
  · refine vw_s1 fun _ _ => vw_s1 fun _ _ => vw_onR fun _ _ => vw_if ?_
    split
    · exact vw_onI fun _ => vw_w fun _ => vw_k _ _ _ _
    · exact vw_onR fun _ _ => vw_if (vw_w fun _ => vw_k _ _ _ _)
    · exact vw_onI fun _ => vw_if (vw_w fun _ => vw_k _ _ _ _)
    · exact vw_c none
  · refine vw_i1 fun _ _ => vw_s1 fun _ _ => vw_onR fun _ _ => ?_
    split
    · exact vw_if (vw_k _ _ _ _)
    · exact vw_ak fun _ => vw_if (vw_k _ _ _ _)
  · split
    · exact vw_nat
    · exact vw_nat
    · exact vw_nat
    · exact vw_nat
    · exact vw_if vw_inv
/-! more fuel, the same answer -/
def am_le (a b : Option am_O) : Prop := ∀ o, a = some o → b = some o
theorem am_le_if {c : Prop} [Decidable c] {a b : Option am_O} (h : am_le a b) : am_le (am_if c a) (am_if c b) := by
  intro o ho
  unfold am_if at ho ⊢
  by_cases hc : c
  · rw [if_pos hc] at ho ⊢; exact h o ho
  · rw [if_neg hc] at ho; cases ho
theorem vw_mono {T : am_K → am_C → Option am_O} (hT : am_vw T) {k k' : am_K} {cl cl' : am_C} (hk : ∀ pc ls st M, am_le (k pc ls st M) (k' pc ls st M)) (hc : ∀ j as M, am_le (cl j as M) (cl' j as M)) : am_le (T k cl) (T k' cl') := by
  intro o ho
  rcases hT with ⟨c, h⟩ | ⟨pc, ls, st, M, h⟩ | ⟨j, as, M, g, h, hg⟩
  · rw [h] at ho ⊢; exact ho
  · rw [h] at ho ⊢; exact hk _ _ _ _ _ ho
  · rw [h] at ho ⊢
    cases hq : cl j as M with
    | none => rw [hq] at ho; cases ho
    | some q =>
      rw [hq] at ho
      rw [hc _ _ _ _ hq]
      rcases hg q with hn | ⟨pc, ls, st, M', hn⟩
      · exact absurd ((hn k).symm.trans ho) (by simp)
      · show g k' q = some o
        rw [hn]
        exact hk _ _ _ _ _ ((hn k).symm.trans ho)
theorem am_ex_succ (P : Nat → am_T) : ∀ (f d j pc : Nat) (ls st : List am_V) (M : am_M), am_le (am_ex P f d j pc ls st M) (am_ex P (f + 1) d j pc ls st M)
  | 0, _, _, _, _, _, _ => fun o h => by cases h
  | f + 1, d, j, pc, ls, st, M => by
    intro o h
    unfold am_ex at h ⊢
    cases hg : am_go (P j).2.2 pc with
    | nil => rw [hg] at h; cases h
    | cons e l =>
      rw [hg] at h
      refine vw_mono (vw_step (P j).2.1 e ls st M) (fun pc ls st M => am_ex_succ P f d j pc ls st M) (fun j as M => ?_) o h
      cases d with
      | zero => exact fun o h => by cases h
      | succ d => exact am_le_if (am_ex_succ P f d j 0 _ [] M)
theorem am_ex_mono (P : Nat → am_T) {f f' : Nat} (hf : f ≤ f') {d j pc : Nat} {ls st : List am_V} {M : am_M} : am_le (am_ex P f d j pc ls st M) (am_ex P f' d j pc ls st M) := by
  induction hf with
  | refl => exact fun o h => h
  | step _ ih => exact fun o h => am_ex_succ P _ _ _ _ _ _ _ o (ih o h)
/-- what a method comes to, from pc on: the answer with fuel enough -/
noncomputable def am_at (P : Nat → am_T) (d j pc : Nat) (ls st : List am_V) (M : am_M) : Option am_O :=
  @dite (Option am_O) (∃ o f, am_ex P f d j pc ls st M = some o) (Classical.propDecidable _) (fun h => some h.choose) (fun _ => none)
theorem am_at_iff (P : Nat → am_T) {d j pc : Nat} {ls st : List am_V} {M : am_M} {o : am_O} : am_at P d j pc ls st M = some o ↔ ∃ f, am_ex P f d j pc ls st M = some o := by
  unfold am_at
  constructor
  · intro h
    split at h
    · rename_i hq
      rw [← Option.some.inj h]
      exact hq.choose_spec
    · cases h
  · intro ⟨f, h⟩
    have hq : ∃ o f, am_ex P f d j pc ls st M = some o := ⟨o, f, h⟩
    rw [dif_pos hq]
    obtain ⟨f', h'⟩ := hq.choose_spec
    have h1 := am_ex_mono P (Nat.le_max_left f f') _ h
    have h2 := am_ex_mono P (Nat.le_max_right f f') _ h'
    exact h2.symm.trans h1
/-- a call of method j -/
noncomputable def am_m (P : Nat → am_T) (d j : Nat) (as : List am_V) (M : am_M) : Option am_O := match d with
  | 0 => none
  | d' + 1 => am_if ((am_in as).length ≤ (P j).1) (am_at P d' j 0 (am_en (P j).1 as) [] M)
def am_xc (P : Nat → am_T) (f d : Nat) : am_C := fun j' as M' => match d with
  | 0 => none
  | d' + 1 => am_if ((am_in as).length ≤ (P j').1) (am_ex P f d' j' 0 (am_en (P j').1 as) [] M')
theorem am_ex_key (P : Nat → am_T) {f d j pc : Nat} {ls st : List am_V} {M : am_M} {e : am_E} {l : List am_E} (hg : am_go (P j).2.2 pc = e :: l) : am_ex P (f + 1) d j pc ls st M = am_step (am_ex P f d j) (am_xc P f d) (P j).2.1 e ls st M := by
  conv => lhs; unfold am_ex
  rw [hg]
  rfl
theorem am_at_step (P : Nat → am_T) (d j pc : Nat) (ls st : List am_V) (M : am_M) : am_at P d j pc ls st M = (match am_go (P j).2.2 pc with
    | [] => none
    | e :: _ => am_step (am_at P d j) (am_m P d) (P j).2.1 e ls st M) := by
  refine Option.ext fun o => ?_
  rw [am_at_iff]
  constructor
  · intro ⟨f, h⟩
    cases f with
    | zero => cases h
    | succ f =>
      unfold am_ex at h
      cases hg : am_go (P j).2.2 pc with
      | nil => rw [hg] at h; cases h
      | cons e l =>
        rw [hg] at h
        refine vw_mono (vw_step (P j).2.1 e ls st M) (fun pc ls st M o h => (am_at_iff P).mpr ⟨f, h⟩) (fun j as M o h => ?_) o h
        cases d with
        | zero => cases h
        | succ d => exact am_le_if (fun o h => (am_at_iff P).mpr ⟨f, h⟩) o h
  · intro h
    cases hg : am_go (P j).2.2 pc with
    | nil => rw [hg] at h; cases h
    | cons e l =>
      rw [hg] at h
      dsimp only at h
      have key : ∀ f, am_ex P (f + 1) d j pc ls st M = am_step (am_ex P f d j) (am_xc P f d) (P j).2.1 e ls st M := fun f => am_ex_key P hg
      rcases vw_step (P j).2.1 e ls st M with ⟨c, hv⟩ | ⟨pc', ls', st', M', hv⟩ | ⟨j', as, M', g, hv, hgg⟩
      · exact ⟨1, (key 0).trans ((hv _ _).trans ((hv _ _).symm.trans h))⟩
      · obtain ⟨f, hf⟩ := (am_at_iff P).mp ((hv _ _).symm.trans h)
        exact ⟨f + 1, (key f).trans ((hv _ _).trans hf)⟩
      · replace h := (hv _ _).symm.trans h
        cases d with
        | zero => cases h
        | succ d =>
          cases hq : am_m P (d + 1) j' as M' with
          | none => rw [hq] at h; cases h
          | some q =>
            rw [hq] at h
            have hcq : (am_in as).length ≤ (P j').1 := by
              by_cases hc : (am_in as).length ≤ (P j').1
              · exact hc
              · exact absurd ((if_neg hc).symm.trans hq) (by simp)
            obtain ⟨f1, hf1⟩ := (am_at_iff P).mp ((if_pos hcq).symm.trans hq)
            rcases hgg q with hn | ⟨pc2, ls2, st2, M2, hn⟩
            · exact absurd ((hn _).symm.trans h) (by simp)
            · have h2 : am_at P (d + 1) j pc2 ls2 st2 M2 = some o := (hn _).symm.trans h
              obtain ⟨f2, hf2⟩ := (am_at_iff P).mp h2
              refine ⟨max f1 f2 + 1, (key _).trans ((hv _ _).trans ?_)⟩
              have h3 : am_xc P (max f1 f2) (d + 1) j' as M' = some q := (if_pos hcq).trans (am_ex_mono P (Nat.le_max_left f1 f2) _ hf1)
              rw [h3]
              exact (hn _).trans (am_ex_mono P (Nat.le_max_right f1 f2) _ hf2)
/-! a stretch of steps up to the cuts, told at once -/
def am_D (den : am_K) (cl : am_C) (code : List am_E) (ret : Nat) (cuts : List (Nat × Nat)) : Nat → List am_E → List am_V → List am_V → am_M → Option am_O
  | _, [], _, _, _ => none
  | 0, e :: _, ls, st, M => den e.1 ls st M
  | n + 1, e :: rest, ls, st, M => am_step (fun pc' ls' st' M' => match cuts.find? (fun q => q.1 == pc') with
    | some q => den pc' (am_ms q.2 ls') st' M'
    | none => if pc' = e.1 + e.2.2.1 then am_D den cl code ret cuts n rest ls' st' M' else am_D den cl code ret cuts n (am_go code pc') ls' st' M') cl ret e ls st M
/-- the rows of a code: one behind the other -/
def am_wf : List am_E → Bool
  | [] => true
  | e :: l => decide (0 < e.2.2.1) && (match l with
    | [] => true
    | e' :: _ => e.1 + e.2.2.1 == e'.1) && am_wf l
def am_ck (code : List am_E) (cuts : List (Nat × Nat)) : Bool := cuts.all fun q => match am_go code q.1 with
  | [] => false
  | e :: _ => e.2.2.2.2 == q.2
theorem am_mk_mk : ∀ (n : Nat) (ls : List am_V), am_mk n (am_mk n ls) = am_mk n ls
  | _, [] => rfl
  | n, v :: l => by
    simp only [am_mk]
    rw [am_mk_mk (n / 2) l]
    by_cases h : n % 2 = 1 <;> simp [h]
theorem am_ms_ms (n : Nat) (ls : List am_V) : am_ms n (am_ms n ls) = am_ms n ls := by
  unfold am_ms
  by_cases h : n = 0
  · simp [h]
  · simp [h, am_mk_mk]
theorem am_step_ms (k : am_K) (cl : am_C) (ret : Nat) (e : am_E) (ls st : List am_V) (M : am_M) : am_step k cl ret e (am_ms e.2.2.2.2 ls) st M = am_step k cl ret e ls st M := by
  obtain ⟨pc, ins, len, aux, lv⟩ := e
  unfold am_step
  dsimp only
  rw [am_ms_ms]
theorem am_go_hd {e : am_E} {l : List am_E} : ∀ {code : List am_E} {t : Nat}, am_go code t = e :: l → e.1 = t
  | [], _, h => by cases h
  | x :: c, t, h => by
    unfold am_go at h
    by_cases hx : x.1 = t
    · rw [if_pos hx] at h
      cases h
      exact hx
    · rw [if_neg hx] at h
      exact am_go_hd h
theorem am_at_ms (P : Nat → am_T) (d j pc : Nat) {lv : Nat} {e : am_E} {l : List am_E} (hg : am_go (P j).2.2 pc = e :: l) (hl : e.2.2.2.2 = lv) (ls st : List am_V) (M : am_M) : am_at P d j pc (am_ms lv ls) st M = am_at P d j pc ls st M := by
  rw [am_at_step, am_at_step, hg, ← hl]
  exact am_step_ms _ _ _ _ _ _ _
theorem am_wf_lt : ∀ {l : List am_E} {e : am_E}, am_wf (e :: l) = true → ∀ x ∈ l, e.1 < x.1
  | [], _, _ => fun x hx => by cases hx
  | e' :: l, e, h => by
    unfold am_wf at h
    simp only [Bool.and_eq_true, decide_eq_true_eq, beq_iff_eq] at h
    intro x hx
    rcases List.mem_cons.mp hx with rfl | hx
    · omega
    · have := am_wf_lt h.2 x hx
      omega
theorem am_wf_tl {e : am_E} {l : List am_E} (h : am_wf (e :: l) = true) : am_wf l = true := by
  unfold am_wf at h
  simp only [Bool.and_eq_true] at h
  exact h.2
theorem am_wf_go {e : am_E} {l : List am_E} : ∀ (pre : List am_E), am_wf (pre ++ e :: l) = true → am_go (pre ++ e :: l) e.1 = e :: l
  | [], _ => by
    unfold am_go
    simp
  | x :: pre, h => by
    show am_go (x :: (pre ++ e :: l)) e.1 = e :: l
    have h1 := am_wf_lt h e (by simp)
    unfold am_go
    rw [if_neg (by omega)]
    exact am_wf_go pre (am_wf_tl h)
theorem am_wf_sub : ∀ (pre : List am_E) {l : List am_E}, am_wf (pre ++ l) = true → am_wf l = true
  | [], _, h => h
  | _ :: pre, _, h => am_wf_sub pre (am_wf_tl h)
theorem am_go_none : ∀ {code : List am_E} {t : Nat}, (∀ x ∈ code, x.1 ≠ t) → am_go code t = []
  | [], _, _ => rfl
  | x :: c, t, h => by
    unfold am_go
    rw [if_neg (h x (by simp))]
    exact am_go_none fun y hy => h y (List.mem_cons_of_mem _ hy)
theorem am_wf_nx {e : am_E} {l : List am_E} (pre : List am_E) (h : am_wf (pre ++ e :: l) = true) : am_go (pre ++ e :: l) (e.1 + e.2.2.1) = l := by
  have h1 := am_wf_sub pre h
  unfold am_wf at h1
  cases l with
  | nil =>
    simp only [Bool.and_eq_true, decide_eq_true_eq] at h1
    refine am_go_none fun x hx => ?_
    rcases List.mem_append.mp hx with hx | hx
    · obtain ⟨p1, p2, rfl⟩ := List.append_of_mem hx
      have h2 := am_wf_lt (l := p2 ++ [e]) (e := x) (by
        have := am_wf_sub p1 (l := x :: (p2 ++ [e])) (by simpa using h)
        exact this) e (by simp)
      omega
    · simp at hx
      subst hx
      omega
  | cons e' l =>
    simp only [Bool.and_eq_true, decide_eq_true_eq, beq_iff_eq] at h1
    rw [h1.1.2]
    have := am_wf_go (e := e') (l := l) (pre ++ [e]) (by simpa using h)
    simpa using this
theorem am_go_sf : ∀ (code : List am_E) (t : Nat), ∃ pre, code = pre ++ am_go code t
  | [], _ => ⟨[], rfl⟩
  | x :: c, t => by
    unfold am_go
    by_cases hx : x.1 = t
    · exact ⟨[], by simp [hx]⟩
    · obtain ⟨pre, h⟩ := am_go_sf c t
      exact ⟨x :: pre, by rw [if_neg hx]; simp [← h]⟩
theorem am_D_eq (P : Nat → am_T) {d j nl ret : Nat} {code : List am_E} {cuts : List (Nat × Nat)} (hP : P j = (nl, ret, code)) (hw : am_wf code = true) (hc : am_ck code cuts = true) : ∀ (n : Nat) (l : List am_E) (ls st : List am_V) (M : am_M), (∃ pre, code = pre ++ l) → am_D (am_at P d j) (am_m P d) code ret cuts n l ls st M = (match l with
    | [] => none
    | e :: _ => am_at P d j e.1 ls st M)
  | 0, [], _, _, _, _ => rfl
  | n + 1, [], _, _, _, _ => rfl
  | 0, e :: _, _, _, _, _ => rfl
  | n + 1, e :: rest, ls, st, M, ⟨pre, hpre⟩ => by
    have hgo : am_go (P j).2.2 e.1 = e :: rest := by
      rw [hP]
      show am_go code e.1 = _
      rw [hpre]
      exact am_wf_go pre (by rw [← hpre]; exact hw)
    show am_D _ _ _ _ _ _ _ _ _ _ = am_at P d j e.1 ls st M
    rw [am_at_step, hgo]
    unfold am_D
    have hr : (P j).2.1 = ret := by rw [hP]
    rw [hr]
    show am_step _ _ _ _ _ _ _ = am_step (am_at P d j) _ _ _ _ _ _
    congr 1
    funext pc' ls' st' M'
    have hat : ∀ pc l, am_go code pc = l → (match l with
      | [] => none
      | e :: _ => am_at P d j e.1 ls' st' M') = am_at P d j pc ls' st' M' := by
      intro pc l hl
      cases l with
      | nil =>
        rw [am_at_step]
        have : am_go (P j).2.2 pc = [] := by rw [hP]; exact hl
        rw [this]
      | cons x l => rw [← am_go_hd hl]
    cases hq : cuts.find? (fun q => q.1 == pc') with
    | some q =>
      have h1 := List.find?_some hq
      have h2 := List.all_eq_true.mp hc q (List.mem_of_find?_eq_some hq)
      simp only [beq_iff_eq] at h1
      subst h1
      cases hg : am_go code q.1 with
      | nil => rw [hg] at h2; cases h2
      | cons x l =>
        rw [hg] at h2
        simp only [beq_iff_eq] at h2
        exact am_at_ms P d j q.1 (e := x) (l := l) (by rw [hP]; exact hg) h2 ls' st' M'
    | none =>
      dsimp only
      by_cases hn : pc' = e.1 + e.2.2.1
      · rw [if_pos hn, am_D_eq P hP hw hc n rest ls' st' M' ⟨pre ++ [e], by simp [hpre]⟩]
        exact hat pc' rest (by rw [hn, hpre]; exact am_wf_nx pre (by rw [← hpre]; exact hw))
      · rw [if_neg hn, am_D_eq P hP hw hc n (am_go code pc') ls' st' M' (am_go_sf code pc')]
        exact hat pc' _ rfl
theorem am_burst (P : Nat → am_T) {d j nl ret : Nat} {code : List am_E} {cuts : List (Nat × Nat)} (hP : P j = (nl, ret, code)) (hw : am_wf code = true) (hc : am_ck code cuts = true) (n pc : Nat) (ls st : List am_V) (M : am_M) : am_at P d j pc ls st M = am_D (am_at P d j) (am_m P d) code ret cuts n (am_go code pc) ls st M := by
  rw [am_D_eq P hP hw hc n _ ls st M (am_go_sf code pc)]
  cases hg : am_go code pc with
  | nil =>
    rw [am_at_step]
    have : am_go (P j).2.2 pc = [] := by rw [hP]; exact hg
    rw [this]
  | cons x l => rw [← am_go_hd hg]
theorem am_go_at {code pre l : List am_E} {pc : Nat} (hw : am_wf code = true) (hc : code = pre ++ l) (hd : l.head?.map (fun e => e.1) = some pc) : am_go code pc = l := by
  cases l with
  | nil => cases hd
  | cons e l =>
    have : e.1 = pc := Option.some.inj hd
    subst this
    rw [hc]
    exact am_wf_go pre (by rw [← hc]; exact hw)
theorem am_burst2 (P : Nat → am_T) {d j nl ret : Nat} {code l : List am_E} {cuts : List (Nat × Nat)} (hP : P j = (nl, ret, code)) (hw : am_wf code = true) (hc : am_ck code cuts = true) (n pc : Nat) (ls st : List am_V) (M : am_M) (hl : am_go code pc = l) : am_at P d j pc ls st M = am_D (am_at P d j) (am_m P d) code ret cuts n l ls st M := hl ▸ am_burst P hP hw hc n pc ls st M
