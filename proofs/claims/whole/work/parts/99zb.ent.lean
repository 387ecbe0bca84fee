/-! from the law's entry to its loop -/
theorem arrV_cg {cA : ClassId} {N : Nat} {z z' : Nat → Value} (h : ∀ j, j < N → z j = z' j) : arrV cA N z = arrV cA N z' := by
  have : (fun j : Fin N => z j.val) = fun j : Fin N => z' j.val := funext fun j => h j.1 j.2
  unfold arrV
  rw [this]
section EN
variable {g : am_G} {h0 b : Nat} {f1 f2 f4 n : Nat → Nat} {g3 g5 : List (Nat → Nat)} {fm : Nat → Nat}
theorem lay_pa {i : Nat} {fs : List (Nat → Nat)} (hi : i = 30 ∨ i = 270) (hfs : fs.length = 16) (ha : ∀ j : Nat, j < 16 → g.1 (m0 g.2.2.2.2 g.2.2.2.1 i j).toNat = (fs.getD j fun _ => 0) 0) {H : Heap} (h : va_at g.2.1 vwCl (g.1 i, pa_e g.2.2.1 fs) H) : va_at g.2.1 vwCl (g.1 i, am_ce g (m0 g.2.2.2.2 g.2.2.2.1) i) H := by
  have ht : am_tg i = 16 := by rcases hi with rfl | rfl <;> rfl
  have ce := ce_ref g (m0 g.2.2.2.2 g.2.2.2.1) ht (show am_ar 16 = some (2, 16) from rfl)
  rw [ce]
  have h' : H[g.1 i]? = some (vp_cell g.2.2.1.2.2 (16, .inr (.inr (.inr (.inr (fun j => (fs[j]?).map (fun f => f 0))))))) := h
  show H[g.1 i]? = some (vp_cell g.2.2.1.2.2 (16, .inr (.inr (.inr (.inr (fun j : Nat => some (g.1 (m0 g.2.2.2.2 g.2.2.2.1 i j).toNat)))))))
  rw [h', vp_cell_q, vp_cell_q]
  congr 1
  refine arrV_cg fun j hj => ?_
  rw [ha j hj, List.getD_eq_getElem?_getD, List.getElem?_eq_getElem (by omega)]
  rfl
theorem lay_P {H : Heap} (hg : g.1 = adr h0 b f1 f2 f4 n g3 g5 fm) (h3 : g3.length = 16) (h5 : g5.length = 16) (hP : va_P g.2.1 vwCl (tvL g.2.2.1 h0 f1 f2 f4 n g3 g5 ++ moL g.2.2.1 fm) H) : va_P g.2.1 vwCl (am_wd g (m0 g.2.2.2.2 g.2.2.2.1)) H := by
  have hl : tvL g.2.2.1 h0 f1 f2 f4 n g3 g5 ++ moL g.2.2.1 fm = (List.range 517).map (lay_F g (m0 g.2.2.2.2 g.2.2.2.1) g3 g5) := lay_all hg h3 h5
  rw [hl] at hP
  intro k q hq
  have hk : k < 517 := by
    have := (List.getElem?_eq_some_iff.mp hq).1
    simpa [am_wd] using this
  rw [wd_at g _ hk] at hq
  cases hq
  have h1 := hP k (lay_F g (m0 g.2.2.2.2 g.2.2.2.1) g3 g5 k) (by rw [List.getElem?_map, List.getElem?_range hk]; rfl)
  by_cases k1 : k = 30
  · subst k1
    refine lay_pa (Or.inl rfl) h3 (fun j hj => ?_) h1
    rw [m0_30]
    dsimp only
    rw [if_pos (by omega), show (31 + 14 * (j : Int)).toNat = 31 + 14 * j + 0 by omega, hg]
    exact adr_31 hj (by decide)
  · by_cases k2 : k = 270
    · subst k2
      refine lay_pa (Or.inr rfl) h5 (fun j hj => ?_) h1
      rw [m0_270]
      dsimp only
      rw [if_pos (by omega), show (271 + 14 * (j : Int)).toNat = 271 + 14 * j + 0 by omega, hg]
      exact adr_271 hj (by decide)
    · unfold lay_F at h1
      rw [if_neg k1, if_neg k2] at h1
      exact h1
theorem lay_gok {A : Nat → Prop} (hg : g.1 = adr h0 b f1 f2 f4 n g3 g5 fm) (h3 : g3.length = 16) (h5 : g5.length = 16) (hD : va_D A (tvL g.2.2.1 h0 f1 f2 f4 n g3 g5 ++ moL g.2.2.1 fm)) (hb : ¬ A b) : am_gok g ∧ (∀ i, i < 517 → A (g.1 i)) ∧ g.1 517 = b := by
  have hl : tvL g.2.2.1 h0 f1 f2 f4 n g3 g5 ++ moL g.2.2.1 fm = (List.range 517).map (lay_F g (m0 g.2.2.2.2 g.2.2.2.1) g3 g5) := lay_all hg h3 h5
  rw [hl] at hD
  have hat : ∀ k, k < 517 → ((List.range 517).map (lay_F g (m0 g.2.2.2.2 g.2.2.2.1) g3 g5))[k]? = some (lay_F g (m0 g.2.2.2.2 g.2.2.2.1) g3 g5 k) := fun k hk => by
    rw [List.getElem?_map, List.getElem?_range hk]; rfl
  have hA : ∀ i, i < 517 → A (g.1 i) := fun i hi => hD.2 i _ (hat i hi)
  have h517 : g.1 517 = b := by rw [hg]; rfl
  refine ⟨fun i j hi hj hij => ?_, hA, h517⟩
  rcases Nat.lt_or_ge i 517 with i1 | i1
  · rcases Nat.lt_or_ge j 517 with j1 | j1
    · exact hD.1 i j _ _ (hat i i1) (hat j j1) hij
    · have : j = 517 := by omega
      subst this
      rw [h517] at hij
      exact absurd (hij ▸ hA i i1) hb
  · have : i = 517 := by omega
    subst this
    rcases Nat.lt_or_ge j 517 with j1 | j1
    · rw [h517] at hij
      exact absurd (hij ▸ hA j j1) hb
    · omega
end EN
theorem sk_eq (i : ClassFile.Instr) : am_sk0 i = am_skip i := by cases i <;> rfl
theorem k_Lw : ∀ e0 ∈ (am_P j_Lw_law).2.2, decode code e0.1 = .ok (e0.2.1, e0.2.2.1) ∧ (am_skip e0.2.1 = true ∨ (am_lc 10 e0 = true ∧ am_lx 4 e0 = true)) := by
  rw [P_Lw_law]
  intro e0 he
  rcases List.mem_append.mp (show e0 ∈ c_Lw_k0 ++ c_Lw_r1 from he) with h | h
  · obtain ⟨h1, h2⟩ := k_Lw_k0 e0 h
    exact ⟨h1, by rw [← sk_eq]; exact h2⟩
  · obtain ⟨h1, h2⟩ := k_Lw_r1 e0 h
    exact ⟨h1, Or.inr h2⟩
theorem wi_all : ∀ (k : Nat) (q : vw_C), vwCl[k]? = some q → Cond.instantiable q.1 q.2.2 ∈ am_gd := by
  intro k q hq
  match k, hq with
  | 0, hq => cases hq; exact wi_0
  | 1, hq => cases hq; exact wi_1
  | 2, hq => cases hq; exact wi_2
  | 3, hq => cases hq; exact wi_3
  | 4, hq => cases hq; exact wi_4
  | 5, hq => cases hq; exact wi_5
  | 6, hq => cases hq; exact wi_6
  | k + 7, hq => simp [vwCl] at hq
/-- what the tables say of the classes, at the entry -/
theorem ct_known {s : State} {args : Array Value} (hts : ∀ w ∈ lw_tbl, w.before args s = true) : ∃ (D : va_G) (k3 : ClassId × ClassId × ClassId), ct_K D k3 s := by
  have hts' : ∀ w ∈ am_gd, w.before args s = true := fun w hw => hts w (List.mem_filter.mp hw).1
  have h1 : ∀ k : Nat, ∃ (cC : ClassId) (iS : Nat → Nat), ∀ q : vw_C, vwCl[k]? = some q → u_Kn s q.1 q.2.1 q.2.2 cC iS := fun k => by
    cases hq : vwCl[k]? with
    | none => exact ⟨0, fun _ => 0, fun q h => by cases h⟩
    | some q =>
      obtain ⟨cC, iS, h⟩ := u_known hts' (cls_all hq).1 (hts' _ (wi_all k q hq))
      exact ⟨cC, iS, fun q' h' => by cases h'; exact h⟩
  obtain ⟨cI, kI, compI, i1, i2, i3⟩ := Cond.arrayClass_spec (hts _ (List.mem_of_getElem? (i := 151) (by decide +kernel)) : (Cond.arrayClass .int).before args s = true)
  obtain ⟨cZ, kZ, compZ, z1, z2, z3⟩ := Cond.arrayClass_spec (hts _ (List.mem_of_getElem? (i := 206) (by decide +kernel)) : (Cond.arrayClass .boolean).before args s = true)
  have hov : (Cond.arrayOver (.object "ThinVolumes$State")).before args s = true := hts _ (List.mem_of_getElem? (i := 214) (by decide +kernel))
  obtain ⟨compS, cS, kS, s1, s2, s3, s4, s5⟩ := Cond.arrayOver_spec hov
  refine ⟨(fun k => Classical.choose (h1 k), fun k => Classical.choose (Classical.choose_spec (h1 k))), (cI, cZ, cS), ⟨fun k q hq => Classical.choose_spec (Classical.choose_spec (h1 k)) q hq, fun k q hk => ?_⟩, ?_, ?_, va_AO.of hov⟩
  · match k, hk with
    | 0, hk => cases hk; exact ⟨fun N z => ⟨fun k h => (by cases h), kI, i2, compI, i3⟩, i1⟩
    | 1, hk => cases hk; exact ⟨fun N z => ⟨fun k h => (by cases h), kZ, z2, compZ, z3⟩, z1⟩
    | 2, hk => cases hk; exact ⟨fun N z => ⟨fun k h => (by cases h), kS, s3, compS, s4⟩, kS, compS, s3, s4, s1, s5⟩
    | k + 3, hk => simp at hk
  · exact va_Nw.of rfl (hts _ (List.mem_of_getElem? (i := 132) (by decide +kernel)))
  · exact va_Nw.of rfl (hts _ (List.mem_of_getElem? (i := 247) (by decide +kernel)))
