/-! the constructors' world is the start's memory -/
def adr (h0 b : Nat) (f1 f2 f4 n : Nat → Nat) (g3 g5 : List (Nat → Nat)) (fm : Nat → Nat) : Nat → Nat := fun i => if i = 0 then h0 else if i < 15 then f1 (i - 1) else if i < 29 then f2 (i - 15) else if i = 29 then n 0 else if i = 30 then n 1 else if i < 255 then (g3.getD ((i - 31) / 14) fun _ => 0) ((i - 31) % 14) else if i < 269 then f4 (i - 255) else if i = 269 then n 2 else if i = 270 then n 3 else if i < 495 then (g5.getD ((i - 271) / 14) fun _ => 0) ((i - 271) % 14) else if i < 504 then n (i - 491) else if i < 517 then fm (i - 504) else b
def pa_e (k3 : ClassId × ClassId × ClassId) (fs : List (Nat → Nat)) : va_E := .inl (k3.2.2, 16, .inr (.inr (.inr (.inr (fun j => (fs[j]?).map (fun f => f 0))))))
def lay_F (g : am_G) (M : am_M) (g3 g5 : List (Nat → Nat)) : Nat → Nat × va_E := fun i => (g.1 i, if i = 30 then pa_e g.2.2.1 g3 else if i = 270 then pa_e g.2.2.1 g5 else am_ce g M i)
section LY
variable {g : am_G} {h0 b : Nat} {f1 f2 f4 n : Nat → Nat} {g3 g5 : List (Nat → Nat)} {fm : Nat → Nat}
theorem lay_st {f : Nat → Nat} {b0 : Nat} (hb : m0b b0) (hf : ∀ o, o < 14 → g.1 (b0 + o) = f o) : ∀ j, j < 14 → (f j, stE g.2.2.1 f j) = lay_F g (m0 g.2.2.2.2 g.2.2.2.1) g3 g5 (b0 + j) := by
  intro j hj
  unfold lay_F
  have hne : b0 + j ≠ 30 ∧ b0 + j ≠ 270 := by
    rcases hb with rfl | rfl | ⟨i, hi, rfl⟩ | rfl | ⟨i, hi, rfl⟩ <;> omega
  rw [if_neg hne.1, if_neg hne.2, hf j hj, ce_st hb hf (fun o ho => m0_st hb ho) j hj]
theorem adr_1 {o : Nat} (ho : o < 14) : adr h0 b f1 f2 f4 n g3 g5 fm (1 + o) = f1 o := by
  unfold adr
  rw [if_neg (by omega), if_pos (by omega), show 1 + o - 1 = o by omega]
theorem adr_15 {o : Nat} (ho : o < 14) : adr h0 b f1 f2 f4 n g3 g5 fm (15 + o) = f2 o := by
  unfold adr
  rw [if_neg (by omega), if_neg (by omega), if_pos (by omega), show 15 + o - 15 = o by omega]
theorem adr_31 {i o : Nat} (hi : i < 16) (ho : o < 14) : adr h0 b f1 f2 f4 n g3 g5 fm (31 + 14 * i + o) = (g3.getD i fun _ => 0) o := by
  unfold adr
  rw [if_neg (by omega), if_neg (by omega), if_neg (by omega), if_neg (by omega), if_neg (by omega), if_pos (by omega), show (31 + 14 * i + o - 31) / 14 = i by omega, show (31 + 14 * i + o - 31) % 14 = o by omega]
theorem adr_255 {o : Nat} (ho : o < 14) : adr h0 b f1 f2 f4 n g3 g5 fm (255 + o) = f4 o := by
  unfold adr
  rw [if_neg (by omega), if_neg (by omega), if_neg (by omega), if_neg (by omega), if_neg (by omega), if_neg (by omega), if_pos (by omega), show 255 + o - 255 = o by omega]
theorem adr_271 {i o : Nat} (hi : i < 16) (ho : o < 14) : adr h0 b f1 f2 f4 n g3 g5 fm (271 + 14 * i + o) = (g5.getD i fun _ => 0) o := by
  unfold adr
  rw [if_neg (by omega), if_neg (by omega), if_neg (by omega), if_neg (by omega), if_neg (by omega), if_neg (by omega), if_neg (by omega), if_neg (by omega), if_neg (by omega), if_pos (by omega), show (271 + 14 * i + o - 271) / 14 = i by omega, show (271 + 14 * i + o - 271) % 14 = o by omega]
theorem adr_504 {o : Nat} (ho : o < 13) : adr h0 b f1 f2 f4 n g3 g5 fm (504 + o) = fm o := by
  unfold adr
  rw [if_neg (by omega), if_neg (by omega), if_neg (by omega), if_neg (by omega), if_neg (by omega), if_neg (by omega), if_neg (by omega), if_neg (by omega), if_neg (by omega), if_neg (by omega), if_neg (by omega), if_pos (by omega), show 504 + o - 504 = o by omega]
theorem lay_ia {i t : Nat} {N : Nat} (ht : am_tg i = t) (ha : am_ar t = some (0, (N : Int))) (hi : 495 ≤ i) (h517 : i ≠ 517) {a : Nat} (hg : g.1 i = a) : (a, ct_ia g.2.2.1 N) = lay_F g (m0 g.2.2.2.2 g.2.2.2.1) g3 g5 i := by
  unfold lay_F
  rw [if_neg (by omega), if_neg (by omega), hg, ce_arr g _ ht ha (by decide), m0_z (by omega) h517]
  rfl
theorem lay_ob {i t : Nat} {a : Nat} {vs : List Value} (ht : am_tg i = t) (ha : am_ar t = none) (hi : i ≠ 30 ∧ i ≠ 270) (hg : g.1 i = a) (hv : (List.range (am_nf t)).map (am_fv g (m0 g.2.2.2.2 g.2.2.2.1) t i) = vs) : (a, Sum.inr (am_cl t, vs)) = lay_F g (m0 g.2.2.2.2 g.2.2.2.1) g3 g5 i := by
  unfold lay_F
  rw [if_neg hi.1, if_neg hi.2, hg, ce_obj g _ ht ha, hv]
set_option maxHeartbeats 4000000 in
theorem lay_mo (hg : g.1 = adr h0 b f1 f2 f4 n g3 g5 fm) : ∀ j, j < 13 → (fm j, moE g.2.2.1 fm j) = lay_F g (m0 g.2.2.2.2 g.2.2.2.1) g3 g5 (504 + j) := by
  have ha : ∀ o, o < 13 → g.1 (504 + o) = fm o := fun o ho => by rw [hg]; exact adr_504 ho
  have hz : ∀ y : Int, m0 g.2.2.2.2 g.2.2.2.1 504 y = 0 := fun y => by rw [m0_z (by omega) (by decide)]
  intro j hj
  rcases (show j = 0 ∨ j = 1 ∨ j = 2 ∨ j = 3 ∨ j = 4 ∨ j = 5 ∨ j = 6 ∨ j = 7 ∨ j = 8 ∨ j = 9 ∨ j = 10 ∨ j = 11 ∨ j = 12 by omega) with rfl | rfl | rfl | rfl | rfl | rfl | rfl | rfl | rfl | rfl | rfl | rfl | rfl
  · refine lay_ob (t := 6) rfl rfl (by decide) (ha 0 (by decide)) ?_
    have e : (List.range (am_nf 6)).map (am_fv g (m0 g.2.2.2.2 g.2.2.2.1) 6 (504 + 0)) = [.ref (g.1 (504 + 1)), .ref (g.1 (504 + 2)), .int (Int32.ofInt (m0 g.2.2.2.2 g.2.2.2.1 504 (2 : Nat))), .ref (g.1 (504 + 3)), .ref (g.1 (504 + 4)), .ref (g.1 (504 + 5)), .ref (g.1 (504 + 6)), .ref (g.1 (504 + 7)), .ref (g.1 (504 + 8)), .int (Int32.ofInt (m0 g.2.2.2.2 g.2.2.2.1 504 (9 : Nat))), .int (Int32.ofInt (m0 g.2.2.2.2 g.2.2.2.1 504 (10 : Nat))), .ref (g.1 (504 + 9)), .ref (g.1 (504 + 10)), .int (Int32.ofInt (m0 g.2.2.2.2 g.2.2.2.1 504 (13 : Nat))), .ref (g.1 (504 + 11)), .ref (g.1 (504 + 12)), .int (Int32.ofInt (m0 g.2.2.2.2 g.2.2.2.1 504 (16 : Nat))), .int (Int32.ofInt (m0 g.2.2.2.2 g.2.2.2.1 504 (17 : Nat))), .int (Int32.ofInt (m0 g.2.2.2.2 g.2.2.2.1 504 (18 : Nat))), .int (Int32.ofInt (m0 g.2.2.2.2 g.2.2.2.1 504 (19 : Nat)))] := rfl
    rw [e, hz, hz, hz, hz, hz, hz, hz, hz, ha 1 (by decide), ha 2 (by decide), ha 3 (by decide), ha 4 (by decide), ha 5 (by decide), ha 6 (by decide), ha 7 (by decide), ha 8 (by decide), ha 9 (by decide), ha 10 (by decide), ha 11 (by decide), ha 12 (by decide)]
    rfl
  · exact lay_ia (t := 19) rfl rfl (by decide) (by decide) (ha 1 (by decide))
  · exact lay_ia (t := 19) rfl rfl (by decide) (by decide) (ha 2 (by decide))
  · exact lay_ia (t := 20) rfl rfl (by decide) (by decide) (ha 3 (by decide))
  · exact lay_ia (t := 10) rfl rfl (by decide) (by decide) (ha 4 (by decide))
  · exact lay_ia (t := 12) rfl rfl (by decide) (by decide) (ha 5 (by decide))
  · exact lay_ia (t := 10) rfl rfl (by decide) (by decide) (ha 6 (by decide))
  · exact lay_ia (t := 12) rfl rfl (by decide) (by decide) (ha 7 (by decide))
  · exact lay_ia (t := 17) rfl rfl (by decide) (by decide) (ha 8 (by decide))
  · exact lay_ia (t := 17) rfl rfl (by decide) (by decide) (ha 9 (by decide))
  · exact lay_ia (t := 17) rfl rfl (by decide) (by decide) (ha 10 (by decide))
  · exact lay_ia (t := 18) rfl rfl (by decide) (by decide) (ha 11 (by decide))
  · exact lay_ia (t := 18) rfl rfl (by decide) (by decide) (ha 12 (by decide))
set_option maxHeartbeats 4000000 in
theorem lay_all (hg : g.1 = adr h0 b f1 f2 f4 n g3 g5 fm) (h3 : g3.length = 16) (h5 : g5.length = 16) : lay (lay_F g (m0 g.2.2.2.2 g.2.2.2.1) g3 g5) 517 (tvL g.2.2.1 h0 f1 f2 f4 n g3 g5 ++ moL g.2.2.1 fm) := by
  have hz : ∀ i : Nat, i = 29 ∨ i = 269 ∨ 495 ≤ i → i ≠ 517 → ∀ y : Int, m0 g.2.2.2.2 g.2.2.2.1 i y = 0 := fun i h1 h2 y => by rw [m0_z h1 h2]
  have a0 : g.1 0 = h0 := by rw [hg]; rfl
  have a1 : g.1 1 = f1 0 := by rw [hg]; rfl
  have a15 : g.1 15 = f2 0 := by rw [hg]; rfl
  have a29 : g.1 29 = n 0 := by rw [hg]; rfl
  have a30 : g.1 30 = n 1 := by rw [hg]; rfl
  have a255 : g.1 255 = f4 0 := by rw [hg]; rfl
  have a269 : g.1 269 = n 2 := by rw [hg]; rfl
  have a270 : g.1 270 = n 3 := by rw [hg]; rfl
  have a495 : g.1 495 = n 4 := by rw [hg]; rfl
  have a496 : g.1 496 = n 5 := by rw [hg]; rfl
  have a497 : g.1 497 = n 6 := by rw [hg]; rfl
  have a498 : g.1 498 = n 7 := by rw [hg]; rfl
  have a499 : g.1 499 = n 8 := by rw [hg]; rfl
  have a500 : g.1 500 = n 9 := by rw [hg]; rfl
  have a501 : g.1 501 = n 10 := by rw [hg]; rfl
  have a502 : g.1 502 = n 11 := by rw [hg]; rfl
  have a503 : g.1 503 = n 12 := by rw [hg]; rfl
  have l0 : lay (lay_F g (m0 g.2.2.2.2 g.2.2.2.1) g3 g5) 0 [] := rfl
  have l1 := lay_one l0 (y := (h0, .inr (5, [.ref (f1 0), .ref (f2 0), .ref (n 0), .ref (f4 0), .ref (n 2), .ref (n 4), .ref (n 7), .ref (n 10), .ref (n 12)]))) (lay_ob (t := 5) rfl rfl (by decide) a0 (by
    have e : (List.range (am_nf 5)).map (am_fv g (m0 g.2.2.2.2 g.2.2.2.1) 5 0) = [.ref (g.1 1), .ref (g.1 15), .ref (g.1 29), .ref (g.1 255), .ref (g.1 269), .ref (g.1 495), .ref (g.1 498), .ref (g.1 501), .ref (g.1 503)] := rfl
    rw [e, a1, a15, a29, a255, a269, a495, a498, a501, a503]))
  have l15 := lay_map l1 14 (lay_st (g3 := g3) (g5 := g5) (f := f1) (b0 := 1) (Or.inl rfl) fun o ho => by rw [hg]; exact adr_1 ho)
  have l29 := lay_map l15 14 (lay_st (g3 := g3) (g5 := g5) (f := f2) (b0 := 15) (Or.inr (Or.inl rfl)) fun o ho => by rw [hg]; exact adr_15 ho)
  have l30 := lay_one l29 (y := (n 0, .inr (1, [.ref (n 1), .int 0]))) (lay_ob (t := 1) rfl rfl (by decide) a29 (by
    have e : (List.range (am_nf 1)).map (am_fv g (m0 g.2.2.2.2 g.2.2.2.1) 1 29) = [.ref (g.1 30), .int (Int32.ofInt (m0 g.2.2.2.2 g.2.2.2.1 29 (1 : Nat)))] := rfl
    rw [e, a30, hz 29 (by decide) (by decide)]
    rfl))
  have l31 := lay_one l30 (y := (n 1, pa_e g.2.2.1 g3)) (by show _ = (g.1 30, pa_e g.2.2.1 g3); rw [a30])
  have l255 := lay_fl (k3 := g.2.2.1) g3 l31 (fun i hi o ho => lay_st (g3 := g3) (g5 := g5) (b0 := 31 + 14 * i) (Or.inr (Or.inr (Or.inl ⟨i, by omega, rfl⟩))) (fun o ho => by rw [hg]; exact adr_31 (by omega) ho) o ho)
  rw [h3] at l255
  have l269 := lay_map l255 14 (lay_st (g3 := g3) (g5 := g5) (f := f4) (b0 := 255) (Or.inr (Or.inr (Or.inr (Or.inl rfl)))) fun o ho => by rw [hg]; exact adr_255 ho)
  have l270 := lay_one l269 (y := (n 2, .inr (1, [.ref (n 3), .int 0]))) (lay_ob (t := 1) rfl rfl (by decide) a269 (by
    have e : (List.range (am_nf 1)).map (am_fv g (m0 g.2.2.2.2 g.2.2.2.1) 1 269) = [.ref (g.1 270), .int (Int32.ofInt (m0 g.2.2.2.2 g.2.2.2.1 269 (1 : Nat)))] := rfl
    rw [e, a270, hz 269 (by decide) (by decide)]
    rfl))
  have l271 := lay_one l270 (y := (n 3, pa_e g.2.2.1 g5)) (by show _ = (g.1 270, pa_e g.2.2.1 g5); rw [a270])
  have l495 := lay_fl (k3 := g.2.2.1) g5 l271 (fun i hi o ho => lay_st (g3 := g3) (g5 := g5) (b0 := 271 + 14 * i) (Or.inr (Or.inr (Or.inr (Or.inr ⟨i, by omega, rfl⟩)))) (fun o ho => by rw [hg]; exact adr_271 (by omega) ho) o ho)
  rw [h5] at l495
  have l496 := lay_one l495 (y := (n 4, .inr (3, [.ref (n 5), .ref (n 6), .int 0]))) (lay_ob (t := 3) rfl rfl (by decide) a495 (by
    have e : (List.range (am_nf 3)).map (am_fv g (m0 g.2.2.2.2 g.2.2.2.1) 3 495) = [.ref (g.1 496), .ref (g.1 497), .int (Int32.ofInt (m0 g.2.2.2.2 g.2.2.2.1 495 (2 : Nat)))] := rfl
    rw [e, a496, a497, hz 495 (by decide) (by decide)]
    rfl))
  have l497 := lay_one l496 (lay_ia (t := 17) rfl rfl (by decide) (by decide) a496)
  have l498 := lay_one l497 (lay_ia (t := 17) rfl rfl (by decide) (by decide) a497)
  have l499 := lay_one l498 (y := (n 7, .inr (3, [.ref (n 8), .ref (n 9), .int 0]))) (lay_ob (t := 7) rfl rfl (by decide) a498 (by
    have e : (List.range (am_nf 7)).map (am_fv g (m0 g.2.2.2.2 g.2.2.2.1) 7 498) = [.ref (g.1 499), .ref (g.1 500), .int (Int32.ofInt (m0 g.2.2.2.2 g.2.2.2.1 498 (2 : Nat)))] := rfl
    rw [e, a499, a500, hz 498 (by decide) (by decide)]
    rfl))
  have l500 := lay_one l499 (lay_ia (t := 18) rfl rfl (by decide) (by decide) a499)
  have l501 := lay_one l500 (lay_ia (t := 18) rfl rfl (by decide) (by decide) a500)
  have l502 := lay_one l501 (y := (n 10, .inr (0, [.ref (n 11), .int 0, .int 0]))) (lay_ob (t := 0) rfl rfl (by decide) a501 (by
    have e : (List.range (am_nf 0)).map (am_fv g (m0 g.2.2.2.2 g.2.2.2.1) 0 501) = [.ref (g.1 502), .int (Int32.ofInt (m0 g.2.2.2.2 g.2.2.2.1 501 (1 : Nat))), .int (Int32.ofInt (m0 g.2.2.2.2 g.2.2.2.1 501 (2 : Nat)))] := rfl
    rw [e, a502, hz 501 (by decide) (by decide), hz 501 (by decide) (by decide)]
    rfl))
  have l503 := lay_one l502 (lay_ia (t := 17) rfl rfl (by decide) (by decide) a502)
  have l504 := lay_one l503 (lay_ia (t := 11) rfl rfl (by decide) (by decide) a503)
  have l517 := lay_map l504 13 (lay_mo (g3 := g3) (g5 := g5) hg)
  refine Eq.mp (congrArg (lay (lay_F g (m0 g.2.2.2.2 g.2.2.2.1) g3 g5) 517) ?_) l517
  unfold tvL paL roL diL moL stL pa_e
  simp only [List.append_assoc, List.cons_append, List.nil_append, List.singleton_append]
end LY
