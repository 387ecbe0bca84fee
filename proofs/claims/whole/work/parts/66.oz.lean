/-! Beyond the things no count is touched -/
def OZ (M M' : am_M) : Prop := ∀ x : Int, ¬ TA x → M' 4 x = M 4 x
theorem OZ.trans {M M' M'' : am_M} (h : OZ M M') (h' : OZ M' M'') : OZ M M'' := fun x hx => (h' x hx).trans (h x hx)
theorem OZ_rfl (M : am_M) : OZ M M := fun _ _ => rfl
theorem OZ_set {M : am_M} {r : Nat} (hr : r ≠ 4) (j y : Int) : OZ M (am_set M r j y) := fun x _ => by rw [set_ne _ _ _ (fun e => hr e.symm)]
theorem OZ_set4 {M : am_M} {j : Int} (hj : TA j) (y : Int) : OZ M (am_set M 4 j y) := fun x hx => by rw [set_eq, up_ne _ _ (fun e => hx (by rw [e]; exact hj))]
theorem OZ_raise (M : am_M) (t : Int) : OZ M (raiseS M t) := by
  unfold raiseS
  split
  · next h => exact OZ_set4 h _
  · exact OZ_rfl M
theorem OZ_LG : ∀ (n : Nat) (M : am_M) (t : Int), OZ M (LG 4 n M t).2
  | 0, M, t => OZ_rfl M
  | n + 1, M, t => by
    unfold LG
    split
    · next ht =>
      have h1 := OZ_set4 ht (am_wr (M 4 t - 1)) (M := M)
      split
      · split
        · exact h1
        · exact it_inv (σ := Int × am_M) (b := fun k s => (am_wr (s.1 + (LG 4 n s.2 (atS (s.2 6) t k)).1), (LG 4 n s.2 (atS (s.2 6) t k)).2)) (fun _ s => OZ M s.2) 8 0 _ h1 (fun i s _ _ hs => hs.trans (OZ_LG n s.2 _))
      · exact h1
    · exact OZ_rfl M
theorem OZ_hang (M : am_M) (t k x : Int) : OZ M (hangS M t k x) := by
  unfold hangS
  split
  · exact ((OZ_raise M x).trans (OZ_set (by decide) _ _)).trans (OZ_LG 4 _ _)
  · exact OZ_rfl M
theorem OZ_hgT (M : am_M) (v t : Int) : OZ M (hgTS M v t) := by
  unfold hgTS
  split
  · exact ((OZ_raise M t).trans (OZ_set (by decide) _ _)).trans (OZ_LG 4 _ _)
  · exact OZ_rfl M
theorem OZ_own (M : am_M) (t kd : Int) : OZ M (ownS M t kd).2 := by
  unfold ownS
  split
  · exact OZ_rfl M
  · split
    · exact OZ_rfl M
    · exact it_inv (σ := am_M) (b := fun k N => am_set (raiseS N (atS (N 6) t k)) 6 ((frPS M - 96) * 8 + k) (atS (N 6) t k)) (fun _ N => OZ M N) 8 0 _ (OZ_set (by decide) _ _) (fun i s _ _ hs => hs.trans ((OZ_raise s _).trans (OZ_set (by decide) _ _)))
theorem OZ_op (v a low : Int) : ∀ (n : Nat) (M : am_M) (p : Int), OZ M (opS v a low n M p).2
  | 0, M, p => OZ_rfl M
  | n + 1, M, p => by
    unfold opS
    have h1 := OZ_own M (thgS M v a (n + 1)) n
    split
    · exact OZ_rfl M
    · split
      · exact h1
      · refine OZ.trans ?_ (OZ_op v a low n _ _)
        split
        · exact h1
        · split
          · exact h1.trans (OZ_hgT _ _ _)
          · exact h1.trans (OZ_hang _ _ _ _)
theorem OZ_sv (M : am_M) (b x : Int) : OZ M (setValS M b x) := by
  unfold setValS
  split
  · exact OZ_set (by decide) _ _
  · exact OZ_rfl M
theorem OZ_pu (M : am_M) (v a x : Int) : OZ M (puS M v a x).2 := by
  unfold puS
  have h1 := OZ_op v a 0 3 M (-1)
  split
  · exact h1
  · refine h1.trans ?_
    unfold pu2
    split
    · split
      · exact OZ_rfl _
      · exact OZ_hang _ _ _ _
    · split
      · exact OZ_sv _ _ _
      · split
        · exact OZ_sv _ _ _
        · split
          · exact OZ_sv _ _ _
          · exact (OZ_sv _ _ _).trans (OZ_hang _ _ _ _)
theorem OZ_sh (v a : Int) : ∀ (n : Nat) (M : am_M), OZ M (shS v a n M)
  | 0, M => OZ_rfl M
  | n + 1, M => by
    unfold shS
    split
    · exact OZ_rfl M
    · refine OZ.trans ?_ (OZ_sh v a n _)
      split
      · exact OZ_hgT _ _ _
      · exact OZ_hang _ _ _ _
theorem OZ_cl (M : am_M) (v a : Int) : OZ M (clS M v a).2 := by
  unfold clS
  have h1 := OZ_op v a 0 3 M (-1)
  split
  · exact OZ_rfl M
  · split
    · exact h1
    · exact (h1.trans (OZ_hang _ _ _ _)).trans (OZ_sh v a 3 _)
theorem OZ_cpy (M : am_M) (v a w b : Int) : OZ M (cpyS M v a w b).2 := by
  unfold cpyS
  have h1 := OZ_op w b 0 3 M (-1)
  split
  · exact OZ_cl M w b
  · split
    · exact h1
    · exact h1.trans (OZ_hang _ _ _ _)
theorem OZ_mv (M : am_M) (v a b : Int) : OZ M (mvS M v a b).2 := by
  unfold mvS
  split
  · exact OZ_cpy _ _ _ _ _
  · exact (OZ_cpy _ _ _ _ _).trans (OZ_cl _ _ _)
theorem OZ_in (M : am_M) (v a kd t : Int) : OZ M (inS M v a kd t).2 := by
  unfold inS
  have h1 := OZ_op v a kd 3 M (-1)
  split
  · exact h1
  · exact h1.trans (OZ_hang _ _ _ _)
theorem OZ_rs (v sz : Int) : ∀ (n : Nat) (M : am_M), OZ M (rsS v sz n M).2
  | 0, M => OZ_set (by decide) _ _
  | n + 1, M => by
    unfold rsS
    split
    · exact OZ_set (by decide) _ _
    · split
      · exact OZ_cl _ _ _
      · exact (OZ_cl _ _ _).trans (OZ_rs v sz n _)
theorem OZ_ti (r n : Nat) (v : Int) : ∀ (k : Nat) (i : Int) (M : am_M), OZ M (tiS r n v k i M).2
  | 0, i, M => by
    unfold tiS
    split <;> exact OZ_rfl M
  | k + 1, i, M => by
    unfold tiS
    split
    · split
      · split
        · split
          · exact OZ_cl _ _ _
          · exact (OZ_cl _ _ _).trans (OZ_ti r n v k _ _)
        · split
          · exact OZ_pu _ _ _ _
          · exact (OZ_pu _ _ _ _).trans (OZ_ti r n v k _ _)
      · exact OZ_rfl M
    · exact OZ_rfl M
