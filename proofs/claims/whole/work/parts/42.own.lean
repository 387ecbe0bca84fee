/-! A PART OF ONE'S OWN, class and reference alike -/
theorem frC_in (c : Int → Int) : frC c = -1 ∨ (0 ≤ frC c ∧ frC c < 160 ∧ c (frC c + 96) = 0) := by
  rcases fd_spec (p := fun i => c (i + 96) = 0) (dp := fun _ => inferInstance) 160 0 with ⟨h, -⟩ | ⟨h1, h2, h3, -⟩
  · exact Or.inl h
  · exact Or.inr ⟨h1, by unfold frC; omega, h3⟩
/-- the class: the part, or a fresh one -/
theorem ownS_pure (M : am_M) (A : Int → Int) (t kd : Int) (hb : ∀ y, 0 ≤ M 4 y ∧ M 4 y ≤ 1000000 - 8) : ownS M t kd = if cntS (M 4) t = 1 then (t, M) else if frC (M 4) = -1 then (-1, M) else (frC (M 4) + 96, am_st (am_st (am_st M 5 (am_up (M 5) (frC (M 4)) kd)) 4 (nwS kd t (frC (M 4)) A (M 4) (M 6)).2.1) 6 (nwS kd t (frC (M 4)) A (M 4) (M 6)).2.2) := by
  unfold ownS
  rw [frPS_C]
  by_cases h1 : cntS (M 4) t = 1
  · rw [if_pos h1, if_pos h1]
  · rw [if_neg h1, if_neg h1]
    rcases frC_in (M 4) with hf | ⟨f1, f2, -⟩
    · rw [if_pos hf, if_pos hf, if_pos rfl]
    · have hf : frC (M 4) ≠ -1 := by omega
      rw [if_neg hf, if_neg hf, if_neg (by omega), show frC (M 4) + 96 - 96 = frC (M 4) by omega]
      have e4 : am_set M 5 (frC (M 4)) kd 4 = M 4 := set_ne _ _ _ (by decide)
      have e6 : am_set M 5 (frC (M 4)) kd 6 = M 6 := set_ne _ _ _ (by decide)
      have := nw_pure kd t (frC (M 4)) A (am_set M 5 (frC (M 4)) kd) (fun y => by rw [e4]; exact hb y)
      rw [e4, e6] at this
      rw [this]
      rfl
theorem decT_part {t : Int} (h : 96 ≤ t ∧ t < 256) : decT t = t - 96 := if_neg (by omega)
/-- the reference: the part, or a fresh one -/
theorem S_Md_own (d : Nat) {A c kd pl tr ex : Int → Int} {kp t : Int} (h : PI A c kd pl tr ex) (hkp : 0 ≤ kp ∧ kp ≤ 2) (ht : t = -1 ∨ (96 ≤ t ∧ t < 256 ∧ c t ≠ 0 ∧ kd (t - 96) = kp)) (M : am_M) :
    am_m am_P (d + 4) j_Md_own [am_r 6 504, am_i kp, am_i (decT t)] (am_st M 505 (wc A c)) = if cntS c t = 1 then some (some (am_i (decT t)), am_st M 505 (wc A c)) else if frC c = -1 then some (some (am_i (-1)), am_set (am_st M 505 (wc A c)) 504 2 1) else some (some (am_i (frC c)), am_st M 505 (wc (nwS kp t (frC c) A c pl).1 (nwS kp t (frC c) A c pl).2.1)) := by
  show am_at am_P (d + 3) j_Md_own 0 [am_r 6 504, am_i kp, am_i (decT t)] [] (am_st M 505 (wc A c)) = _
  have hn := S_Md_newPart d (A := A) (c := c) (pl := pl) (kdf := kd) (kd := kp) (t := t) hkp (fun x => by have := h.bd x; omega) (by
    rcases ht with ht | ⟨t1, t2, t3, t4⟩
    · exact Or.inl ht
    · refine Or.inr ⟨t1, t2, t3, fun k hk => ?_⟩
      obtain ⟨p, hp⟩ : ∃ p : Nat, t = (p : Int) + 96 := ⟨(t - 96).toNat, by omega⟩
      have e : t - 96 = (p : Int) := by omega
      rw [e] at t4 ⊢
      rw [hp] at t3
      rw [← t4]
      exact ⟨(h.co p (by omega) t3).2 k hk, h.kw.ft (by omega) hk t3⟩) M
  have hret : ∀ X : Option am_O, (X = if frC c = -1 then some (some (am_i (-1)), am_set (am_st M 505 (wc A c)) 504 2 1) else some (some (am_i (frC c)), am_st M 505 (wc (nwS kp t (frC c) A c pl).1 (nwS kp t (frC c) A c pl).2.1))) → (am_bI X fun x2 M1 => some (some (am_i x2), M1)) = if frC c = -1 then some (some (am_i (-1)), am_set (am_st M 505 (wc A c)) 504 2 1) else some (some (am_i (frC c)), am_st M 505 (wc (nwS kp t (frC c) A c pl).1 (nwS kp t (frC c) A c pl).2.1)) := fun X hX => by
    rw [hX]
    by_cases hf : frC c = -1
    · rw [if_pos hf]; rfl
    · rw [if_neg hf]; rfl
  rw [E_Md_own_0]
  rcases ht with ht | ⟨t1, t2, t3, t4⟩
  · have e : decT t = -1 := if_pos ht
    have ec : ¬ cntS c t = 1 := by unfold cntS; rw [if_neg (by omega)]; omega
    rw [if_pos e, if_neg ec]
    exact hret _ hn
  · have e : decT t = t - 96 := decT_part ⟨t1, t2⟩
    have ht2 : 0 ≤ t - 96 ∧ t - 96 < 160 := by omega
    have ec : cntS c t = c t := if_pos ⟨by omega, t2⟩
    have e1 : am_m am_P (d + 3) j_Md_partCount [am_r 6 504, am_i (decT t)] (am_st M 505 (wc A c)) = some (some (am_i (c t)), am_st M 505 (wc A c)) := by
      rw [e, S_Md_partCount (d + 2) ht2, st_eq, wc_p _ _ ht2, show t - 96 + 96 = t by omega]
    rw [if_neg (by omega), e1, bI_some, ec]
    by_cases h1 : c t = 1
    · rw [if_pos h1, if_pos h1]
    · rw [if_neg h1, if_neg h1]
      exact hret _ hn
