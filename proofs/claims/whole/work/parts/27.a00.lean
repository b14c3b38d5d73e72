/-! calls: questions -/
theorem op_told {np nr nt nf : Nat} {M : Mem} (h : IV np nr nt nf M) (x1 : Int32) : EO_told M np nr nt nf x1 ∧ Ag 1 0 (e_told M np nr nt nf x1) (fun N => KO_told N x1) (fun N => K_told N x1) := by
  obtain ⟨⟨z1, z2, z3, z4⟩, ⟨s1, s2, s3, s4⟩, ⟨c1, c2, c3, c4⟩, ⟨t1, t2, t3⟩, hL, hDd, hH, hI, hTP, ⟨b1, b2, b3, b4, b5⟩, hBK⟩ := id h
  obtain ⟨hD, -⟩ := id hDd
  have hd := DR_take (s := M.1 72) hD z3 z4
  have q20 : upd (M.1 54) 0 (nI 0) 20 = nI np := by rw [pk_un (by decide)]; exact c1
  have q21 : upd (M.1 54) 0 (nI 0) 21 = nI nr := by rw [pk_un (by decide)]; exact c2
  have q22 : upd (M.1 54) 0 (nI 0) 22 = nI nt := by rw [pk_un (by decide)]; exact c3
  have q23 : upd (M.1 54) 0 (nI 0) 23 = nI nf := by rw [pk_un (by decide)]; exact c4
  have i20 : ix (nI np) = np := pu_ix (by omega)
  have i21 : ix (nI nr) = nr := pu_ix (by omega)
  have i22 : ix (nI nt) = nt := pu_ix (by omega)
  have i23 : ix (nI nf) = nf := pu_ix (by omega)
  have n20 : isN (nI np) := pu_isN (by omega)
  have n21 : isN (nI nr) := pu_isN (by omega)
  have n22 : isN (nI nt) := pu_isN (by omega)
  have n23 : isN (nI nf) := pu_isN (by omega)
  have hz : SZ np nr nt nf := ⟨z1, z2, z3, z4⟩
  by_cases hx1 : ¬ x1 < nI 0 ∧ x1 ≤ nI 11
  · skip
    refine ⟨⟨z1, s1, z2, s2, z3, s3, z4, s4⟩, ?_⟩
    obtain ⟨k, hk, rfl⟩ := pu_le2 (n := 11) (by omega) (by rw [← nI_0]; exact hx1.1) hx1.2
    have hk9 : k = 0 ∨ k = 1 ∨ k = 2 ∨ k = 3 ∨ k = 4 ∨ k = 5 ∨ k = 6 ∨ k = 7 ∨ k = 8 ∨ k = 9 ∨ k = 10 ∨ k = 11 := by omega
    have n01 : ∀ {a b : Nat}, a < 100 → b < 100 → (nI a = nI b) = (a = b) := fun ha hb => propext (pu_eqi (by omega) (by omega))
    have n02 : ∀ {a b : Nat}, a < 100 → b < 100 → (nI a ≤ nI b) = (a ≤ b) := fun ha hb => propext (pu_lei (by omega) (by omega))
    have n03 : ∀ {a : Nat}, a < 100 → (nI a = 0) = (a = 0) := fun ha => propext (by rw [← nI_0]; exact pu_eqi (by omega) (by omega))
    have key : ∀ (v : Int32), e_told M np nr nt nf (nI k) = .inl (some (.int v), M) → KO_told (M) (nI k) → (K_told (M) (nI k)).1 = v → Ag 1 0 (e_told M np nr nt nf (nI k)) (fun N => KO_told N (nI k)) (fun N => K_told N (nI k)) := by
      intro v e1 e0 e2
      refine Ag.good h _ (M) v e1 e0 e2 ?_ ?_ ?_ ?_
      · simp only [K_told, k_told, mrow_hit, mrow_miss, ne_eq, Nat.reduceEqDiff, not_false_eq_true, reduceCtorEq, wi_t hx1, may1_t (t0 _), if_neg pu_n10, if_neg pu_n20, q20, q21, q22, q23, i20, i21, i22, i23, n20, n21, n22, n23]
        repeat' split
        all_goals rfl
      · simp only [K_told, k_told, mrow_hit, mrow_miss, ne_eq, Nat.reduceEqDiff, not_false_eq_true, reduceCtorEq, wi_t hx1, may1_t (t0 _), if_neg pu_n10, if_neg pu_n20, q20, q21, q22, q23, i20, i21, i22, i23, n20, n21, n22, n23]
        repeat' split
        all_goals rfl
      · simp only [K_told, mrow_hit, mrow_miss, ne_eq, Nat.reduceEqDiff, not_false_eq_true, reduceCtorEq]
      · intro c hc
        simp only [K_told]
        rw [mrow_miss _ _ (scr_ne hc rfl), mrow_miss _ _ (scr_ne hc rfl), mrow_miss _ _ (scr_ne hc rfl)]
    have hko : KO_told M (nI k) := by
      simp (disch := omega) only [KO_told, k_told_ok, mrow_hit, mrow_miss, ne_eq, Nat.reduceEqDiff, not_false_eq_true, reduceCtorEq, wi_t hx1, may1_t (t0 _), if_neg pu_n10, if_neg pu_n20, q20, q21, q22, q23, i20, i21, i22, i23, n20, n21, n22, n23, z1, z2, z3, z4, c1, c2, c3, c4, take_ok, true_and, and_true, and_self]
      repeat' split
      all_goals trivial
    rcases hk9 with rfl | rfl | rfl | rfl | rfl | rfl | rfl | rfl | rfl | rfl | rfl | rfl
    · exact key _ (by simp (disch := omega) only [e_told, ↓if_pos hx1, n01, n02, n03, Nat.reduceEqDiff, Nat.reduceLeDiff, ↓reduceIte]; rfl) hko (by simp (disch := omega) only [K_told, k_told, mrow_hit, mrow_miss, ne_eq, Nat.reduceEqDiff, not_false_eq_true, reduceCtorEq, wi_t hx1, may1_t (t0 _), if_neg pu_n10, if_neg pu_n20, q20, q21, q22, q23, i20, i21, i22, i23, n20, n21, n22, n23, n01, n02, n03, Nat.reduceEqDiff, Nat.reduceLeDiff, ↓reduceIte, pk_un, c1])
    · exact key _ (by simp (disch := omega) only [e_told, ↓if_pos hx1, n01, n02, n03, Nat.reduceEqDiff, Nat.reduceLeDiff, ↓reduceIte]; rfl) hko (by simp (disch := omega) only [K_told, k_told, mrow_hit, mrow_miss, ne_eq, Nat.reduceEqDiff, not_false_eq_true, reduceCtorEq, wi_t hx1, may1_t (t0 _), if_neg pu_n10, if_neg pu_n20, q20, q21, q22, q23, i20, i21, i22, i23, n20, n21, n22, n23, n01, n02, n03, Nat.reduceEqDiff, Nat.reduceLeDiff, ↓reduceIte, pk_un, c2])
    · exact key _ (by simp (disch := omega) only [e_told, ↓if_pos hx1, n01, n02, n03, Nat.reduceEqDiff, Nat.reduceLeDiff, ↓reduceIte]; rfl) hko (by simp (disch := omega) only [K_told, k_told, mrow_hit, mrow_miss, ne_eq, Nat.reduceEqDiff, not_false_eq_true, reduceCtorEq, wi_t hx1, may1_t (t0 _), if_neg pu_n10, if_neg pu_n20, q20, q21, q22, q23, i20, i21, i22, i23, n20, n21, n22, n23, n01, n02, n03, Nat.reduceEqDiff, Nat.reduceLeDiff, ↓reduceIte, pk_un, c3])
    · exact key _ (by simp (disch := omega) only [e_told, ↓if_pos hx1, n01, n02, n03, Nat.reduceEqDiff, Nat.reduceLeDiff, ↓reduceIte]; rfl) hko (by simp (disch := omega) only [K_told, k_told, mrow_hit, mrow_miss, ne_eq, Nat.reduceEqDiff, not_false_eq_true, reduceCtorEq, wi_t hx1, may1_t (t0 _), if_neg pu_n10, if_neg pu_n20, q20, q21, q22, q23, i20, i21, i22, i23, n20, n21, n22, n23, n01, n02, n03, Nat.reduceEqDiff, Nat.reduceLeDiff, ↓reduceIte, pk_un, c4])
    · exact key _ (by simp (disch := omega) only [e_told, ↓if_pos hx1, n01, n02, n03, Nat.reduceEqDiff, Nat.reduceLeDiff, ↓reduceIte]; rfl) hko (by simp (disch := omega) only [K_told, k_told, mrow_hit, mrow_miss, ne_eq, Nat.reduceEqDiff, not_false_eq_true, reduceCtorEq, wi_t hx1, may1_t (t0 _), if_neg pu_n10, if_neg pu_n20, q20, q21, q22, q23, i20, i21, i22, i23, n20, n21, n22, n23, n01, n02, n03, Nat.reduceEqDiff, Nat.reduceLeDiff, ↓reduceIte]; exact hd.1)
    · exact key _ (by simp (disch := omega) only [e_told, ↓if_pos hx1, n01, n02, n03, Nat.reduceEqDiff, Nat.reduceLeDiff, ↓reduceIte]; rfl) hko (by simp (disch := omega) only [K_told, k_told, mrow_hit, mrow_miss, ne_eq, Nat.reduceEqDiff, not_false_eq_true, reduceCtorEq, wi_t hx1, may1_t (t0 _), if_neg pu_n10, if_neg pu_n20, q20, q21, q22, q23, i20, i21, i22, i23, n20, n21, n22, n23, n01, n02, n03, Nat.reduceEqDiff, Nat.reduceLeDiff, ↓reduceIte]; exact ah_eq hd)
    · exact key _ (by simp (disch := omega) only [e_told, ↓if_pos hx1, n01, n02, n03, Nat.reduceEqDiff, Nat.reduceLeDiff, ↓reduceIte]; rfl) hko (by simp (disch := omega) only [K_told, k_told, mrow_hit, mrow_miss, ne_eq, Nat.reduceEqDiff, not_false_eq_true, reduceCtorEq, wi_t hx1, may1_t (t0 _), if_neg pu_n10, if_neg pu_n20, q20, q21, q22, q23, i20, i21, i22, i23, n20, n21, n22, n23, n01, n02, n03, Nat.reduceEqDiff, Nat.reduceLeDiff, ↓reduceIte, k_owing, d_even, show nI 6 - nI 6 = 0 from by decide]; exact ev_eq nf (fun a ha => (hd.2.1 a ha).2.1))
    · exact key _ (by simp (disch := omega) only [e_told, ↓if_pos hx1, n01, n02, n03, Nat.reduceEqDiff, Nat.reduceLeDiff, ↓reduceIte]; rfl) hko (by simp (disch := omega) only [K_told, k_told, mrow_hit, mrow_miss, ne_eq, Nat.reduceEqDiff, not_false_eq_true, reduceCtorEq, wi_t hx1, may1_t (t0 _), if_neg pu_n10, if_neg pu_n20, q20, q21, q22, q23, i20, i21, i22, i23, n20, n21, n22, n23, n01, n02, n03, Nat.reduceEqDiff, Nat.reduceLeDiff, ↓reduceIte, k_owing, d_owing, show nI 7 - nI 6 = nI 1 from by decide]; exact ow_eq nf (fun a ha => (hd.2.1 a ha).2.1))
    · exact key _ (by simp (disch := omega) only [e_told, ↓if_pos hx1, n01, n02, n03, Nat.reduceEqDiff, Nat.reduceLeDiff, ↓reduceIte]; rfl) hko (by simp (disch := omega) only [K_told, k_told, mrow_hit, mrow_miss, ne_eq, Nat.reduceEqDiff, not_false_eq_true, reduceCtorEq, wi_t hx1, may1_t (t0 _), if_neg pu_n10, if_neg pu_n20, q20, q21, q22, q23, i20, i21, i22, i23, n20, n21, n22, n23, n01, n02, n03, Nat.reduceEqDiff, Nat.reduceLeDiff, ↓reduceIte]; exact lw_eq hd t1)
    · exact key _ (by simp (disch := omega) only [e_told, ↓if_pos hx1, n01, n02, n03, Nat.reduceEqDiff, Nat.reduceLeDiff, ↓reduceIte]; rfl) hko (by simp (disch := omega) only [K_told, k_told, mrow_hit, mrow_miss, ne_eq, Nat.reduceEqDiff, not_false_eq_true, reduceCtorEq, wi_t hx1, may1_t (t0 _), if_neg pu_n10, if_neg pu_n20, q20, q21, q22, q23, i20, i21, i22, i23, n20, n21, n22, n23, n01, n02, n03, Nat.reduceEqDiff, Nat.reduceLeDiff, ↓reduceIte, pk_un, b2])
    · exact key _ (by simp (disch := omega) only [e_told, ↓if_pos hx1, n01, n02, n03, Nat.reduceEqDiff, Nat.reduceLeDiff, ↓reduceIte]; rfl) hko (by simp (disch := omega) only [K_told, k_told, mrow_hit, mrow_miss, ne_eq, Nat.reduceEqDiff, not_false_eq_true, reduceCtorEq, wi_t hx1, may1_t (t0 _), if_neg pu_n10, if_neg pu_n20, q20, q21, q22, q23, i20, i21, i22, i23, n20, n21, n22, n23, n01, n02, n03, Nat.reduceEqDiff, Nat.reduceLeDiff, ↓reduceIte, pk_un, b3])
    · exact key _ (by simp (disch := omega) only [e_told, ↓if_pos hx1, n01, n02, n03, Nat.reduceEqDiff, Nat.reduceLeDiff, ↓reduceIte]; rfl) hko (by simp (disch := omega) only [K_told, k_told, mrow_hit, mrow_miss, ne_eq, Nat.reduceEqDiff, not_false_eq_true, reduceCtorEq, wi_t hx1, may1_t (t0 _), if_neg pu_n10, if_neg pu_n20, q20, q21, q22, q23, i20, i21, i22, i23, n20, n21, n22, n23, n01, n02, n03, Nat.reduceEqDiff, Nat.reduceLeDiff, ↓reduceIte, k_sumOf_44, d_shames]; exact sh_eq nf (fun a ha => (hd.2.1 a ha).2.2.2.2))
  · refine ⟨⟨z1, s1, z2, s2, z3, s3, z4, s4⟩, ?_⟩
    refine Ag.bad1 h (by decide) _ (by simp only [e_told, if_neg hx1]) ?_ ?_ ?_ ?_ ?_
    · simp only [KO_told, k_told_ok, mrow_hit, mrow_miss, ne_eq, Nat.reduceEqDiff, not_false_eq_true, reduceCtorEq, wi_f hx1, may1_f (t0 _) pu_n10, if_neg pu_n10, if_neg pu_n20, if_pos pu_n01, q20, q21, q22, q23, i20, i21, i22, i23, n20, n21, n22, n23, z1, z2, z3, z4, c1, c2, c3, c4, take_ok, and_self, true_and, and_true]
    · simp only [K_told, k_told, mrow_hit, mrow_miss, ne_eq, Nat.reduceEqDiff, not_false_eq_true, reduceCtorEq, wi_f hx1, may1_f (t0 _) pu_n10, if_neg pu_n10, if_neg pu_n20, if_pos pu_n01, q20, q21, q22, q23, i20, i21, i22, i23, n20, n21, n22, n23]
    · simp only [K_told, k_told, mrow_hit, mrow_miss, ne_eq, Nat.reduceEqDiff, not_false_eq_true, reduceCtorEq, wi_f hx1, may1_f (t0 _) pu_n10, if_neg pu_n10, if_neg pu_n20, if_pos pu_n01, q20, q21, q22, q23, i20, i21, i22, i23, n20, n21, n22, n23]
    · simp only [K_told, mrow_hit, mrow_miss, ne_eq, Nat.reduceEqDiff, not_false_eq_true, reduceCtorEq]
    · intro c hc
      simp only [K_told]
      rw [mrow_miss _ _ (scr_ne hc rfl), mrow_miss _ _ (scr_ne hc rfl), mrow_miss _ _ (scr_ne hc rfl), mrow_miss _ _ (scr_ne hc rfl)]
