/-! calls: questions -/
theorem op_told {np nr nt nf : Nat} {M : Mem} (h : IV np nr nt nf M) (x1 : Int32) : EO_told M np nr nt nf x1 ∧ Ag 1 0 (e_told M np nr nt nf x1) (fun N => KO_told N x1) (fun N => K_told N x1) := by
  obtain ⟨⟨z1, z2, z3, z4⟩, ⟨s1, s2, s3, s4⟩, ⟨c1, c2, c3, c4⟩, ⟨t1, t2, t3⟩, hL, hDd, hH, hI, hTP, ⟨b1, b2, b3, b4, b5⟩, hBK⟩ := id h
  obtain ⟨hD, -⟩ := id hDd
  have hd := DR_take (s := M.1 72) hD z3 z4
  have q20 : upd (M.1 54) 0 (nI 0) 20 = nI np := by rw [pk_un (by decide)]; exact c1
  have q21 : upd (M.1 54) 0 (nI 0) 21 = nI nr := by rw [pk_un (by decide)]; exact c2
  have q22 : upd (M.1 54) 0 (nI 0) 22 = nI nt := by rw [pk_un (by decide)]; exact c3
  have q23 : upd (M.1 54) 0 (nI 0) 23 = nI nf := by rw [pk_un (by decide)]; exact c4
  have i20 : ix (nI np) = np := pu_ix (by omega)
  have i21 : ix (nI nr) = nr := pu_ix (by omega)
  have i22 : ix (nI nt) = nt := pu_ix (by omega)
  have i23 : ix (nI nf) = nf := pu_ix (by omega)
  have n20 : isN (nI np) := pu_isN (by omega)
  have n21 : isN (nI nr) := pu_isN (by omega)
  have n22 : isN (nI nt) := pu_isN (by omega)
  have n23 : isN (nI nf) := pu_isN (by omega)
  have hz : SZ np nr nt nf := ⟨z1, z2, z3, z4⟩
  by_cases hx1 : ¬ x1 < nI 0 ∧ x1 ≤ nI 11
  · skip
    refine ⟨⟨z1, s1, z2, s2, z3, s3, z4, s4⟩, ?_⟩
    obtain ⟨k, hk, rfl⟩ := pu_le2 (n := 11) (by omega) (by rw [← nI_0]; exact hx1.1) hx1.2
    have hk9 : k = 0 ∨ k = 1 ∨ k = 2 ∨ k = 3 ∨ k = 4 ∨ k = 5 ∨ k = 6 ∨ k = 7 ∨ k = 8 ∨ k = 9 ∨ k = 10 ∨ k = 11 := by omega
    have n01 : ∀ {a b : Nat}, a < 100 → b < 100 → (nI a = nI b) = (a = b) := fun ha hb => propext (pu_eqi (by omega) (by omega))
    have n02 : ∀ {a b : Nat}, a < 100 → b < 100 → (nI a ≤ nI b) = (a ≤ b) := fun ha hb => propext (pu_lei (by omega) (by omega))
    have n03 : ∀ {a : Nat}, a < 100 → (nI a = 0) = (a = 0) := fun ha => propext (by rw [← nI_0]; exact pu_eqi (by omega) (by omega))
    have key : ∀ (v : Int32), e_told M np nr nt nf x1 = .inl (some (.int v), M) → KO_told (M) x1 → (K_told (M) x1).1 = v → Ag 1 0 (e_told M np nr nt nf x1) (fun N => KO_told N x1) (fun N => K_told N x1) := by
      intro v e1 e0 e2
      refine Ag.good h _ (M) v e1 e0 e2 ?_ ?_ ?_ ?_
      · simp only [K_told, k_told, mrow_hit, mrow_miss, ne_eq, Nat.reduceEqDiff, not_false_eq_true, reduceCtorEq, wi_t hx1, may1_t (t0 _), if_neg pu_n10, if_neg pu_n20]
        repeat' split
        all_goals rfl
      · simp only [K_told, k_told, mrow_hit, mrow_miss, ne_eq, Nat.reduceEqDiff, not_false_eq_true, reduceCtorEq, wi_t hx1, may1_t (t0 _), if_neg pu_n10, if_neg pu_n20]
        repeat' split
        all_goals rfl
      · simp only [K_told, mrow_hit, mrow_miss, ne_eq, Nat.reduceEqDiff, not_false_eq_true, reduceCtorEq]
      · intro c hc
        simp only [K_told]
        rw [mrow_miss _ _ (scr_ne hc rfl), mrow_miss _ _ (scr_ne hc rfl), mrow_miss _ _ (scr_ne hc rfl)]
    have hko : KO_told M x1 := by
      simp (disch := omega) only [KO_told, k_told_ok, mrow_hit, mrow_miss, ne_eq, Nat.reduceEqDiff, not_false_eq_true, reduceCtorEq, wi_t hx1, may1_t (t0 _), if_neg pu_n10, if_neg pu_n20, q20, q21, q22, q23, i20, i21, i22, i23, n20, n21, n22, n23, z1, z2, z3, z4, c1, c2, c3, c4, take_ok, true_and, and_true, and_self]
      repeat' split
      all_goals trivial
    rcases hk9 with rfl | rfl | rfl | rfl | rfl | rfl | rfl | rfl | rfl | rfl | rfl | rfl
    · exact key _ (by simp (disch := omega) only [e_told, if_pos hx1, n01, n02, n03, Nat.reduceEqDiff, Nat.reduceLeDiff, ↓reduceIte]) hko (by simp (disch := omega) only [K_told, k_told, mrow_hit, mrow_miss, ne_eq, Nat.reduceEqDiff, not_false_eq_true, reduceCtorEq, wi_t hx1, may1_t (t0 _), if_neg pu_n10, if_neg pu_n20, q20, q21, q22, q23, i20, i21, i22, i23, n20, n21, n22, n23, n01, n02, n03, Nat.reduceEqDiff, Nat.reduceLeDiff, ↓reduceIte, pk_un, c1])
    · exact key _ (by simp (disch := omega) only [e_told, if_pos hx1, n01, n02, n03, Nat.reduceEqDiff, Nat.reduceLeDiff, ↓reduceIte]) hko (by simp (disch := omega) only [K_told, k_told, mrow_hit, mrow_miss, ne_eq, Nat.reduceEqDiff, not_false_eq_true, reduceCtorEq, wi_t hx1, may1_t (t0 _), if_neg pu_n10, if_neg pu_n20, q20, q21, q22, q23, i20, i21, i22, i23, n20, n21, n22, n23, n01, n02, n03, Nat.reduceEqDiff, Nat.reduceLeDiff, ↓reduceIte, pk_un, c2])
    · exact key _ (by simp (disch := omega) only [e_told, if_pos hx1, n01, n02, n03, Nat.reduceEqDiff, Nat.reduceLeDiff, ↓reduceIte]) hko (by simp (disch := omega) only [K_told, k_told, mrow_hit, mrow_miss, ne_eq, Nat.reduceEqDiff, not_false_eq_true, reduceCtorEq, wi_t hx1, may1_t (t0 _), if_neg pu_n10, if_neg pu_n20, q20, q21, q22, q23, i20, i21, i22, i23, n20, n21, n22, n23, n01, n02, n03, Nat.reduceEqDiff, Nat.reduceLeDiff, ↓reduceIte, pk_un, c3])
    · exact key _ (by simp (disch := omega) only [e_told, if_pos hx1, n01, n02, n03, Nat.reduceEqDiff, Nat.reduceLeDiff, ↓reduceIte]) hko (by simp (disch := omega) only [K_told, k_told, mrow_hit, mrow_miss, ne_eq, Nat.reduceEqDiff, not_false_eq_true, reduceCtorEq, wi_t hx1, may1_t (t0 _), if_neg pu_n10, if_neg pu_n20, q20, q21, q22, q23, i20, i21, i22, i23, n20, n21, n22, n23, n01, n02, n03, Nat.reduceEqDiff, Nat.reduceLeDiff, ↓reduceIte, pk_un, c4])
    · exact key _ (by simp (disch := omega) only [e_told, if_pos hx1, n01, n02, n03, Nat.reduceEqDiff, Nat.reduceLeDiff, ↓reduceIte]) hko (by simp (disch := omega) only [K_told, k_told, mrow_hit, mrow_miss, ne_eq, Nat.reduceEqDiff, not_false_eq_true, reduceCtorEq, wi_t hx1, may1_t (t0 _), if_neg pu_n10, if_neg pu_n20, q20, q21, q22, q23, i20, i21, i22, i23, n20, n21, n22, n23, n01, n02, n03, Nat.reduceEqDiff, Nat.reduceLeDiff, ↓reduceIte]; exact hd.1)
    · exact key _ (by simp (disch := omega) only [e_told, if_pos hx1, n01, n02, n03, Nat.reduceEqDiff, Nat.reduceLeDiff, ↓reduceIte]) hko (by simp (disch := omega) only [K_told, k_told, mrow_hit, mrow_miss, ne_eq, Nat.reduceEqDiff, not_false_eq_true, reduceCtorEq, wi_t hx1, may1_t (t0 _), if_neg pu_n10, if_neg pu_n20, q20, q21, q22, q23, i20, i21, i22, i23, n20, n21, n22, n23, n01, n02, n03, Nat.reduceEqDiff, Nat.reduceLeDiff, ↓reduceIte]; exact ah_eq hd)
    · exact key _ (by simp (disch := omega) only [e_told, if_pos hx1, n01, n02, n03, Nat.reduceEqDiff, Nat.reduceLeDiff, ↓reduceIte]) hko (by simp (disch := omega) only [K_told, k_told, mrow_hit, mrow_miss, ne_eq, Nat.reduceEqDiff, not_false_eq_true, reduceCtorEq, wi_t hx1, may1_t (t0 _), if_neg pu_n10, if_neg pu_n20, q20, q21, q22, q23, i20, i21, i22, i23, n20, n21, n22, n23, n01, n02, n03, Nat.reduceEqDiff, Nat.reduceLeDiff, ↓reduceIte, k_owing, d_even, show nI 6 - nI 6 = 0 from by decide]; exact ev_eq nf (fun a ha => (hd.2.1 a ha).2.1))
    · exact key _ (by simp (disch := omega) only [e_told, if_pos hx1, n01, n02, n03, Nat.reduceEqDiff, Nat.reduceLeDiff, ↓reduceIte]) hko (by simp (disch := omega) only [K_told, k_told, mrow_hit, mrow_miss, ne_eq, Nat.reduceEqDiff, not_false_eq_true, reduceCtorEq, wi_t hx1, may1_t (t0 _), if_neg pu_n10, if_neg pu_n20, q20, q21, q22, q23, i20, i21, i22, i23, n20, n21, n22, n23, n01, n02, n03, Nat.reduceEqDiff, Nat.reduceLeDiff, ↓reduceIte, k_owing, d_owing, show nI 7 - nI 6 = nI 1 from by decide]; exact ow_eq nf (fun a ha => (hd.2.1 a ha).2.1))
    · exact key _ (by simp (disch := omega) only [e_told, if_pos hx1, n01, n02, n03, Nat.reduceEqDiff, Nat.reduceLeDiff, ↓reduceIte]) hko (by simp (disch := omega) only [K_told, k_told, mrow_hit, mrow_miss, ne_eq, Nat.reduceEqDiff, not_false_eq_true, reduceCtorEq, wi_t hx1, may1_t (t0 _), if_neg pu_n10, if_neg pu_n20, q20, q21, q22, q23, i20, i21, i22, i23, n20, n21, n22, n23, n01, n02, n03, Nat.reduceEqDiff, Nat.reduceLeDiff, ↓reduceIte]; exact lw_eq hd t1)
    · exact key _ (by simp (disch := omega) only [e_told, if_pos hx1, n01, n02, n03, Nat.reduceEqDiff, Nat.reduceLeDiff, ↓reduceIte]) hko (by simp (disch := omega) only [K_told, k_told, mrow_hit, mrow_miss, ne_eq, Nat.reduceEqDiff, not_false_eq_true, reduceCtorEq, wi_t hx1, may1_t (t0 _), if_neg pu_n10, if_neg pu_n20, q20, q21, q22, q23, i20, i21, i22, i23, n20, n21, n22, n23, n01, n02, n03, Nat.reduceEqDiff, Nat.reduceLeDiff, ↓reduceIte, pk_un, b2])
    · exact key _ (by simp (disch := omega) only [e_told, if_pos hx1, n01, n02, n03, Nat.reduceEqDiff, Nat.reduceLeDiff, ↓reduceIte]) hko (by simp (disch := omega) only [K_told, k_told, mrow_hit, mrow_miss, ne_eq, Nat.reduceEqDiff, not_false_eq_true, reduceCtorEq, wi_t hx1, may1_t (t0 _), if_neg pu_n10, if_neg pu_n20, q20, q21, q22, q23, i20, i21, i22, i23, n20, n21, n22, n23, n01, n02, n03, Nat.reduceEqDiff, Nat.reduceLeDiff, ↓reduceIte, pk_un, b3])
    · exact key _ (by simp (disch := omega) only [e_told, if_pos hx1, n01, n02, n03, Nat.reduceEqDiff, Nat.reduceLeDiff, ↓reduceIte]) hko (by simp (disch := omega) only [K_told, k_told, mrow_hit, mrow_miss, ne_eq, Nat.reduceEqDiff, not_false_eq_true, reduceCtorEq, wi_t hx1, may1_t (t0 _), if_neg pu_n10, if_neg pu_n20, q20, q21, q22, q23, i20, i21, i22, i23, n20, n21, n22, n23, n01, n02, n03, Nat.reduceEqDiff, Nat.reduceLeDiff, ↓reduceIte, k_sumOf_44, d_shames]; exact sh_eq nf (fun a ha => (hd.2.1 a ha).2.2.2.2))
  · refine ⟨⟨z1, s1, z2, s2, z3, s3, z4, s4⟩, ?_⟩
    refine Ag.bad1 h (by decide) _ (by simp only [e_told, if_neg hx1]) ?_ ?_ ?_ ?_ ?_
    · simp only [KO_told, k_told_ok, mrow_hit, mrow_miss, ne_eq, Nat.reduceEqDiff, not_false_eq_true, reduceCtorEq, wi_f hx1, may1_f (t0 _) pu_n10, if_neg pu_n10, if_neg pu_n20, if_pos pu_n01, q20, q21, q22, q23, i20, i21, i22, i23, n20, n21, n22, n23, z1, z2, z3, z4, c1, c2, c3, c4, take_ok, and_self, true_and, and_true]
    · simp only [K_told, k_told, mrow_hit, mrow_miss, ne_eq, Nat.reduceEqDiff, not_false_eq_true, reduceCtorEq, wi_f hx1, may1_f (t0 _) pu_n10, if_neg pu_n10, if_neg pu_n20, if_pos pu_n01, q20, q21, q22, q23, i20, i21, i22, i23, n20, n21, n22, n23]
    · simp only [K_told, k_told, mrow_hit, mrow_miss, ne_eq, Nat.reduceEqDiff, not_false_eq_true, reduceCtorEq, wi_f hx1, may1_f (t0 _) pu_n10, if_neg pu_n10, if_neg pu_n20, if_pos pu_n01, q20, q21, q22, q23, i20, i21, i22, i23, n20, n21, n22, n23]
    · simp only [K_told, mrow_hit, mrow_miss, ne_eq, Nat.reduceEqDiff, not_false_eq_true, reduceCtorEq]
    · intro c hc
      simp only [K_told]
      rw [mrow_miss _ _ (scr_ne hc rfl), mrow_miss _ _ (scr_ne hc rfl), mrow_miss _ _ (scr_ne hc rfl), mrow_miss _ _ (scr_ne hc rfl)]
theorem op_place {np nr nt nf : Nat} {M : Mem} (h : IV np nr nt nf M) (x1 x2 : Int32) : EO_place M np nr nt nf x1 x2 ∧ Ag 2 1 (e_place M np nr nt nf x1 x2) (fun N => KO_place N np x1 x2) (fun N => K_place N np x1 x2) := by
  obtain ⟨⟨z1, z2, z3, z4⟩, ⟨s1, s2, s3, s4⟩, ⟨c1, c2, c3, c4⟩, ⟨t1, t2, t3⟩, hL, hDd, hH, hI, hTP, ⟨b1, b2, b3, b4, b5⟩, hBK⟩ := id h
  obtain ⟨hD, -⟩ := id hDd
  have hd := DR_take (s := M.1 72) hD z3 z4
  have q20 : upd (M.1 54) 0 (nI 0) 20 = nI np := by rw [pk_un (by decide)]; exact c1
  have q21 : upd (M.1 54) 0 (nI 0) 21 = nI nr := by rw [pk_un (by decide)]; exact c2
  have q22 : upd (M.1 54) 0 (nI 0) 22 = nI nt := by rw [pk_un (by decide)]; exact c3
  have q23 : upd (M.1 54) 0 (nI 0) 23 = nI nf := by rw [pk_un (by decide)]; exact c4
  have i20 : ix (nI np) = np := pu_ix (by omega)
  have i21 : ix (nI nr) = nr := pu_ix (by omega)
  have i22 : ix (nI nt) = nt := pu_ix (by omega)
  have i23 : ix (nI nf) = nf := pu_ix (by omega)
  have n20 : isN (nI np) := pu_isN (by omega)
  have n21 : isN (nI nr) := pu_isN (by omega)
  have n22 : isN (nI nt) := pu_isN (by omega)
  have n23 : isN (nI nf) := pu_isN (by omega)
  have hz : SZ np nr nt nf := ⟨z1, z2, z3, z4⟩
  by_cases hx1 : ¬ x1 < 0 ∧ x1 < nI np
  · skip
    by_cases hx2 : ¬ x2 < nI 0 ∧ x2 ≤ nI 3
    · skip
      refine ⟨⟨z1, s1, z2, s2, z3, s3, z4, s4⟩, ?_⟩
      obtain ⟨p, hp, rfl⟩ := pu_in (n := np) (by omega) hx1.1 hx1.2
      have ip : ix (nI p) = p := pu_ix (by omega)
      have yp : isN (nI p) := pu_isN (by omega)
      obtain ⟨k, hk, rfl⟩ := pu_le2 (n := 3) (by omega) (by rw [← nI_0]; exact hx2.1) hx2.2
      have hk9 : k = 0 ∨ k = 1 ∨ k = 2 ∨ k = 3 := by omega
      have n01 : ∀ {a b : Nat}, a < 100 → b < 100 → (nI a = nI b) = (a = b) := fun ha hb => propext (pu_eqi (by omega) (by omega))
      have n02 : ∀ {a b : Nat}, a < 100 → b < 100 → (nI a ≤ nI b) = (a ≤ b) := fun ha hb => propext (pu_lei (by omega) (by omega))
      have n03 : ∀ {a : Nat}, a < 100 → (nI a = 0) = (a = 0) := fun ha => propext (by rw [← nI_0]; exact pu_eqi (by omega) (by omega))
      have key : ∀ (v : Int32), e_place M np nr nt nf x1 x2 = .inl (some (.int v), M) → KO_place (M) np x1 x2 → (K_place (M) np x1 x2).1 = v → Ag 2 1 (e_place M np nr nt nf x1 x2) (fun N => KO_place N np x1 x2) (fun N => K_place N np x1 x2) := by
        intro v e1 e0 e2
        refine Ag.good h _ (M) v e1 e0 e2 ?_ ?_ ?_ ?_
        · simp only [K_place, k_place, mrow_hit, mrow_miss, ne_eq, Nat.reduceEqDiff, not_false_eq_true, reduceCtorEq, isP_t (show np ≤ 100 by omega) (t0 _) hx1, wi_t hx2, may1_t (t0 _), if_neg pu_n10, if_neg pu_n20]
          repeat' split
          all_goals rfl
        · simp only [K_place, k_place, mrow_hit, mrow_miss, ne_eq, Nat.reduceEqDiff, not_false_eq_true, reduceCtorEq, isP_t (show np ≤ 100 by omega) (t0 _) hx1, wi_t hx2, may1_t (t0 _), if_neg pu_n10, if_neg pu_n20]
          repeat' split
          all_goals rfl
        · simp only [K_place, mrow_hit, mrow_miss, ne_eq, Nat.reduceEqDiff, not_false_eq_true, reduceCtorEq]
        · intro c hc
          simp only [K_place]
          rw [mrow_miss _ _ (scr_ne hc rfl), mrow_miss _ _ (scr_ne hc rfl), mrow_miss _ _ (scr_ne hc rfl)]
      have hko : KO_place M np x1 x2 := by
        simp (disch := omega) only [KO_place, k_place_ok, mrow_hit, mrow_miss, ne_eq, Nat.reduceEqDiff, not_false_eq_true, reduceCtorEq, isP_t (show np ≤ 100 by omega) (t0 _) hx1, wi_t hx2, may1_t (t0 _), if_neg pu_n10, if_neg pu_n20, q20, q21, q22, q23, i20, i21, i22, i23, n20, n21, n22, n23, z1, z2, z3, z4, c1, c2, c3, c4, take_ok, true_and, and_true, and_self]
        repeat' split
        all_goals first | trivial | omega | exact ⟨trivial, by omega⟩
      rcases hk9 with rfl | rfl | rfl | rfl
      · exact key _ (by simp (disch := omega) only [e_place, if_pos hx1, if_pos hx2, n01, n02, n03, Nat.reduceEqDiff, Nat.reduceLeDiff, ↓reduceIte]) hko (by simp (disch := omega) only [K_place, k_place, mrow_hit, mrow_miss, ne_eq, Nat.reduceEqDiff, not_false_eq_true, reduceCtorEq, isP_t (show np ≤ 100 by omega) (t0 _) hx1, wi_t hx2, may1_t (t0 _), if_neg pu_n10, if_neg pu_n20, q20, q21, q22, q23, i20, i21, i22, i23, n20, n21, n22, n23, n01, n02, n03, Nat.reduceEqDiff, Nat.reduceLeDiff, ↓reduceIte, k_lyingAt]; exact la_eq hd (by omega) z4 nt (Nat.le_refl _))
      · exact key _ (by simp (disch := omega) only [e_place, if_pos hx1, if_pos hx2, n01, n02, n03, Nat.reduceEqDiff, Nat.reduceLeDiff, ↓reduceIte]) hko (by simp (disch := omega) only [K_place, k_place, mrow_hit, mrow_miss, ne_eq, Nat.reduceEqDiff, not_false_eq_true, reduceCtorEq, isP_t (show np ≤ 100 by omega) (t0 _) hx1, wi_t hx2, may1_t (t0 _), if_neg pu_n10, if_neg pu_n20, q20, q21, q22, q23, i20, i21, i22, i23, n20, n21, n22, n23, n01, n02, n03, Nat.reduceEqDiff, Nat.reduceLeDiff, ↓reduceIte, k_worthOf]; rw [show k_lyingAt (k_take (M.1 71) (M.1 72)).2 nt (nI p) = d_lyingAt (M.1 38) nt (nI p) from la_eq hd (by omega) z4 nt (Nat.le_refl _)]; exact wo_eq t1 _ nt (Nat.le_refl _))
      · exact key _ (by simp (disch := omega) only [e_place, if_pos hx1, if_pos hx2, n01, n02, n03, Nat.reduceEqDiff, Nat.reduceLeDiff, ↓reduceIte]) hko (by simp (disch := omega) only [K_place, k_place, mrow_hit, mrow_miss, ne_eq, Nat.reduceEqDiff, not_false_eq_true, reduceCtorEq, isP_t (show np ≤ 100 by omega) (t0 _) hx1, wi_t hx2, may1_t (t0 _), if_neg pu_n10, if_neg pu_n20, q20, q21, q22, q23, i20, i21, i22, i23, n20, n21, n22, n23, n01, n02, n03, Nat.reduceEqDiff, Nat.reduceLeDiff, ↓reduceIte, d_findersAt]; exact fa_eq _ _ nf (fun a ha => (hd.2.1 a ha).1))
      · exact key _ (by simp (disch := omega) only [e_place, if_pos hx1, if_pos hx2, n01, n02, n03, Nat.reduceEqDiff, Nat.reduceLeDiff, ↓reduceIte]) hko (by simp (disch := omega) only [K_place, k_place, mrow_hit, mrow_miss, ne_eq, Nat.reduceEqDiff, not_false_eq_true, reduceCtorEq, isP_t (show np ≤ 100 by omega) (t0 _) hx1, wi_t hx2, may1_t (t0 _), if_neg pu_n10, if_neg pu_n20, q20, q21, q22, q23, i20, i21, i22, i23, n20, n21, n22, n23, n01, n02, n03, Nat.reduceEqDiff, Nat.reduceLeDiff, ↓reduceIte, v_roadsAt]; exact ra_eq t2 z1 _ _ _ nr (Nat.le_refl _))
    · refine ⟨⟨z1, s1, z2, s2, z3, s3, z4, s4⟩, ?_⟩
      refine Ag.bad1 h (by decide) _ (by simp only [e_place, if_pos hx1, if_neg hx2]) ?_ ?_ ?_ ?_ ?_
      · simp only [KO_place, k_place_ok, mrow_hit, mrow_miss, ne_eq, Nat.reduceEqDiff, not_false_eq_true, reduceCtorEq, isP_t (show np ≤ 100 by omega) (t0 _) hx1, wi_f hx2, may1_f (t0 _) pu_n20, if_neg pu_n10, if_neg pu_n20, if_pos pu_n01, q20, q21, q22, q23, i20, i21, i22, i23, n20, n21, n22, n23, z1, z2, z3, z4, c1, c2, c3, c4, take_ok, and_self, true_and, and_true]
      · simp only [K_place, k_place, mrow_hit, mrow_miss, ne_eq, Nat.reduceEqDiff, not_false_eq_true, reduceCtorEq, isP_t (show np ≤ 100 by omega) (t0 _) hx1, wi_f hx2, may1_f (t0 _) pu_n20, if_neg pu_n10, if_neg pu_n20, if_pos pu_n01, q20, q21, q22, q23, i20, i21, i22, i23, n20, n21, n22, n23]
      · simp only [K_place, k_place, mrow_hit, mrow_miss, ne_eq, Nat.reduceEqDiff, not_false_eq_true, reduceCtorEq, isP_t (show np ≤ 100 by omega) (t0 _) hx1, wi_f hx2, may1_f (t0 _) pu_n20, if_neg pu_n10, if_neg pu_n20, if_pos pu_n01, q20, q21, q22, q23, i20, i21, i22, i23, n20, n21, n22, n23]
      · simp only [K_place, mrow_hit, mrow_miss, ne_eq, Nat.reduceEqDiff, not_false_eq_true, reduceCtorEq]
      · intro c hc
        simp only [K_place]
        rw [mrow_miss _ _ (scr_ne hc rfl), mrow_miss _ _ (scr_ne hc rfl), mrow_miss _ _ (scr_ne hc rfl), mrow_miss _ _ (scr_ne hc rfl)]
  · refine ⟨⟨z1, s1, z2, s2, z3, s3, z4, s4⟩, ?_⟩
    refine Ag.bad0 h (by decide) _ (by simp only [e_place, if_neg hx1]) ?_ ?_ ?_ ?_ ?_
    · simp only [KO_place, k_place_ok, mrow_hit, mrow_miss, ne_eq, Nat.reduceEqDiff, not_false_eq_true, reduceCtorEq, isP_f (show np ≤ 100 by omega) (t0 _) pu_n10 hx1, if_neg pu_n10, if_neg pu_n20, if_pos pu_n01, q20, q21, q22, q23, i20, i21, i22, i23, n20, n21, n22, n23, z1, z2, z3, z4, c1, c2, c3, c4, take_ok, and_self, true_and, and_true]
    · simp only [K_place, k_place, mrow_hit, mrow_miss, ne_eq, Nat.reduceEqDiff, not_false_eq_true, reduceCtorEq, isP_f (show np ≤ 100 by omega) (t0 _) pu_n10 hx1, if_neg pu_n10, if_neg pu_n20, if_pos pu_n01, q20, q21, q22, q23, i20, i21, i22, i23, n20, n21, n22, n23]
    · simp only [K_place, k_place, mrow_hit, mrow_miss, ne_eq, Nat.reduceEqDiff, not_false_eq_true, reduceCtorEq, isP_f (show np ≤ 100 by omega) (t0 _) pu_n10 hx1, if_neg pu_n10, if_neg pu_n20, if_pos pu_n01, q20, q21, q22, q23, i20, i21, i22, i23, n20, n21, n22, n23]
    · simp only [K_place, mrow_hit, mrow_miss, ne_eq, Nat.reduceEqDiff, not_false_eq_true, reduceCtorEq]
    · intro c hc
      simp only [K_place]
      rw [mrow_miss _ _ (scr_ne hc rfl), mrow_miss _ _ (scr_ne hc rfl), mrow_miss _ _ (scr_ne hc rfl), mrow_miss _ _ (scr_ne hc rfl)]
theorem op_road {np nr nt nf : Nat} {M : Mem} (h : IV np nr nt nf M) (x1 x2 : Int32) : EO_road M nr x1 x2 ∧ Ag 2 1 (e_road M nr x1 x2) (fun N => KO_road N nr x1 x2) (fun N => K_road N nr x1 x2) := by
  obtain ⟨⟨z1, z2, z3, z4⟩, ⟨s1, s2, s3, s4⟩, ⟨c1, c2, c3, c4⟩, ⟨t1, t2, t3⟩, hL, hDd, hH, hI, hTP, ⟨b1, b2, b3, b4, b5⟩, hBK⟩ := id h
  obtain ⟨hD, -⟩ := id hDd
  have hd := DR_take (s := M.1 72) hD z3 z4
  have q20 : upd (M.1 54) 0 (nI 0) 20 = nI np := by rw [pk_un (by decide)]; exact c1
  have q21 : upd (M.1 54) 0 (nI 0) 21 = nI nr := by rw [pk_un (by decide)]; exact c2
  have q22 : upd (M.1 54) 0 (nI 0) 22 = nI nt := by rw [pk_un (by decide)]; exact c3
  have q23 : upd (M.1 54) 0 (nI 0) 23 = nI nf := by rw [pk_un (by decide)]; exact c4
  have i20 : ix (nI np) = np := pu_ix (by omega)
  have i21 : ix (nI nr) = nr := pu_ix (by omega)
  have i22 : ix (nI nt) = nt := pu_ix (by omega)
  have i23 : ix (nI nf) = nf := pu_ix (by omega)
  have n20 : isN (nI np) := pu_isN (by omega)
  have n21 : isN (nI nr) := pu_isN (by omega)
  have n22 : isN (nI nt) := pu_isN (by omega)
  have n23 : isN (nI nf) := pu_isN (by omega)
  have hz : SZ np nr nt nf := ⟨z1, z2, z3, z4⟩
  by_cases hx1 : ¬ x1 < 0 ∧ x1 < nI nr
  · skip
    by_cases hx2 : ¬ x2 < nI 0 ∧ x2 ≤ nI 2
    · skip
      obtain ⟨r, hr, rfl⟩ := pu_in (n := nr) (by omega) hx1.1 hx1.2
      have ir : ix (nI r) = r := pu_ix (by omega)
      have yr : isN (nI r) := pu_isN (by omega)
      obtain ⟨k, hk, rfl⟩ := pu_le2 (n := 2) (by omega) (by rw [← nI_0]; exact hx2.1) hx2.2
      have hk9 : k = 0 ∨ k = 1 ∨ k = 2 := by omega
      have n01 : ∀ {a b : Nat}, a < 100 → b < 100 → (nI a = nI b) = (a = b) := fun ha hb => propext (pu_eqi (by omega) (by omega))
      have n02 : ∀ {a b : Nat}, a < 100 → b < 100 → (nI a ≤ nI b) = (a ≤ b) := fun ha hb => propext (pu_lei (by omega) (by omega))
      have n03 : ∀ {a : Nat}, a < 100 → (nI a = 0) = (a = 0) := fun ha => propext (by rw [← nI_0]; exact pu_eqi (by omega) (by omega))
      obtain ⟨e1, e2, e3, -⟩ := t2 r hr
      have j0 : ix (nI 0) = 0 := pu_ix (by omega)
      have j1 : ix (nI 1) = 1 := pu_ix (by omega)
      have j2 : ix (nI 2) = 2 := pu_ix (by omega)
      have m0 : isN (nI 0) := pu_isN (by omega)
      have m1 : isN (nI 1) := pu_isN (by omega)
      have m2 : isN (nI 2) := pu_isN (by omega)
      refine ⟨⟨z2, s2, by simp (disch := omega) only [e_road_ok, if_pos hx1, if_pos hx2, n01, n02, n03, Nat.reduceEqDiff, Nat.reduceLeDiff, ↓reduceIte, ir, yr, show r < 12 by omega, and_self]⟩, ?_⟩
      have key : ∀ (v : Int32), e_road M nr x1 x2 = .inl (some (.int v), M) → KO_road (M) nr x1 x2 → (K_road (M) nr x1 x2).1 = v → Ag 2 1 (e_road M nr x1 x2) (fun N => KO_road N nr x1 x2) (fun N => K_road N nr x1 x2) := by
        intro v e1 e0 e2
        refine Ag.good h _ (M) v e1 e0 e2 ?_ ?_ ?_ ?_
        · simp only [K_road, k_road, mrow_hit, mrow_miss, ne_eq, Nat.reduceEqDiff, not_false_eq_true, reduceCtorEq, wi_t ((nse_iff (show nr ≤ 100 by omega)).mp hx1), may0_t (t0 _), wi_t hx2, may1_t (t0 _), if_neg pu_n10, if_neg pu_n20]
          repeat' split
          all_goals rfl
        · simp only [K_road, k_road, mrow_hit, mrow_miss, ne_eq, Nat.reduceEqDiff, not_false_eq_true, reduceCtorEq, wi_t ((nse_iff (show nr ≤ 100 by omega)).mp hx1), may0_t (t0 _), wi_t hx2, may1_t (t0 _), if_neg pu_n10, if_neg pu_n20]
          repeat' split
          all_goals rfl
        · simp only [K_road, mrow_hit, mrow_miss, ne_eq, Nat.reduceEqDiff, not_false_eq_true, reduceCtorEq]
        · intro c hc
          simp only [K_road]
          rw [mrow_miss _ _ (scr_ne hc rfl), mrow_miss _ _ (scr_ne hc rfl)]
      rcases hk9 with rfl | rfl | rfl
      · exact key _ (by simp (disch := omega) only [e_road, if_pos hx1, if_pos hx2, n01, n02, n03, Nat.reduceEqDiff, Nat.reduceLeDiff, ↓reduceIte, ir]) (by simp (disch := omega) only [KO_road, k_road_ok, mrow_hit, mrow_miss, ne_eq, Nat.reduceEqDiff, not_false_eq_true, reduceCtorEq, wi_t ((nse_iff (show nr ≤ 100 by omega)).mp hx1), may0_t (t0 _), wi_t hx2, may1_t (t0 _), if_neg pu_n10, if_neg pu_n20, z2, c2, ir, yr, j0, m0, true_and, and_true]; omega) (by simp (disch := omega) only [K_road, k_road, mrow_hit, mrow_miss, ne_eq, Nat.reduceEqDiff, not_false_eq_true, reduceCtorEq, wi_t ((nse_iff (show nr ≤ 100 by omega)).mp hx1), may0_t (t0 _), wi_t hx2, may1_t (t0 _), if_neg pu_n10, if_neg pu_n20, ir, j0, Nat.add_zero]; exact e1)
      · exact key _ (by simp (disch := omega) only [e_road, if_pos hx1, if_pos hx2, n01, n02, n03, Nat.reduceEqDiff, Nat.reduceLeDiff, ↓reduceIte, ir]) (by simp (disch := omega) only [KO_road, k_road_ok, mrow_hit, mrow_miss, ne_eq, Nat.reduceEqDiff, not_false_eq_true, reduceCtorEq, wi_t ((nse_iff (show nr ≤ 100 by omega)).mp hx1), may0_t (t0 _), wi_t hx2, may1_t (t0 _), if_neg pu_n10, if_neg pu_n20, z2, c2, ir, yr, j1, m1, true_and, and_true]; omega) (by simp (disch := omega) only [K_road, k_road, mrow_hit, mrow_miss, ne_eq, Nat.reduceEqDiff, not_false_eq_true, reduceCtorEq, wi_t ((nse_iff (show nr ≤ 100 by omega)).mp hx1), may0_t (t0 _), wi_t hx2, may1_t (t0 _), if_neg pu_n10, if_neg pu_n20, ir, j1, Nat.add_zero]; exact e2)
      · exact key _ (by simp (disch := omega) only [e_road, if_pos hx1, if_pos hx2, n01, n02, n03, Nat.reduceEqDiff, Nat.reduceLeDiff, ↓reduceIte, ir]) (by simp (disch := omega) only [KO_road, k_road_ok, mrow_hit, mrow_miss, ne_eq, Nat.reduceEqDiff, not_false_eq_true, reduceCtorEq, wi_t ((nse_iff (show nr ≤ 100 by omega)).mp hx1), may0_t (t0 _), wi_t hx2, may1_t (t0 _), if_neg pu_n10, if_neg pu_n20, z2, c2, ir, yr, j2, m2, true_and, and_true]; omega) (by simp (disch := omega) only [K_road, k_road, mrow_hit, mrow_miss, ne_eq, Nat.reduceEqDiff, not_false_eq_true, reduceCtorEq, wi_t ((nse_iff (show nr ≤ 100 by omega)).mp hx1), may0_t (t0 _), wi_t hx2, may1_t (t0 _), if_neg pu_n10, if_neg pu_n20, ir, j2, Nat.add_zero]; exact e3)
    · refine ⟨⟨z2, s2, by simp only [e_road_ok, if_pos hx1, if_neg hx2]⟩, ?_⟩
      refine Ag.bad1 h (by decide) _ (by simp only [e_road, if_pos hx1, if_neg hx2]) ?_ ?_ ?_ ?_ ?_
      · simp only [KO_road, k_road_ok, mrow_hit, mrow_miss, ne_eq, Nat.reduceEqDiff, not_false_eq_true, reduceCtorEq, wi_t ((nse_iff (show nr ≤ 100 by omega)).mp hx1), may0_t (t0 _), wi_f hx2, may1_f (t0 _) pu_n20, if_neg pu_n10, if_neg pu_n20, if_pos pu_n01, q20, q21, q22, q23, i20, i21, i22, i23, n20, n21, n22, n23, z1, z2, z3, z4, c1, c2, c3, c4, take_ok, and_self, true_and, and_true]
      · simp only [K_road, k_road, mrow_hit, mrow_miss, ne_eq, Nat.reduceEqDiff, not_false_eq_true, reduceCtorEq, wi_t ((nse_iff (show nr ≤ 100 by omega)).mp hx1), may0_t (t0 _), wi_f hx2, may1_f (t0 _) pu_n20, if_neg pu_n10, if_neg pu_n20, if_pos pu_n01, q20, q21, q22, q23, i20, i21, i22, i23, n20, n21, n22, n23]
      · simp only [K_road, k_road, mrow_hit, mrow_miss, ne_eq, Nat.reduceEqDiff, not_false_eq_true, reduceCtorEq, wi_t ((nse_iff (show nr ≤ 100 by omega)).mp hx1), may0_t (t0 _), wi_f hx2, may1_f (t0 _) pu_n20, if_neg pu_n10, if_neg pu_n20, if_pos pu_n01, q20, q21, q22, q23, i20, i21, i22, i23, n20, n21, n22, n23]
      · simp only [K_road, mrow_hit, mrow_miss, ne_eq, Nat.reduceEqDiff, not_false_eq_true, reduceCtorEq]
      · intro c hc
        simp only [K_road]
        rw [mrow_miss _ _ (scr_ne hc rfl), mrow_miss _ _ (scr_ne hc rfl), mrow_miss _ _ (scr_ne hc rfl)]
  · refine ⟨⟨z2, s2, by simp only [e_road_ok, if_neg hx1]⟩, ?_⟩
    refine Ag.bad0 h (by decide) _ (by simp only [e_road, if_neg hx1]) ?_ ?_ ?_ ?_ ?_
    · simp only [KO_road, k_road_ok, mrow_hit, mrow_miss, ne_eq, Nat.reduceEqDiff, not_false_eq_true, reduceCtorEq, wi_f (fun z => hx1 ((nse_iff (show nr ≤ 100 by omega)).mpr z)), may0_f (t0 _) pu_n10, if_neg pu_n10, if_neg pu_n20, if_pos pu_n01, q20, q21, q22, q23, i20, i21, i22, i23, n20, n21, n22, n23, z1, z2, z3, z4, c1, c2, c3, c4, take_ok, and_self, true_and, and_true]
    · simp only [K_road, k_road, mrow_hit, mrow_miss, ne_eq, Nat.reduceEqDiff, not_false_eq_true, reduceCtorEq, wi_f (fun z => hx1 ((nse_iff (show nr ≤ 100 by omega)).mpr z)), may0_f (t0 _) pu_n10, if_neg pu_n10, if_neg pu_n20, if_pos pu_n01, q20, q21, q22, q23, i20, i21, i22, i23, n20, n21, n22, n23]
    · simp only [K_road, k_road, mrow_hit, mrow_miss, ne_eq, Nat.reduceEqDiff, not_false_eq_true, reduceCtorEq, wi_f (fun z => hx1 ((nse_iff (show nr ≤ 100 by omega)).mpr z)), may0_f (t0 _) pu_n10, if_neg pu_n10, if_neg pu_n20, if_pos pu_n01, q20, q21, q22, q23, i20, i21, i22, i23, n20, n21, n22, n23]
    · simp only [K_road, mrow_hit, mrow_miss, ne_eq, Nat.reduceEqDiff, not_false_eq_true, reduceCtorEq]
    · intro c hc
      simp only [K_road]
      rw [mrow_miss _ _ (scr_ne hc rfl), mrow_miss _ _ (scr_ne hc rfl), mrow_miss _ _ (scr_ne hc rfl)]
theorem op_thing {np nr nt nf : Nat} {M : Mem} (h : IV np nr nt nf M) (x1 x2 : Int32) : EO_thing M nt x1 x2 ∧ Ag 2 1 (e_thing M nt x1 x2) (fun N => KO_thing N nt x1 x2) (fun N => K_thing N nt x1 x2) := by
  obtain ⟨⟨z1, z2, z3, z4⟩, ⟨s1, s2, s3, s4⟩, ⟨c1, c2, c3, c4⟩, ⟨t1, t2, t3⟩, hL, hDd, hH, hI, hTP, ⟨b1, b2, b3, b4, b5⟩, hBK⟩ := id h
  obtain ⟨hD, -⟩ := id hDd
  have hd := DR_take (s := M.1 72) hD z3 z4
  have q20 : upd (M.1 54) 0 (nI 0) 20 = nI np := by rw [pk_un (by decide)]; exact c1
  have q21 : upd (M.1 54) 0 (nI 0) 21 = nI nr := by rw [pk_un (by decide)]; exact c2
  have q22 : upd (M.1 54) 0 (nI 0) 22 = nI nt := by rw [pk_un (by decide)]; exact c3
  have q23 : upd (M.1 54) 0 (nI 0) 23 = nI nf := by rw [pk_un (by decide)]; exact c4
  have i20 : ix (nI np) = np := pu_ix (by omega)
  have i21 : ix (nI nr) = nr := pu_ix (by omega)
  have i22 : ix (nI nt) = nt := pu_ix (by omega)
  have i23 : ix (nI nf) = nf := pu_ix (by omega)
  have n20 : isN (nI np) := pu_isN (by omega)
  have n21 : isN (nI nr) := pu_isN (by omega)
  have n22 : isN (nI nt) := pu_isN (by omega)
  have n23 : isN (nI nf) := pu_isN (by omega)
  have hz : SZ np nr nt nf := ⟨z1, z2, z3, z4⟩
  by_cases hx1 : ¬ x1 < 0 ∧ x1 < nI nt
  · skip
    by_cases hx2 : ¬ x2 < nI 0 ∧ x2 ≤ nI 2
    · skip
      obtain ⟨t, ht, rfl⟩ := pu_in (n := nt) (by omega) hx1.1 hx1.2
      have it : ix (nI t) = t := pu_ix (by omega)
      have yt : isN (nI t) := pu_isN (by omega)
      obtain ⟨k, hk, rfl⟩ := pu_le2 (n := 2) (by omega) (by rw [← nI_0]; exact hx2.1) hx2.2
      have hk9 : k = 0 ∨ k = 1 ∨ k = 2 := by omega
      have n01 : ∀ {a b : Nat}, a < 100 → b < 100 → (nI a = nI b) = (a = b) := fun ha hb => propext (pu_eqi (by omega) (by omega))
      have n02 : ∀ {a b : Nat}, a < 100 → b < 100 → (nI a ≤ nI b) = (a ≤ b) := fun ha hb => propext (pu_lei (by omega) (by omega))
      have n03 : ∀ {a : Nat}, a < 100 → (nI a = 0) = (a = 0) := fun ha => propext (by rw [← nI_0]; exact pu_eqi (by omega) (by omega))
      obtain ⟨e1, w, w1, w2, ew⟩ := t1 t ht
      have e4 := hD.2.2.2.1 t ht
      have e5 := hD.2.2.2.2.1 t ht
      have hpl : d_placeOf (M.1 38) t = M.1 71 t ∧ d_placeOf_ok (M.1 38) t := by
        simp only [d_placeOf, d_placeOf_ok]
        rcases e5 with ⟨g1, g2, -⟩ | ⟨a, ha, g1, -, g3⟩
        · rw [if_pos g1, if_pos g1]; exact ⟨g2.symm, trivial⟩
        · have gn : ¬ nI a = -1 := pu_nm (by omega)
          rw [g1, if_neg gn, if_neg gn, pu_ix (by omega)]
          exact ⟨g3.symm, pu_isN (by omega), by omega, trivial⟩
      refine ⟨⟨z3, s3, by simp (disch := omega) only [e_thing_ok, if_pos hx1, if_pos hx2, it, yt, hpl.2, show t < 10 by omega, show 41 + t < 51 by omega, and_self, ite_self]⟩, ?_⟩
      have key : ∀ (v : Int32), e_thing M nt x1 x2 = .inl (some (.int v), M) → KO_thing (M) nt x1 x2 → (K_thing (M) nt x1 x2).1 = v → Ag 2 1 (e_thing M nt x1 x2) (fun N => KO_thing N nt x1 x2) (fun N => K_thing N nt x1 x2) := by
        intro v e1 e0 e2
        refine Ag.good h _ (M) v e1 e0 e2 ?_ ?_ ?_ ?_
        · simp only [K_thing, k_thing, mrow_hit, mrow_miss, ne_eq, Nat.reduceEqDiff, not_false_eq_true, reduceCtorEq, isT_t (show nt ≤ 100 by omega) (t0 _) hx1, wi_t hx2, may1_t (t0 _), if_neg pu_n10, if_neg pu_n20]
          repeat' split
          all_goals rfl
        · simp only [K_thing, k_thing, mrow_hit, mrow_miss, ne_eq, Nat.reduceEqDiff, not_false_eq_true, reduceCtorEq, isT_t (show nt ≤ 100 by omega) (t0 _) hx1, wi_t hx2, may1_t (t0 _), if_neg pu_n10, if_neg pu_n20]
          repeat' split
          all_goals rfl
        · simp only [K_thing, mrow_hit, mrow_miss, ne_eq, Nat.reduceEqDiff, not_false_eq_true, reduceCtorEq]
        · intro c hc
          simp only [K_thing]
          rw [mrow_miss _ _ (scr_ne hc rfl), mrow_miss _ _ (scr_ne hc rfl)]
      have hko : KO_thing M nt x1 x2 := by
        simp (disch := omega) only [KO_thing, k_thing_ok, mrow_hit, mrow_miss, ne_eq, Nat.reduceEqDiff, not_false_eq_true, reduceCtorEq, isT_t (show nt ≤ 100 by omega) (t0 _) hx1, wi_t hx2, may1_t (t0 _), if_neg pu_n10, if_neg pu_n20, q20, q21, q22, q23, i20, i21, i22, i23, n20, n21, n22, n23, z1, z2, z3, z4, c1, c2, c3, c4, take_ok, true_and, and_true, and_self, it, yt, show 3 * t + 2 < 30 by omega, show 0 + t < 51 by omega, show 10 + t < 51 by omega, ite_self]
      rcases hk9 with rfl | rfl | rfl
      · exact key _ (by simp (disch := omega) only [e_thing, if_pos hx1, if_pos hx2, n01, n02, n03, Nat.reduceEqDiff, Nat.reduceLeDiff, ↓reduceIte, it]) hko (by simp (disch := omega) only [K_thing, k_thing, mrow_hit, mrow_miss, ne_eq, Nat.reduceEqDiff, not_false_eq_true, reduceCtorEq, isT_t (show nt ≤ 100 by omega) (t0 _) hx1, wi_t hx2, may1_t (t0 _), if_neg pu_n10, if_neg pu_n20, q20, q21, q22, q23, i20, i21, i22, i23, n20, n21, n22, n23, n01, n02, n03, Nat.reduceEqDiff, Nat.reduceLeDiff, ↓reduceIte, it]; exact e1)
      · exact key _ (by simp (disch := omega) only [e_thing, if_pos hx1, if_pos hx2, n01, n02, n03, Nat.reduceEqDiff, Nat.reduceLeDiff, ↓reduceIte, it]) hko (by simp (disch := omega) only [K_thing, k_thing, mrow_hit, mrow_miss, ne_eq, Nat.reduceEqDiff, not_false_eq_true, reduceCtorEq, isT_t (show nt ≤ 100 by omega) (t0 _) hx1, wi_t hx2, may1_t (t0 _), if_neg pu_n10, if_neg pu_n20, q20, q21, q22, q23, i20, i21, i22, i23, n20, n21, n22, n23, n01, n02, n03, Nat.reduceEqDiff, Nat.reduceLeDiff, ↓reduceIte, it]; rw [Nat.zero_add, hpl.1])
      · exact key _ (by simp (disch := omega) only [e_thing, if_pos hx1, if_pos hx2, n01, n02, n03, Nat.reduceEqDiff, Nat.reduceLeDiff, ↓reduceIte, it]) hko (by simp (disch := omega) only [K_thing, k_thing, mrow_hit, mrow_miss, ne_eq, Nat.reduceEqDiff, not_false_eq_true, reduceCtorEq, isT_t (show nt ≤ 100 by omega) (t0 _) hx1, wi_t hx2, may1_t (t0 _), if_neg pu_n10, if_neg pu_n20, q20, q21, q22, q23, i20, i21, i22, i23, n20, n21, n22, n23, n01, n02, n03, Nat.reduceEqDiff, Nat.reduceLeDiff, ↓reduceIte, it]; exact e4)
    · refine ⟨⟨z3, s3, by simp only [e_thing_ok, if_pos hx1, if_neg hx2]⟩, ?_⟩
      refine Ag.bad1 h (by decide) _ (by simp only [e_thing, if_pos hx1, if_neg hx2]) ?_ ?_ ?_ ?_ ?_
      · simp only [KO_thing, k_thing_ok, mrow_hit, mrow_miss, ne_eq, Nat.reduceEqDiff, not_false_eq_true, reduceCtorEq, isT_t (show nt ≤ 100 by omega) (t0 _) hx1, wi_f hx2, may1_f (t0 _) pu_n20, if_neg pu_n10, if_neg pu_n20, if_pos pu_n01, q20, q21, q22, q23, i20, i21, i22, i23, n20, n21, n22, n23, z1, z2, z3, z4, c1, c2, c3, c4, take_ok, and_self, true_and, and_true]
      · simp only [K_thing, k_thing, mrow_hit, mrow_miss, ne_eq, Nat.reduceEqDiff, not_false_eq_true, reduceCtorEq, isT_t (show nt ≤ 100 by omega) (t0 _) hx1, wi_f hx2, may1_f (t0 _) pu_n20, if_neg pu_n10, if_neg pu_n20, if_pos pu_n01, q20, q21, q22, q23, i20, i21, i22, i23, n20, n21, n22, n23]
      · simp only [K_thing, k_thing, mrow_hit, mrow_miss, ne_eq, Nat.reduceEqDiff, not_false_eq_true, reduceCtorEq, isT_t (show nt ≤ 100 by omega) (t0 _) hx1, wi_f hx2, may1_f (t0 _) pu_n20, if_neg pu_n10, if_neg pu_n20, if_pos pu_n01, q20, q21, q22, q23, i20, i21, i22, i23, n20, n21, n22, n23]
      · simp only [K_thing, mrow_hit, mrow_miss, ne_eq, Nat.reduceEqDiff, not_false_eq_true, reduceCtorEq]
      · intro c hc
        simp only [K_thing]
        rw [mrow_miss _ _ (scr_ne hc rfl), mrow_miss _ _ (scr_ne hc rfl), mrow_miss _ _ (scr_ne hc rfl)]
  · refine ⟨⟨z3, s3, by simp only [e_thing_ok, if_neg hx1]⟩, ?_⟩
    refine Ag.bad0 h (by decide) _ (by simp only [e_thing, if_neg hx1]) ?_ ?_ ?_ ?_ ?_
    · simp only [KO_thing, k_thing_ok, mrow_hit, mrow_miss, ne_eq, Nat.reduceEqDiff, not_false_eq_true, reduceCtorEq, isT_f (show nt ≤ 100 by omega) (t0 _) pu_n10 hx1, if_neg pu_n10, if_neg pu_n20, if_pos pu_n01, q20, q21, q22, q23, i20, i21, i22, i23, n20, n21, n22, n23, z1, z2, z3, z4, c1, c2, c3, c4, take_ok, and_self, true_and, and_true]
    · simp only [K_thing, k_thing, mrow_hit, mrow_miss, ne_eq, Nat.reduceEqDiff, not_false_eq_true, reduceCtorEq, isT_f (show nt ≤ 100 by omega) (t0 _) pu_n10 hx1, if_neg pu_n10, if_neg pu_n20, if_pos pu_n01, q20, q21, q22, q23, i20, i21, i22, i23, n20, n21, n22, n23]
    · simp only [K_thing, k_thing, mrow_hit, mrow_miss, ne_eq, Nat.reduceEqDiff, not_false_eq_true, reduceCtorEq, isT_f (show nt ≤ 100 by omega) (t0 _) pu_n10 hx1, if_neg pu_n10, if_neg pu_n20, if_pos pu_n01, q20, q21, q22, q23, i20, i21, i22, i23, n20, n21, n22, n23]
    · simp only [K_thing, mrow_hit, mrow_miss, ne_eq, Nat.reduceEqDiff, not_false_eq_true, reduceCtorEq]
    · intro c hc
      simp only [K_thing]
      rw [mrow_miss _ _ (scr_ne hc rfl), mrow_miss _ _ (scr_ne hc rfl), mrow_miss _ _ (scr_ne hc rfl)]
theorem op_finder {np nr nt nf : Nat} {M : Mem} (h : IV np nr nt nf M) (x1 x2 : Int32) : EO_finder M nt nf x1 x2 ∧ Ag 2 1 (e_finder M nt nf x1 x2) (fun N => KO_finder N nf x1 x2) (fun N => K_finder N nf x1 x2) := by
  obtain ⟨⟨z1, z2, z3, z4⟩, ⟨s1, s2, s3, s4⟩, ⟨c1, c2, c3, c4⟩, ⟨t1, t2, t3⟩, hL, hDd, hH, hI, hTP, ⟨b1, b2, b3, b4, b5⟩, hBK⟩ := id h
  obtain ⟨hD, -⟩ := id hDd
  have hd := DR_take (s := M.1 72) hD z3 z4
  have q20 : upd (M.1 54) 0 (nI 0) 20 = nI np := by rw [pk_un (by decide)]; exact c1
  have q21 : upd (M.1 54) 0 (nI 0) 21 = nI nr := by rw [pk_un (by decide)]; exact c2
  have q22 : upd (M.1 54) 0 (nI 0) 22 = nI nt := by rw [pk_un (by decide)]; exact c3
  have q23 : upd (M.1 54) 0 (nI 0) 23 = nI nf := by rw [pk_un (by decide)]; exact c4
  have i20 : ix (nI np) = np := pu_ix (by omega)
  have i21 : ix (nI nr) = nr := pu_ix (by omega)
  have i22 : ix (nI nt) = nt := pu_ix (by omega)
  have i23 : ix (nI nf) = nf := pu_ix (by omega)
  have n20 : isN (nI np) := pu_isN (by omega)
  have n21 : isN (nI nr) := pu_isN (by omega)
  have n22 : isN (nI nt) := pu_isN (by omega)
  have n23 : isN (nI nf) := pu_isN (by omega)
  have hz : SZ np nr nt nf := ⟨z1, z2, z3, z4⟩
  by_cases hx1 : ¬ x1 < 0 ∧ x1 < nI nf
  · skip
    by_cases hx2 : ¬ x2 < nI 0 ∧ x2 ≤ nI 6
    · skip
      obtain ⟨a, ha, rfl⟩ := pu_in (n := nf) (by omega) hx1.1 hx1.2
      have ia : ix (nI a) = a := pu_ix (by omega)
      have ya : isN (nI a) := pu_isN (by omega)
      obtain ⟨k, hk, rfl⟩ := pu_le2 (n := 6) (by omega) (by rw [← nI_0]; exact hx2.1) hx2.2
      have hk9 : k = 0 ∨ k = 1 ∨ k = 2 ∨ k = 3 ∨ k = 4 ∨ k = 5 ∨ k = 6 := by omega
      have n01 : ∀ {a b : Nat}, a < 100 → b < 100 → (nI a = nI b) = (a = b) := fun ha hb => propext (pu_eqi (by omega) (by omega))
      have n02 : ∀ {a b : Nat}, a < 100 → b < 100 → (nI a ≤ nI b) = (a ≤ b) := fun ha hb => propext (pu_lei (by omega) (by omega))
      have n03 : ∀ {a : Nat}, a < 100 → (nI a = 0) = (a = 0) := fun ha => propext (by rw [← nI_0]; exact pu_eqi (by omega) (by omega))
      have ea := hd.2.1 a ha
      refine ⟨⟨z3, s3, z4, s4, by simp (disch := omega) only [e_finder_ok, if_pos hx1, if_pos hx2, ia, ya, show 1 + a < 51 by omega, show 7 + a < 51 by omega, show 13 + a < 51 by omega, show 19 + a < 51 by omega, show 25 + a < 51 by omega, and_self, ite_self]⟩, ?_⟩
      have key : ∀ (v : Int32), e_finder M nt nf x1 x2 = .inl (some (.int v), M) → KO_finder (M) nf x1 x2 → (K_finder (M) nf x1 x2).1 = v → Ag 2 1 (e_finder M nt nf x1 x2) (fun N => KO_finder N nf x1 x2) (fun N => K_finder N nf x1 x2) := by
        intro v e1 e0 e2
        refine Ag.good h _ (M) v e1 e0 e2 ?_ ?_ ?_ ?_
        · simp only [K_finder, k_finder, mrow_hit, mrow_miss, ne_eq, Nat.reduceEqDiff, not_false_eq_true, reduceCtorEq, isF_t (show nf ≤ 100 by omega) (t0 _) hx1, wi_t hx2, may1_t (t0 _), if_neg pu_n10, if_neg pu_n20]
          repeat' split
          all_goals rfl
        · simp only [K_finder, k_finder, mrow_hit, mrow_miss, ne_eq, Nat.reduceEqDiff, not_false_eq_true, reduceCtorEq, isF_t (show nf ≤ 100 by omega) (t0 _) hx1, wi_t hx2, may1_t (t0 _), if_neg pu_n10, if_neg pu_n20]
          repeat' split
          all_goals rfl
        · simp only [K_finder, mrow_hit, mrow_miss, ne_eq, Nat.reduceEqDiff, not_false_eq_true, reduceCtorEq]
        · intro c hc
          simp only [K_finder]
          rw [mrow_miss _ _ (scr_ne hc rfl), mrow_miss _ _ (scr_ne hc rfl), mrow_miss _ _ (scr_ne hc rfl)]
      have hko : KO_finder M nf x1 x2 := by
        simp (disch := omega) only [KO_finder, k_finder_ok, mrow_hit, mrow_miss, ne_eq, Nat.reduceEqDiff, not_false_eq_true, reduceCtorEq, isF_t (show nf ≤ 100 by omega) (t0 _) hx1, wi_t hx2, may1_t (t0 _), if_neg pu_n10, if_neg pu_n20, q20, q21, q22, q23, i20, i21, i22, i23, n20, n21, n22, n23, z1, z2, z3, z4, c1, c2, c3, c4, take_ok, true_and, and_true, and_self, ia, ya, show 20 + a < 51 by omega, show 26 + a < 51 by omega, show 32 + a < 51 by omega, show 38 + a < 51 by omega, show 44 + a < 51 by omega, ite_self]
      rcases hk9 with rfl | rfl | rfl | rfl | rfl | rfl | rfl
      · exact key _ (by simp (disch := omega) only [e_finder, if_pos hx1, if_pos hx2, n01, n02, n03, Nat.reduceEqDiff, Nat.reduceLeDiff, ↓reduceIte, ia]) hko (by simp (disch := omega) only [K_finder, k_finder, mrow_hit, mrow_miss, ne_eq, Nat.reduceEqDiff, not_false_eq_true, reduceCtorEq, isF_t (show nf ≤ 100 by omega) (t0 _) hx1, wi_t hx2, may1_t (t0 _), if_neg pu_n10, if_neg pu_n20, q20, q21, q22, q23, i20, i21, i22, i23, n20, n21, n22, n23, n01, n02, n03, Nat.reduceEqDiff, Nat.reduceLeDiff, ↓reduceIte, ia]; exact ea.1)
      · exact key _ (by simp (disch := omega) only [e_finder, if_pos hx1, if_pos hx2, n01, n02, n03, Nat.reduceEqDiff, Nat.reduceLeDiff, ↓reduceIte, ia]) hko (by simp (disch := omega) only [K_finder, k_finder, mrow_hit, mrow_miss, ne_eq, Nat.reduceEqDiff, not_false_eq_true, reduceCtorEq, isF_t (show nf ≤ 100 by omega) (t0 _) hx1, wi_t hx2, may1_t (t0 _), if_neg pu_n10, if_neg pu_n20, q20, q21, q22, q23, i20, i21, i22, i23, n20, n21, n22, n23, n01, n02, n03, Nat.reduceEqDiff, Nat.reduceLeDiff, ↓reduceIte, ia]; exact ea.2.1)
      · exact key _ (by simp (disch := omega) only [e_finder, if_pos hx1, if_pos hx2, n01, n02, n03, Nat.reduceEqDiff, Nat.reduceLeDiff, ↓reduceIte]) hko (by simp (disch := omega) only [K_finder, k_finder, mrow_hit, mrow_miss, ne_eq, Nat.reduceEqDiff, not_false_eq_true, reduceCtorEq, isF_t (show nf ≤ 100 by omega) (t0 _) hx1, wi_t hx2, may1_t (t0 _), if_neg pu_n10, if_neg pu_n20, q20, q21, q22, q23, i20, i21, i22, i23, n20, n21, n22, n23, n01, n02, n03, Nat.reduceEqDiff, Nat.reduceLeDiff, ↓reduceIte, k_heldBy, d_heldBy]; exact hb_eq _ nt (fun t ht => hd.2.2.2.1 t ht))
      · exact key _ (by simp (disch := omega) only [e_finder, if_pos hx1, if_pos hx2, n01, n02, n03, Nat.reduceEqDiff, Nat.reduceLeDiff, ↓reduceIte]) hko (by simp (disch := omega) only [K_finder, k_finder, mrow_hit, mrow_miss, ne_eq, Nat.reduceEqDiff, not_false_eq_true, reduceCtorEq, isF_t (show nf ≤ 100 by omega) (t0 _) hx1, wi_t hx2, may1_t (t0 _), if_neg pu_n10, if_neg pu_n20, q20, q21, q22, q23, i20, i21, i22, i23, n20, n21, n22, n23, n01, n02, n03, Nat.reduceEqDiff, Nat.reduceLeDiff, ↓reduceIte, k_heldBy, d_heldBy, k_worthOf, v_worthOf]; rw [show k_heldBy_4 (k_take (M.1 71) (M.1 72)).2 (nI a) nt = d_heldBy_4 (M.1 38) (nI a) nt from hb_eq _ nt (fun t ht => hd.2.2.2.1 t ht)]; exact wo_eq t1 _ nt (Nat.le_refl _))
      · exact key _ (by simp (disch := omega) only [e_finder, if_pos hx1, if_pos hx2, n01, n02, n03, Nat.reduceEqDiff, Nat.reduceLeDiff, ↓reduceIte, ia]) hko (by simp (disch := omega) only [K_finder, k_finder, mrow_hit, mrow_miss, ne_eq, Nat.reduceEqDiff, not_false_eq_true, reduceCtorEq, isF_t (show nf ≤ 100 by omega) (t0 _) hx1, wi_t hx2, may1_t (t0 _), if_neg pu_n10, if_neg pu_n20, q20, q21, q22, q23, i20, i21, i22, i23, n20, n21, n22, n23, n01, n02, n03, Nat.reduceEqDiff, Nat.reduceLeDiff, ↓reduceIte, ia]; exact ea.2.2.1)
      · exact key _ (by simp (disch := omega) only [e_finder, if_pos hx1, if_pos hx2, n01, n02, n03, Nat.reduceEqDiff, Nat.reduceLeDiff, ↓reduceIte, ia]) hko (by simp (disch := omega) only [K_finder, k_finder, mrow_hit, mrow_miss, ne_eq, Nat.reduceEqDiff, not_false_eq_true, reduceCtorEq, isF_t (show nf ≤ 100 by omega) (t0 _) hx1, wi_t hx2, may1_t (t0 _), if_neg pu_n10, if_neg pu_n20, q20, q21, q22, q23, i20, i21, i22, i23, n20, n21, n22, n23, n01, n02, n03, Nat.reduceEqDiff, Nat.reduceLeDiff, ↓reduceIte, ia]; exact ea.2.2.2.1)
      · exact key _ (by simp (disch := omega) only [e_finder, if_pos hx1, if_pos hx2, n01, n02, n03, Nat.reduceEqDiff, Nat.reduceLeDiff, ↓reduceIte, ia]) hko (by simp (disch := omega) only [K_finder, k_finder, mrow_hit, mrow_miss, ne_eq, Nat.reduceEqDiff, not_false_eq_true, reduceCtorEq, isF_t (show nf ≤ 100 by omega) (t0 _) hx1, wi_t hx2, may1_t (t0 _), if_neg pu_n10, if_neg pu_n20, q20, q21, q22, q23, i20, i21, i22, i23, n20, n21, n22, n23, n01, n02, n03, Nat.reduceEqDiff, Nat.reduceLeDiff, ↓reduceIte, ia]; exact ea.2.2.2.2)
    · refine ⟨⟨z3, s3, z4, s4, by simp only [e_finder_ok, if_pos hx1, if_neg hx2]⟩, ?_⟩
      refine Ag.bad1 h (by decide) _ (by simp only [e_finder, if_pos hx1, if_neg hx2]) ?_ ?_ ?_ ?_ ?_
      · simp only [KO_finder, k_finder_ok, mrow_hit, mrow_miss, ne_eq, Nat.reduceEqDiff, not_false_eq_true, reduceCtorEq, isF_t (show nf ≤ 100 by omega) (t0 _) hx1, wi_f hx2, may1_f (t0 _) pu_n20, if_neg pu_n10, if_neg pu_n20, if_pos pu_n01, q20, q21, q22, q23, i20, i21, i22, i23, n20, n21, n22, n23, z1, z2, z3, z4, c1, c2, c3, c4, take_ok, and_self, true_and, and_true]
      · simp only [K_finder, k_finder, mrow_hit, mrow_miss, ne_eq, Nat.reduceEqDiff, not_false_eq_true, reduceCtorEq, isF_t (show nf ≤ 100 by omega) (t0 _) hx1, wi_f hx2, may1_f (t0 _) pu_n20, if_neg pu_n10, if_neg pu_n20, if_pos pu_n01, q20, q21, q22, q23, i20, i21, i22, i23, n20, n21, n22, n23]
      · simp only [K_finder, k_finder, mrow_hit, mrow_miss, ne_eq, Nat.reduceEqDiff, not_false_eq_true, reduceCtorEq, isF_t (show nf ≤ 100 by omega) (t0 _) hx1, wi_f hx2, may1_f (t0 _) pu_n20, if_neg pu_n10, if_neg pu_n20, if_pos pu_n01, q20, q21, q22, q23, i20, i21, i22, i23, n20, n21, n22, n23]
      · simp only [K_finder, mrow_hit, mrow_miss, ne_eq, Nat.reduceEqDiff, not_false_eq_true, reduceCtorEq]
      · intro c hc
        simp only [K_finder]
        rw [mrow_miss _ _ (scr_ne hc rfl), mrow_miss _ _ (scr_ne hc rfl), mrow_miss _ _ (scr_ne hc rfl), mrow_miss _ _ (scr_ne hc rfl)]
  · refine ⟨⟨z3, s3, z4, s4, by simp only [e_finder_ok, if_neg hx1]⟩, ?_⟩
    refine Ag.bad0 h (by decide) _ (by simp only [e_finder, if_neg hx1]) ?_ ?_ ?_ ?_ ?_
    · simp only [KO_finder, k_finder_ok, mrow_hit, mrow_miss, ne_eq, Nat.reduceEqDiff, not_false_eq_true, reduceCtorEq, isF_f (show nf ≤ 100 by omega) (t0 _) pu_n10 hx1, if_neg pu_n10, if_neg pu_n20, if_pos pu_n01, q20, q21, q22, q23, i20, i21, i22, i23, n20, n21, n22, n23, z1, z2, z3, z4, c1, c2, c3, c4, take_ok, and_self, true_and, and_true]
    · simp only [K_finder, k_finder, mrow_hit, mrow_miss, ne_eq, Nat.reduceEqDiff, not_false_eq_true, reduceCtorEq, isF_f (show nf ≤ 100 by omega) (t0 _) pu_n10 hx1, if_neg pu_n10, if_neg pu_n20, if_pos pu_n01, q20, q21, q22, q23, i20, i21, i22, i23, n20, n21, n22, n23]
    · simp only [K_finder, k_finder, mrow_hit, mrow_miss, ne_eq, Nat.reduceEqDiff, not_false_eq_true, reduceCtorEq, isF_f (show nf ≤ 100 by omega) (t0 _) pu_n10 hx1, if_neg pu_n10, if_neg pu_n20, if_pos pu_n01, q20, q21, q22, q23, i20, i21, i22, i23, n20, n21, n22, n23]
    · simp only [K_finder, mrow_hit, mrow_miss, ne_eq, Nat.reduceEqDiff, not_false_eq_true, reduceCtorEq]
    · intro c hc
      simp only [K_finder]
      rw [mrow_miss _ _ (scr_ne hc rfl), mrow_miss _ _ (scr_ne hc rfl), mrow_miss _ _ (scr_ne hc rfl), mrow_miss _ _ (scr_ne hc rfl)]
theorem op_can {np nr nt nf : Nat} {M : Mem} (h : IV np nr nt nf M) (x1 x2 : Int32) : EO_can M nt nf x1 x2 ∧ Ag 0 1 (e_can M nt nf x1 x2) (fun N => KO_can N nf x1 x2) (fun N => K_can N nf x1 x2) := by
  obtain ⟨⟨z1, z2, z3, z4⟩, ⟨s1, s2, s3, s4⟩, ⟨c1, c2, c3, c4⟩, ⟨t1, t2, t3⟩, hL, hDd, hH, hI, hTP, ⟨b1, b2, b3, b4, b5⟩, hBK⟩ := id h
  obtain ⟨hD, -⟩ := id hDd
  have hd := DR_take (s := M.1 72) hD z3 z4
  have q20 : upd (M.1 54) 0 (nI 0) 20 = nI np := by rw [pk_un (by decide)]; exact c1
  have q21 : upd (M.1 54) 0 (nI 0) 21 = nI nr := by rw [pk_un (by decide)]; exact c2
  have q22 : upd (M.1 54) 0 (nI 0) 22 = nI nt := by rw [pk_un (by decide)]; exact c3
  have q23 : upd (M.1 54) 0 (nI 0) 23 = nI nf := by rw [pk_un (by decide)]; exact c4
  have i20 : ix (nI np) = np := pu_ix (by omega)
  have i21 : ix (nI nr) = nr := pu_ix (by omega)
  have i22 : ix (nI nt) = nt := pu_ix (by omega)
  have i23 : ix (nI nf) = nf := pu_ix (by omega)
  have n20 : isN (nI np) := pu_isN (by omega)
  have n21 : isN (nI nr) := pu_isN (by omega)
  have n22 : isN (nI nt) := pu_isN (by omega)
  have n23 : isN (nI nf) := pu_isN (by omega)
  have hz : SZ np nr nt nf := ⟨z1, z2, z3, z4⟩
  by_cases hx1 : ¬ x1 < 0 ∧ x1 < nI nf
  · skip
    by_cases hx2 : ¬ x2 < 0 ∧ x2 < nI nt
    · skip
      obtain ⟨a, ha, rfl⟩ := pu_in (n := nf) (by omega) hx1.1 hx1.2
      have ia : ix (nI a) = a := pu_ix (by omega)
      have ya : isN (nI a) := pu_isN (by omega)
      obtain ⟨t, ht, rfl⟩ := pu_in (n := nt) (by omega) hx2.1 hx2.2
      have it : ix (nI t) = t := pu_ix (by omega)
      have yt : isN (nI t) := pu_isN (by omega)
      have n01 : ∀ {a b : Nat}, a < 100 → b < 100 → (nI a = nI b) = (a = b) := fun ha hb => propext (pu_eqi (by omega) (by omega))
      have n02 : ∀ {a b : Nat}, a < 100 → b < 100 → (nI a ≤ nI b) = (a ≤ b) := fun ha hb => propext (pu_lei (by omega) (by omega))
      have n03 : ∀ {a : Nat}, a < 100 → (nI a = 0) = (a = 0) := fun ha => propext (by rw [← nI_0]; exact pu_eqi (by omega) (by omega))
      refine ⟨⟨z3, s3, z4, s4, by simp (disch := omega) only [e_can_ok, if_pos hx1, if_pos hx2, ia, ya, it, yt, show a < 6 by omega, show t < 10 by omega, and_self]⟩, ?_⟩
      have key : ∀ (v : Int32), e_can M nt nf x1 x2 = .inl (some (.int v), M) → KO_can (M) nf x1 x2 → (K_can (M) nf x1 x2).1 = v → Ag 0 1 (e_can M nt nf x1 x2) (fun N => KO_can N nf x1 x2) (fun N => K_can N nf x1 x2) := by
        intro v e1 e0 e2
        refine Ag.good h _ (M) v e1 e0 e2 ?_ ?_ ?_ ?_
        · simp only [K_can, k_can, mrow_hit, mrow_miss, ne_eq, Nat.reduceEqDiff, not_false_eq_true, reduceCtorEq, isF_t (show nf ≤ 100 by omega) (t0 _) hx1, isT_t (show nt ≤ 100 by omega) (t0 _) hx2, if_neg pu_n10, if_neg pu_n20]
          repeat' split
          all_goals rfl
        · simp only [K_can, k_can, mrow_hit, mrow_miss, ne_eq, Nat.reduceEqDiff, not_false_eq_true, reduceCtorEq, isF_t (show nf ≤ 100 by omega) (t0 _) hx1, isT_t (show nt ≤ 100 by omega) (t0 _) hx2, if_neg pu_n10, if_neg pu_n20]
          repeat' split
          all_goals rfl
        · simp only [K_can, mrow_hit, mrow_miss, ne_eq, Nat.reduceEqDiff, not_false_eq_true, reduceCtorEq]
        · intro c hc
          simp only [K_can]
          rw [mrow_miss _ _ (scr_ne hc rfl), mrow_miss _ _ (scr_ne hc rfl), mrow_miss _ _ (scr_ne hc rfl)]
      have hko : KO_can M nf x1 x2 := by
        simp (disch := omega) only [KO_can, k_can_ok, mrow_hit, mrow_miss, ne_eq, Nat.reduceEqDiff, not_false_eq_true, reduceCtorEq, isF_t (show nf ≤ 100 by omega) (t0 _) hx1, isT_t (show nt ≤ 100 by omega) (t0 _) hx2, if_neg pu_n10, if_neg pu_n20, q20, q21, q22, q23, i20, i21, i22, i23, n20, n21, n22, n23, z1, z2, z3, z4, c1, c2, c3, c4, take_ok, true_and, and_true, and_self, ia, ya, it, yt, show a < 6 by omega, show t < 10 by omega]
      exact key _ (by simp only [e_can, if_pos hx1, if_pos hx2, ia, it]) hko (by simp only [K_can, k_can, mrow_hit, mrow_miss, ne_eq, Nat.reduceEqDiff, not_false_eq_true, reduceCtorEq, isF_t (show nf ≤ 100 by omega) (t0 _) hx1, isT_t (show nt ≤ 100 by omega) (t0 _) hx2, if_neg pu_n10, q20, q21, q22, q23, i20, i21, i22, i23, n20, n21, n22, n23, ia, it]; exact sm_can hd ⟨z1, z4⟩ ha ht)
    · refine ⟨⟨z3, s3, z4, s4, by simp only [e_can_ok, if_pos hx1, if_neg hx2]⟩, ?_⟩
      refine Ag.bad0 h (by decide) _ (by simp only [e_can, if_pos hx1, if_neg hx2]) ?_ ?_ ?_ ?_ ?_
      · simp only [KO_can, k_can_ok, mrow_hit, mrow_miss, ne_eq, Nat.reduceEqDiff, not_false_eq_true, reduceCtorEq, isF_t (show nf ≤ 100 by omega) (t0 _) hx1, isT_f (show nt ≤ 100 by omega) (t0 _) pu_n10 hx2, if_neg pu_n10, if_neg pu_n20, if_pos pu_n01, q20, q21, q22, q23, i20, i21, i22, i23, n20, n21, n22, n23, z1, z2, z3, z4, c1, c2, c3, c4, take_ok, and_self, true_and, and_true]
      · simp only [K_can, k_can, mrow_hit, mrow_miss, ne_eq, Nat.reduceEqDiff, not_false_eq_true, reduceCtorEq, isF_t (show nf ≤ 100 by omega) (t0 _) hx1, isT_f (show nt ≤ 100 by omega) (t0 _) pu_n10 hx2, if_neg pu_n10, if_neg pu_n20, if_pos pu_n01, q20, q21, q22, q23, i20, i21, i22, i23, n20, n21, n22, n23]
      · simp only [K_can, k_can, mrow_hit, mrow_miss, ne_eq, Nat.reduceEqDiff, not_false_eq_true, reduceCtorEq, isF_t (show nf ≤ 100 by omega) (t0 _) hx1, isT_f (show nt ≤ 100 by omega) (t0 _) pu_n10 hx2, if_neg pu_n10, if_neg pu_n20, if_pos pu_n01, q20, q21, q22, q23, i20, i21, i22, i23, n20, n21, n22, n23]
      · simp only [K_can, mrow_hit, mrow_miss, ne_eq, Nat.reduceEqDiff, not_false_eq_true, reduceCtorEq]
      · intro c hc
        simp only [K_can]
        rw [mrow_miss _ _ (scr_ne hc rfl), mrow_miss _ _ (scr_ne hc rfl), mrow_miss _ _ (scr_ne hc rfl), mrow_miss _ _ (scr_ne hc rfl)]
  · refine ⟨⟨z3, s3, z4, s4, by simp only [e_can_ok, if_neg hx1]⟩, ?_⟩
    refine Ag.bad0 h (by decide) _ (by simp only [e_can, if_neg hx1]) ?_ ?_ ?_ ?_ ?_
    · simp only [KO_can, k_can_ok, mrow_hit, mrow_miss, ne_eq, Nat.reduceEqDiff, not_false_eq_true, reduceCtorEq, isF_f (show nf ≤ 100 by omega) (t0 _) pu_n10 hx1, if_neg pu_n10, if_neg pu_n20, if_pos pu_n01, q20, q21, q22, q23, i20, i21, i22, i23, n20, n21, n22, n23, z1, z2, z3, z4, c1, c2, c3, c4, take_ok, and_self, true_and, and_true]
    · simp only [K_can, k_can, mrow_hit, mrow_miss, ne_eq, Nat.reduceEqDiff, not_false_eq_true, reduceCtorEq, isF_f (show nf ≤ 100 by omega) (t0 _) pu_n10 hx1, if_neg pu_n10, if_neg pu_n20, if_pos pu_n01, q20, q21, q22, q23, i20, i21, i22, i23, n20, n21, n22, n23]
    · simp only [K_can, k_can, mrow_hit, mrow_miss, ne_eq, Nat.reduceEqDiff, not_false_eq_true, reduceCtorEq, isF_f (show nf ≤ 100 by omega) (t0 _) pu_n10 hx1, if_neg pu_n10, if_neg pu_n20, if_pos pu_n01, q20, q21, q22, q23, i20, i21, i22, i23, n20, n21, n22, n23]
    · simp only [K_can, mrow_hit, mrow_miss, ne_eq, Nat.reduceEqDiff, not_false_eq_true, reduceCtorEq]
    · intro c hc
      simp only [K_can]
      rw [mrow_miss _ _ (scr_ne hc rfl), mrow_miss _ _ (scr_ne hc rfl), mrow_miss _ _ (scr_ne hc rfl), mrow_miss _ _ (scr_ne hc rfl)]
theorem op_duty {np nr nt nf : Nat} {M : Mem} (h : IV np nr nt nf M) (x1 x2 : Int32) : EO_duty M nt nf x1 x2 ∧ Ag 0 1 (e_duty M nt nf x1 x2) (fun N => KO_duty N nf x1 x2) (fun N => K_duty N nf x1 x2) := by
  obtain ⟨⟨z1, z2, z3, z4⟩, ⟨s1, s2, s3, s4⟩, ⟨c1, c2, c3, c4⟩, ⟨t1, t2, t3⟩, hL, hDd, hH, hI, hTP, ⟨b1, b2, b3, b4, b5⟩, hBK⟩ := id h
  obtain ⟨hD, -⟩ := id hDd
  have hd := DR_take (s := M.1 72) hD z3 z4
  have q20 : upd (M.1 54) 0 (nI 0) 20 = nI np := by rw [pk_un (by decide)]; exact c1
  have q21 : upd (M.1 54) 0 (nI 0) 21 = nI nr := by rw [pk_un (by decide)]; exact c2
  have q22 : upd (M.1 54) 0 (nI 0) 22 = nI nt := by rw [pk_un (by decide)]; exact c3
  have q23 : upd (M.1 54) 0 (nI 0) 23 = nI nf := by rw [pk_un (by decide)]; exact c4
  have i20 : ix (nI np) = np := pu_ix (by omega)
  have i21 : ix (nI nr) = nr := pu_ix (by omega)
  have i22 : ix (nI nt) = nt := pu_ix (by omega)
  have i23 : ix (nI nf) = nf := pu_ix (by omega)
  have n20 : isN (nI np) := pu_isN (by omega)
  have n21 : isN (nI nr) := pu_isN (by omega)
  have n22 : isN (nI nt) := pu_isN (by omega)
  have n23 : isN (nI nf) := pu_isN (by omega)
  have hz : SZ np nr nt nf := ⟨z1, z2, z3, z4⟩
  by_cases hx1 : ¬ x1 < 0 ∧ x1 < nI nf
  · skip
    by_cases hx2 : ¬ x2 < 0 ∧ x2 < nI nt
    · skip
      obtain ⟨a, ha, rfl⟩ := pu_in (n := nf) (by omega) hx1.1 hx1.2
      have ia : ix (nI a) = a := pu_ix (by omega)
      have ya : isN (nI a) := pu_isN (by omega)
      obtain ⟨t, ht, rfl⟩ := pu_in (n := nt) (by omega) hx2.1 hx2.2
      have it : ix (nI t) = t := pu_ix (by omega)
      have yt : isN (nI t) := pu_isN (by omega)
      have n01 : ∀ {a b : Nat}, a < 100 → b < 100 → (nI a = nI b) = (a = b) := fun ha hb => propext (pu_eqi (by omega) (by omega))
      have n02 : ∀ {a b : Nat}, a < 100 → b < 100 → (nI a ≤ nI b) = (a ≤ b) := fun ha hb => propext (pu_lei (by omega) (by omega))
      have n03 : ∀ {a : Nat}, a < 100 → (nI a = 0) = (a = 0) := fun ha => propext (by rw [← nI_0]; exact pu_eqi (by omega) (by omega))
      have hL' : LWr (M.1 21) (M.1 23) (upd (M.1 54) 0 (nI 0)) (M.1 65) (M.1 66) := LWr_cg hL (pk_un (by decide))
      obtain ⟨u1, u2, u3, -⟩ := sm_duty (G := M.1 22) (Vs := M.1 24) (St := M.1 67) (F := M.1 68) hd t1 hz hL' ha ht
      rcases x8 : d_dutyOf (M.1 7) (M.1 21) (M.1 22) (M.1 23) (M.1 24) (M.1 38) nt a t with ⟨v8, r8, r9⟩
      rw [x8] at u3
      simp only at u3
      refine ⟨⟨z3, s3, z4, s4, by simp (disch := omega) only [e_duty_ok, if_pos hx1, if_pos hx2, ia, ya, it, yt, show a < 6 by omega, show t < 10 by omega, u1, and_self]⟩, ?_⟩
      refine Ag.good h _ (mrow (mrow M 22 r8) 24 r9) v8 (by simp only [e_duty, if_pos hx1, if_pos hx2, ia, it, x8]) ?_ ?_ ?_ ?_ ?_ ?_
      · simp only [KO_duty, k_duty_ok, mrow_hit, mrow_miss, ne_eq, Nat.reduceEqDiff, not_false_eq_true, reduceCtorEq, isF_t (show nf ≤ 100 by omega) (t0 _) hx1, isT_t (show nt ≤ 100 by omega) (t0 _) hx2, if_neg pu_n10, q20, q21, q22, q23, i20, i21, i22, i23, n20, n21, n22, n23, z1, z2, z3, z4, c1, c2, c3, c4, take_ok, ia, ya, it, yt, show a < 6 by omega, show t < 10 by omega, u2, true_and, and_true, and_self]
      · simp only [K_duty, k_duty, mrow_hit, mrow_miss, ne_eq, Nat.reduceEqDiff, not_false_eq_true, reduceCtorEq, isF_t (show nf ≤ 100 by omega) (t0 _) hx1, isT_t (show nt ≤ 100 by omega) (t0 _) hx2, if_neg pu_n10, q20, q21, q22, q23, i20, i21, i22, i23, n20, n21, n22, n23, ia, it]; exact u3
      · simp only [K_duty, k_duty, mrow_hit, mrow_miss, ne_eq, Nat.reduceEqDiff, not_false_eq_true, reduceCtorEq, isF_t (show nf ≤ 100 by omega) (t0 _) hx1, isT_t (show nt ≤ 100 by omega) (t0 _) hx2, if_neg pu_n10, q20, q21, q22, q23, i20, i21, i22, i23, n20, n21, n22, n23, ia, it]
      · simp only [K_duty, k_duty, mrow_hit, mrow_miss, ne_eq, Nat.reduceEqDiff, not_false_eq_true, reduceCtorEq, isF_t (show nf ≤ 100 by omega) (t0 _) hx1, isT_t (show nt ≤ 100 by omega) (t0 _) hx2, if_neg pu_n10, q20, q21, q22, q23, i20, i21, i22, i23, n20, n21, n22, n23, ia, it]
      · simp only [K_duty, mrow_hit, mrow_miss, ne_eq, Nat.reduceEqDiff, not_false_eq_true, reduceCtorEq]
      · intro c hc
        simp only [K_duty]
        rw [mrow_miss _ _ (scr_ne hc rfl), mrow_miss _ _ (scr_ne hc rfl), mrow_miss _ _ (scr_ne hc rfl), mrow_miss _ _ (scr_ne hc rfl), mrow_miss _ _ (scr_ne hc rfl), mrow_miss _ _ (scr_ne hc rfl), mrow_miss _ _ (scr_ne hc rfl)]
    · refine ⟨⟨z3, s3, z4, s4, by simp only [e_duty_ok, if_pos hx1, if_neg hx2]⟩, ?_⟩
      refine Ag.bad0 h (by decide) _ (by simp only [e_duty, if_pos hx1, if_neg hx2]) ?_ ?_ ?_ ?_ ?_
      · simp only [KO_duty, k_duty_ok, mrow_hit, mrow_miss, ne_eq, Nat.reduceEqDiff, not_false_eq_true, reduceCtorEq, isF_t (show nf ≤ 100 by omega) (t0 _) hx1, isT_f (show nt ≤ 100 by omega) (t0 _) pu_n10 hx2, if_neg pu_n10, if_neg pu_n20, if_pos pu_n01, q20, q21, q22, q23, i20, i21, i22, i23, n20, n21, n22, n23, z1, z2, z3, z4, c1, c2, c3, c4, take_ok, and_self, true_and, and_true]
      · simp only [K_duty, k_duty, mrow_hit, mrow_miss, ne_eq, Nat.reduceEqDiff, not_false_eq_true, reduceCtorEq, isF_t (show nf ≤ 100 by omega) (t0 _) hx1, isT_f (show nt ≤ 100 by omega) (t0 _) pu_n10 hx2, if_neg pu_n10, if_neg pu_n20, if_pos pu_n01, q20, q21, q22, q23, i20, i21, i22, i23, n20, n21, n22, n23]
      · simp only [K_duty, k_duty, mrow_hit, mrow_miss, ne_eq, Nat.reduceEqDiff, not_false_eq_true, reduceCtorEq, isF_t (show nf ≤ 100 by omega) (t0 _) hx1, isT_f (show nt ≤ 100 by omega) (t0 _) pu_n10 hx2, if_neg pu_n10, if_neg pu_n20, if_pos pu_n01, q20, q21, q22, q23, i20, i21, i22, i23, n20, n21, n22, n23]
      · simp only [K_duty, mrow_hit, mrow_miss, ne_eq, Nat.reduceEqDiff, not_false_eq_true, reduceCtorEq]
      · intro c hc
        simp only [K_duty]
        rw [mrow_miss _ _ (scr_ne hc rfl), mrow_miss _ _ (scr_ne hc rfl), mrow_miss _ _ (scr_ne hc rfl), mrow_miss _ _ (scr_ne hc rfl), mrow_miss _ _ (scr_ne hc rfl), mrow_miss _ _ (scr_ne hc rfl)]
  · refine ⟨⟨z3, s3, z4, s4, by simp only [e_duty_ok, if_neg hx1]⟩, ?_⟩
    refine Ag.bad0 h (by decide) _ (by simp only [e_duty, if_neg hx1]) ?_ ?_ ?_ ?_ ?_
    · simp only [KO_duty, k_duty_ok, mrow_hit, mrow_miss, ne_eq, Nat.reduceEqDiff, not_false_eq_true, reduceCtorEq, isF_f (show nf ≤ 100 by omega) (t0 _) pu_n10 hx1, if_neg pu_n10, if_neg pu_n20, if_pos pu_n01, q20, q21, q22, q23, i20, i21, i22, i23, n20, n21, n22, n23, z1, z2, z3, z4, c1, c2, c3, c4, take_ok, and_self, true_and, and_true]
    · simp only [K_duty, k_duty, mrow_hit, mrow_miss, ne_eq, Nat.reduceEqDiff, not_false_eq_true, reduceCtorEq, isF_f (show nf ≤ 100 by omega) (t0 _) pu_n10 hx1, if_neg pu_n10, if_neg pu_n20, if_pos pu_n01, q20, q21, q22, q23, i20, i21, i22, i23, n20, n21, n22, n23]
    · simp only [K_duty, k_duty, mrow_hit, mrow_miss, ne_eq, Nat.reduceEqDiff, not_false_eq_true, reduceCtorEq, isF_f (show nf ≤ 100 by omega) (t0 _) pu_n10 hx1, if_neg pu_n10, if_neg pu_n20, if_pos pu_n01, q20, q21, q22, q23, i20, i21, i22, i23, n20, n21, n22, n23]
    · simp only [K_duty, mrow_hit, mrow_miss, ne_eq, Nat.reduceEqDiff, not_false_eq_true, reduceCtorEq]
    · intro c hc
      simp only [K_duty]
      rw [mrow_miss _ _ (scr_ne hc rfl), mrow_miss _ _ (scr_ne hc rfl), mrow_miss _ _ (scr_ne hc rfl), mrow_miss _ _ (scr_ne hc rfl), mrow_miss _ _ (scr_ne hc rfl), mrow_miss _ _ (scr_ne hc rfl)]
theorem op_far {np nr nt nf : Nat} {M : Mem} (h : IV np nr nt nf M) (x1 x2 : Int32) : EO_far M np x1 x2 ∧ Ag 0 1 (e_far M np x1 x2) (fun N => KO_far N np x1 x2) (fun N => K_far N np x1 x2) := by
  obtain ⟨⟨z1, z2, z3, z4⟩, ⟨s1, s2, s3, s4⟩, ⟨c1, c2, c3, c4⟩, ⟨t1, t2, t3⟩, hL, hDd, hH, hI, hTP, ⟨b1, b2, b3, b4, b5⟩, hBK⟩ := id h
  obtain ⟨hD, -⟩ := id hDd
  have hd := DR_take (s := M.1 72) hD z3 z4
  have q20 : upd (M.1 54) 0 (nI 0) 20 = nI np := by rw [pk_un (by decide)]; exact c1
  have q21 : upd (M.1 54) 0 (nI 0) 21 = nI nr := by rw [pk_un (by decide)]; exact c2
  have q22 : upd (M.1 54) 0 (nI 0) 22 = nI nt := by rw [pk_un (by decide)]; exact c3
  have q23 : upd (M.1 54) 0 (nI 0) 23 = nI nf := by rw [pk_un (by decide)]; exact c4
  have i20 : ix (nI np) = np := pu_ix (by omega)
  have i21 : ix (nI nr) = nr := pu_ix (by omega)
  have i22 : ix (nI nt) = nt := pu_ix (by omega)
  have i23 : ix (nI nf) = nf := pu_ix (by omega)
  have n20 : isN (nI np) := pu_isN (by omega)
  have n21 : isN (nI nr) := pu_isN (by omega)
  have n22 : isN (nI nt) := pu_isN (by omega)
  have n23 : isN (nI nf) := pu_isN (by omega)
  have hz : SZ np nr nt nf := ⟨z1, z2, z3, z4⟩
  by_cases hx1 : ¬ x1 < 0 ∧ x1 < nI np
  · skip
    by_cases hx2 : ¬ x2 < 0 ∧ x2 < nI np
    · skip
      obtain ⟨a, ha, rfl⟩ := pu_in (n := np) (by omega) hx1.1 hx1.2
      have ia : ix (nI a) = a := pu_ix (by omega)
      have ya : isN (nI a) := pu_isN (by omega)
      obtain ⟨t, ht, rfl⟩ := pu_in (n := np) (by omega) hx2.1 hx2.2
      have it : ix (nI t) = t := pu_ix (by omega)
      have yt : isN (nI t) := pu_isN (by omega)
      have n01 : ∀ {a b : Nat}, a < 100 → b < 100 → (nI a = nI b) = (a = b) := fun ha hb => propext (pu_eqi (by omega) (by omega))
      have n02 : ∀ {a b : Nat}, a < 100 → b < 100 → (nI a ≤ nI b) = (a ≤ b) := fun ha hb => propext (pu_lei (by omega) (by omega))
      have n03 : ∀ {a : Nat}, a < 100 → (nI a = 0) = (a = 0) := fun ha => propext (by rw [← nI_0]; exact pu_eqi (by omega) (by omega))
      have hfr : ∀ p q, p < np → q < np → v_farFrom (M.1 11) p q = k_orNone (M.1 76 (8 * p + q)) := by
        intro p q hp hq
        simp only [v_farFrom, k_orNone]
        rcases t3 p q hp hq with ⟨d, hd1, g1, g2⟩ | ⟨g1, g2⟩
        · rw [g1, g2, if_neg (fun z => by have := (pu_lei (by omega) (by omega)).mp z; omega), if_pos ((pu_lti (by omega) (by omega)).mpr (by omega))]
        · rw [g1, g2, if_pos (Int32.le_refl _), if_neg (fun z => by have := (pu_lti (by omega) (by omega)).mp z; omega)]
      refine ⟨⟨z1, s1, by simp (disch := omega) only [e_far_ok, if_pos hx1, if_pos hx2, ia, ya, it, yt, show a < 8 by omega, show t < 8 by omega, and_self]⟩, ?_⟩
      have key : ∀ (v : Int32), e_far M np x1 x2 = .inl (some (.int v), M) → KO_far (M) np x1 x2 → (K_far (M) np x1 x2).1 = v → Ag 0 1 (e_far M np x1 x2) (fun N => KO_far N np x1 x2) (fun N => K_far N np x1 x2) := by
        intro v e1 e0 e2
        refine Ag.good h _ (M) v e1 e0 e2 ?_ ?_ ?_ ?_
        · simp only [K_far, k_far, mrow_hit, mrow_miss, ne_eq, Nat.reduceEqDiff, not_false_eq_true, reduceCtorEq, isP_t (show np ≤ 100 by omega) (t0 _) hx1, isP_t (show np ≤ 100 by omega) (t0 _) hx2, if_neg pu_n10, if_neg pu_n20]
          repeat' split
          all_goals rfl
        · simp only [K_far, k_far, mrow_hit, mrow_miss, ne_eq, Nat.reduceEqDiff, not_false_eq_true, reduceCtorEq, isP_t (show np ≤ 100 by omega) (t0 _) hx1, isP_t (show np ≤ 100 by omega) (t0 _) hx2, if_neg pu_n10, if_neg pu_n20]
          repeat' split
          all_goals rfl
        · simp only [K_far, mrow_hit, mrow_miss, ne_eq, Nat.reduceEqDiff, not_false_eq_true, reduceCtorEq]
        · intro c hc
          simp only [K_far]
          rw [mrow_miss _ _ (scr_ne hc rfl), mrow_miss _ _ (scr_ne hc rfl)]
      have hko : KO_far M np x1 x2 := by
        simp (disch := omega) only [KO_far, k_far_ok, mrow_hit, mrow_miss, ne_eq, Nat.reduceEqDiff, not_false_eq_true, reduceCtorEq, isP_t (show np ≤ 100 by omega) (t0 _) hx1, isP_t (show np ≤ 100 by omega) (t0 _) hx2, if_neg pu_n10, if_neg pu_n20, q20, q21, q22, q23, i20, i21, i22, i23, n20, n21, n22, n23, z1, z2, z3, z4, c1, c2, c3, c4, take_ok, true_and, and_true, and_self, ia, ya, it, yt, show 8 * a + t < 64 by omega]
      exact key _ (by simp only [e_far, if_pos hx1, if_pos hx2, ia, it]) hko (by simp only [K_far, k_far, mrow_hit, mrow_miss, ne_eq, Nat.reduceEqDiff, not_false_eq_true, reduceCtorEq, isP_t (show np ≤ 100 by omega) (t0 _) hx1, isP_t (show np ≤ 100 by omega) (t0 _) hx2, if_neg pu_n10, q20, q21, q22, q23, i20, i21, i22, i23, n20, n21, n22, n23, ia, it]; exact (hfr a t ha ht).symm)
    · refine ⟨⟨z1, s1, by simp only [e_far_ok, if_pos hx1, if_neg hx2]⟩, ?_⟩
      refine Ag.bad0 h (by decide) _ (by simp only [e_far, if_pos hx1, if_neg hx2]) ?_ ?_ ?_ ?_ ?_
      · simp only [KO_far, k_far_ok, mrow_hit, mrow_miss, ne_eq, Nat.reduceEqDiff, not_false_eq_true, reduceCtorEq, isP_t (show np ≤ 100 by omega) (t0 _) hx1, isP_f (show np ≤ 100 by omega) (t0 _) pu_n10 hx2, if_neg pu_n10, if_neg pu_n20, if_pos pu_n01, q20, q21, q22, q23, i20, i21, i22, i23, n20, n21, n22, n23, z1, z2, z3, z4, c1, c2, c3, c4, take_ok, and_self, true_and, and_true]
      · simp only [K_far, k_far, mrow_hit, mrow_miss, ne_eq, Nat.reduceEqDiff, not_false_eq_true, reduceCtorEq, isP_t (show np ≤ 100 by omega) (t0 _) hx1, isP_f (show np ≤ 100 by omega) (t0 _) pu_n10 hx2, if_neg pu_n10, if_neg pu_n20, if_pos pu_n01, q20, q21, q22, q23, i20, i21, i22, i23, n20, n21, n22, n23]
      · simp only [K_far, k_far, mrow_hit, mrow_miss, ne_eq, Nat.reduceEqDiff, not_false_eq_true, reduceCtorEq, isP_t (show np ≤ 100 by omega) (t0 _) hx1, isP_f (show np ≤ 100 by omega) (t0 _) pu_n10 hx2, if_neg pu_n10, if_neg pu_n20, if_pos pu_n01, q20, q21, q22, q23, i20, i21, i22, i23, n20, n21, n22, n23]
      · simp only [K_far, mrow_hit, mrow_miss, ne_eq, Nat.reduceEqDiff, not_false_eq_true, reduceCtorEq]
      · intro c hc
        simp only [K_far]
        rw [mrow_miss _ _ (scr_ne hc rfl), mrow_miss _ _ (scr_ne hc rfl), mrow_miss _ _ (scr_ne hc rfl)]
  · refine ⟨⟨z1, s1, by simp only [e_far_ok, if_neg hx1]⟩, ?_⟩
    refine Ag.bad0 h (by decide) _ (by simp only [e_far, if_neg hx1]) ?_ ?_ ?_ ?_ ?_
    · simp only [KO_far, k_far_ok, mrow_hit, mrow_miss, ne_eq, Nat.reduceEqDiff, not_false_eq_true, reduceCtorEq, isP_f (show np ≤ 100 by omega) (t0 _) pu_n10 hx1, if_neg pu_n10, if_neg pu_n20, if_pos pu_n01, q20, q21, q22, q23, i20, i21, i22, i23, n20, n21, n22, n23, z1, z2, z3, z4, c1, c2, c3, c4, take_ok, and_self, true_and, and_true]
    · simp only [K_far, k_far, mrow_hit, mrow_miss, ne_eq, Nat.reduceEqDiff, not_false_eq_true, reduceCtorEq, isP_f (show np ≤ 100 by omega) (t0 _) pu_n10 hx1, if_neg pu_n10, if_neg pu_n20, if_pos pu_n01, q20, q21, q22, q23, i20, i21, i22, i23, n20, n21, n22, n23]
    · simp only [K_far, k_far, mrow_hit, mrow_miss, ne_eq, Nat.reduceEqDiff, not_false_eq_true, reduceCtorEq, isP_f (show np ≤ 100 by omega) (t0 _) pu_n10 hx1, if_neg pu_n10, if_neg pu_n20, if_pos pu_n01, q20, q21, q22, q23, i20, i21, i22, i23, n20, n21, n22, n23]
    · simp only [K_far, mrow_hit, mrow_miss, ne_eq, Nat.reduceEqDiff, not_false_eq_true, reduceCtorEq]
    · intro c hc
      simp only [K_far]
      rw [mrow_miss _ _ (scr_ne hc rfl), mrow_miss _ _ (scr_ne hc rfl), mrow_miss _ _ (scr_ne hc rfl)]
theorem op_way {np nr nt nf : Nat} {M : Mem} (h : IV np nr nt nf M) (x1 x2 : Int32) : EO_way M nt nf x1 x2 ∧ Ag 0 1 (e_way M nt nf x1 x2) (fun N => KO_way N nf x1 x2) (fun N => K_way N nf x1 x2) := by
  obtain ⟨⟨z1, z2, z3, z4⟩, ⟨s1, s2, s3, s4⟩, ⟨c1, c2, c3, c4⟩, ⟨t1, t2, t3⟩, hL, hDd, hH, hI, hTP, ⟨b1, b2, b3, b4, b5⟩, hBK⟩ := id h
  obtain ⟨hD, -⟩ := id hDd
  have hd := DR_take (s := M.1 72) hD z3 z4
  have q20 : upd (M.1 54) 0 (nI 0) 20 = nI np := by rw [pk_un (by decide)]; exact c1
  have q21 : upd (M.1 54) 0 (nI 0) 21 = nI nr := by rw [pk_un (by decide)]; exact c2
  have q22 : upd (M.1 54) 0 (nI 0) 22 = nI nt := by rw [pk_un (by decide)]; exact c3
  have q23 : upd (M.1 54) 0 (nI 0) 23 = nI nf := by rw [pk_un (by decide)]; exact c4
  have i20 : ix (nI np) = np := pu_ix (by omega)
  have i21 : ix (nI nr) = nr := pu_ix (by omega)
  have i22 : ix (nI nt) = nt := pu_ix (by omega)
  have i23 : ix (nI nf) = nf := pu_ix (by omega)
  have n20 : isN (nI np) := pu_isN (by omega)
  have n21 : isN (nI nr) := pu_isN (by omega)
  have n22 : isN (nI nt) := pu_isN (by omega)
  have n23 : isN (nI nf) := pu_isN (by omega)
  have hz : SZ np nr nt nf := ⟨z1, z2, z3, z4⟩
  by_cases hx1 : ¬ x1 < 0 ∧ x1 < nI nf
  · skip
    by_cases hx2 : ¬ x2 < 0 ∧ x2 < nI nt
    · skip
      obtain ⟨a, ha, rfl⟩ := pu_in (n := nf) (by omega) hx1.1 hx1.2
      have ia : ix (nI a) = a := pu_ix (by omega)
      have ya : isN (nI a) := pu_isN (by omega)
      obtain ⟨t, ht, rfl⟩ := pu_in (n := nt) (by omega) hx2.1 hx2.2
      have it : ix (nI t) = t := pu_ix (by omega)
      have yt : isN (nI t) := pu_isN (by omega)
      have n01 : ∀ {a b : Nat}, a < 100 → b < 100 → (nI a = nI b) = (a = b) := fun ha hb => propext (pu_eqi (by omega) (by omega))
      have n02 : ∀ {a b : Nat}, a < 100 → b < 100 → (nI a ≤ nI b) = (a ≤ b) := fun ha hb => propext (pu_lei (by omega) (by omega))
      have n03 : ∀ {a : Nat}, a < 100 → (nI a = 0) = (a = 0) := fun ha => propext (by rw [← nI_0]; exact pu_eqi (by omega) (by omega))
      have hfr : ∀ p q, p < np → q < np → v_farFrom (M.1 11) p q = k_orNone (M.1 76 (8 * p + q)) := by
        intro p q hp hq
        simp only [v_farFrom, k_orNone]
        rcases t3 p q hp hq with ⟨d, hd1, g1, g2⟩ | ⟨g1, g2⟩
        · rw [g1, g2, if_neg (fun z => by have := (pu_lei (by omega) (by omega)).mp z; omega), if_pos ((pu_lti (by omega) (by omega)).mpr (by omega))]
        · rw [g1, g2, if_pos (Int32.le_refl _), if_neg (fun z => by have := (pu_lti (by omega) (by omega)).mp z; omega)]
      have hwy : ∀ a t, a < nf → t < nt → w_wayTo_ok (M.1 11) (M.1 38) a t ∧ w_wayTo (M.1 11) (M.1 38) a t = (if M.1 71 (10 + t) = -1 then k_orNone (M.1 76 (8 * ix (M.1 71 (20 + a)) + ix (M.1 71 (0 + t)))) else -1) ∧ isN (M.1 71 (20 + a)) ∧ isN (M.1 71 (0 + t)) ∧ 8 * ix (M.1 71 (20 + a)) + ix (M.1 71 (0 + t)) < 64 := by
        intro a t ha ht
        obtain ⟨p, hp, ep⟩ := hD.2.2.1 a ha
        have e1 : M.1 71 (20 + a) = nI p := (hD.2.1 a ha).1.trans ep
        have e4 := hD.2.2.2.1 t ht
        simp only [w_wayTo, w_wayTo_ok, e1, e4, ep, Nat.zero_add]
        rcases hD.2.2.2.2.1 t ht with ⟨g1, g2, q, hq, eq⟩ | ⟨b, hb, g1, g2, g3⟩
        · have gn : ¬ nI q = -1 := pu_nm (by omega)
          rw [g1, if_pos rfl, g2, eq, if_neg gn, if_neg gn, pu_ix (show p < 2147483648 by omega), pu_ix (show q < 2147483648 by omega)]
          exact ⟨⟨pu_isN (by omega), by omega, pu_isN (by omega), by omega, trivial⟩, hfr p q hp hq, pu_isN (by omega), pu_isN (by omega), by omega⟩
        · obtain ⟨q, hq, eq⟩ := hD.2.2.1 b hb
          have gn : ¬ nI b = -1 := pu_nm (by omega)
          rw [g1, g2, g3, eq, if_pos rfl, if_pos rfl, if_neg gn, pu_ix (show p < 2147483648 by omega), pu_ix (show q < 2147483648 by omega)]
          exact ⟨trivial, rfl, pu_isN (by omega), pu_isN (by omega), by omega⟩
      obtain ⟨u1, u2, u3, u4, u5⟩ := hwy a t ha ht
      refine ⟨⟨z3, s3, z4, s4, by simp (disch := omega) only [e_way_ok, if_pos hx1, if_pos hx2, ia, ya, it, yt, show a < 6 by omega, show t < 10 by omega, u1, and_self]⟩, ?_⟩
      have key : ∀ (v : Int32), e_way M nt nf x1 x2 = .inl (some (.int v), M) → KO_way (M) nf x1 x2 → (K_way (M) nf x1 x2).1 = v → Ag 0 1 (e_way M nt nf x1 x2) (fun N => KO_way N nf x1 x2) (fun N => K_way N nf x1 x2) := by
        intro v e1 e0 e2
        refine Ag.good h _ (M) v e1 e0 e2 ?_ ?_ ?_ ?_
        · simp only [K_way, k_way, mrow_hit, mrow_miss, ne_eq, Nat.reduceEqDiff, not_false_eq_true, reduceCtorEq, isF_t (show nf ≤ 100 by omega) (t0 _) hx1, isT_t (show nt ≤ 100 by omega) (t0 _) hx2, if_neg pu_n10, if_neg pu_n20]
          repeat' split
          all_goals rfl
        · simp only [K_way, k_way, mrow_hit, mrow_miss, ne_eq, Nat.reduceEqDiff, not_false_eq_true, reduceCtorEq, isF_t (show nf ≤ 100 by omega) (t0 _) hx1, isT_t (show nt ≤ 100 by omega) (t0 _) hx2, if_neg pu_n10, if_neg pu_n20]
          repeat' split
          all_goals rfl
        · simp only [K_way, mrow_hit, mrow_miss, ne_eq, Nat.reduceEqDiff, not_false_eq_true, reduceCtorEq]
        · intro c hc
          simp only [K_way]
          rw [mrow_miss _ _ (scr_ne hc rfl), mrow_miss _ _ (scr_ne hc rfl)]
      have hko : KO_way M nf x1 x2 := by
        simp (disch := omega) only [KO_way, k_way_ok, mrow_hit, mrow_miss, ne_eq, Nat.reduceEqDiff, not_false_eq_true, reduceCtorEq, isF_t (show nf ≤ 100 by omega) (t0 _) hx1, isT_t (show nt ≤ 100 by omega) (t0 _) hx2, if_neg pu_n10, if_neg pu_n20, q20, q21, q22, q23, i20, i21, i22, i23, n20, n21, n22, n23, z1, z2, z3, z4, c1, c2, c3, c4, take_ok, true_and, and_true, and_self, ia, ya, it, yt, show 20 + a < 51 by omega, show 10 + t < 51 by omega, show 0 + t < 51 by omega, u3, u4, u5, ite_self]
      refine key _ (by simp only [e_way, if_pos hx1, if_pos hx2, ia, it]) hko ?_
      rw [u2]
      simp only [K_way, k_way, mrow_hit, mrow_miss, ne_eq, Nat.reduceEqDiff, not_false_eq_true, reduceCtorEq, isF_t (show nf ≤ 100 by omega) (t0 _) hx1, isT_t (show nt ≤ 100 by omega) (t0 _) hx2, if_neg pu_n10, q20, q21, q22, q23, i20, i21, i22, i23, n20, n21, n22, n23, ia, it]
      split <;> rfl
    · refine ⟨⟨z3, s3, z4, s4, by simp only [e_way_ok, if_pos hx1, if_neg hx2]⟩, ?_⟩
      refine Ag.bad0 h (by decide) _ (by simp only [e_way, if_pos hx1, if_neg hx2]) ?_ ?_ ?_ ?_ ?_
      · simp only [KO_way, k_way_ok, mrow_hit, mrow_miss, ne_eq, Nat.reduceEqDiff, not_false_eq_true, reduceCtorEq, isF_t (show nf ≤ 100 by omega) (t0 _) hx1, isT_f (show nt ≤ 100 by omega) (t0 _) pu_n10 hx2, if_neg pu_n10, if_neg pu_n20, if_pos pu_n01, q20, q21, q22, q23, i20, i21, i22, i23, n20, n21, n22, n23, z1, z2, z3, z4, c1, c2, c3, c4, take_ok, and_self, true_and, and_true]
      · simp only [K_way, k_way, mrow_hit, mrow_miss, ne_eq, Nat.reduceEqDiff, not_false_eq_true, reduceCtorEq, isF_t (show nf ≤ 100 by omega) (t0 _) hx1, isT_f (show nt ≤ 100 by omega) (t0 _) pu_n10 hx2, if_neg pu_n10, if_neg pu_n20, if_pos pu_n01, q20, q21, q22, q23, i20, i21, i22, i23, n20, n21, n22, n23]
      · simp only [K_way, k_way, mrow_hit, mrow_miss, ne_eq, Nat.reduceEqDiff, not_false_eq_true, reduceCtorEq, isF_t (show nf ≤ 100 by omega) (t0 _) hx1, isT_f (show nt ≤ 100 by omega) (t0 _) pu_n10 hx2, if_neg pu_n10, if_neg pu_n20, if_pos pu_n01, q20, q21, q22, q23, i20, i21, i22, i23, n20, n21, n22, n23]
      · simp only [K_way, mrow_hit, mrow_miss, ne_eq, Nat.reduceEqDiff, not_false_eq_true, reduceCtorEq]
      · intro c hc
        simp only [K_way]
        rw [mrow_miss _ _ (scr_ne hc rfl), mrow_miss _ _ (scr_ne hc rfl), mrow_miss _ _ (scr_ne hc rfl)]
  · refine ⟨⟨z3, s3, z4, s4, by simp only [e_way_ok, if_neg hx1]⟩, ?_⟩
    refine Ag.bad0 h (by decide) _ (by simp only [e_way, if_neg hx1]) ?_ ?_ ?_ ?_ ?_
    · simp only [KO_way, k_way_ok, mrow_hit, mrow_miss, ne_eq, Nat.reduceEqDiff, not_false_eq_true, reduceCtorEq, isF_f (show nf ≤ 100 by omega) (t0 _) pu_n10 hx1, if_neg pu_n10, if_neg pu_n20, if_pos pu_n01, q20, q21, q22, q23, i20, i21, i22, i23, n20, n21, n22, n23, z1, z2, z3, z4, c1, c2, c3, c4, take_ok, and_self, true_and, and_true]
    · simp only [K_way, k_way, mrow_hit, mrow_miss, ne_eq, Nat.reduceEqDiff, not_false_eq_true, reduceCtorEq, isF_f (show nf ≤ 100 by omega) (t0 _) pu_n10 hx1, if_neg pu_n10, if_neg pu_n20, if_pos pu_n01, q20, q21, q22, q23, i20, i21, i22, i23, n20, n21, n22, n23]
    · simp only [K_way, k_way, mrow_hit, mrow_miss, ne_eq, Nat.reduceEqDiff, not_false_eq_true, reduceCtorEq, isF_f (show nf ≤ 100 by omega) (t0 _) pu_n10 hx1, if_neg pu_n10, if_neg pu_n20, if_pos pu_n01, q20, q21, q22, q23, i20, i21, i22, i23, n20, n21, n22, n23]
    · simp only [K_way, mrow_hit, mrow_miss, ne_eq, Nat.reduceEqDiff, not_false_eq_true, reduceCtorEq]
    · intro c hc
      simp only [K_way]
      rw [mrow_miss _ _ (scr_ne hc rfl), mrow_miss _ _ (scr_ne hc rfl), mrow_miss _ _ (scr_ne hc rfl)]
theorem op_fault {np nr nt nf : Nat} {M : Mem} (h : IV np nr nt nf M) : EO_fault M ∧ Ag 0 0 (e_fault M) (fun N => KO_fault N ) (fun N => K_fault N ) := by
  obtain ⟨⟨z1, z2, z3, z4⟩, ⟨s1, s2, s3, s4⟩, ⟨c1, c2, c3, c4⟩, ⟨t1, t2, t3⟩, hL, hDd, hH, hI, hTP, ⟨b1, b2, b3, b4, b5⟩, hBK⟩ := id h
  obtain ⟨hD, -⟩ := id hDd
  have hd := DR_take (s := M.1 72) hD z3 z4
  have q20 : upd (M.1 54) 0 (nI 0) 20 = nI np := by rw [pk_un (by decide)]; exact c1
  have q21 : upd (M.1 54) 0 (nI 0) 21 = nI nr := by rw [pk_un (by decide)]; exact c2
  have q22 : upd (M.1 54) 0 (nI 0) 22 = nI nt := by rw [pk_un (by decide)]; exact c3
  have q23 : upd (M.1 54) 0 (nI 0) 23 = nI nf := by rw [pk_un (by decide)]; exact c4
  have i20 : ix (nI np) = np := pu_ix (by omega)
  have i21 : ix (nI nr) = nr := pu_ix (by omega)
  have i22 : ix (nI nt) = nt := pu_ix (by omega)
  have i23 : ix (nI nf) = nf := pu_ix (by omega)
  have n20 : isN (nI np) := pu_isN (by omega)
  have n21 : isN (nI nr) := pu_isN (by omega)
  have n22 : isN (nI nt) := pu_isN (by omega)
  have n23 : isN (nI nf) := pu_isN (by omega)
  have hz : SZ np nr nt nf := ⟨z1, z2, z3, z4⟩
  refine ⟨trivial, ?_⟩
  have key : ∀ (v : Int32), e_fault M = .inl (some (.int v), M) → KO_fault (M)  → (K_fault (M) ).1 = v → Ag 0 0 (e_fault M) (fun N => KO_fault N ) (fun N => K_fault N ) := by
    intro v e1 e0 e2
    refine Ag.good h _ (M) v e1 e0 e2 ?_ ?_ ?_ ?_
    · simp only [K_fault, k_fault, mrow_hit, mrow_miss, ne_eq, Nat.reduceEqDiff, not_false_eq_true, reduceCtorEq, if_neg pu_n10, if_neg pu_n20]
      repeat' split
      all_goals rfl
    · simp only [K_fault, k_fault, mrow_hit, mrow_miss, ne_eq, Nat.reduceEqDiff, not_false_eq_true, reduceCtorEq, if_neg pu_n10, if_neg pu_n20]
      repeat' split
      all_goals rfl
    · simp only [K_fault, mrow_hit, mrow_miss, ne_eq, Nat.reduceEqDiff, not_false_eq_true, reduceCtorEq]
    · intro c hc
      simp only [K_fault]
      rw [mrow_miss _ _ (scr_ne hc rfl)]
  exact key _ rfl trivial (by simp only [K_fault, k_fault]; exact b1.symm)
theorem op_status {np nr nt nf : Nat} {M : Mem} (h : IV np nr nt nf M) (x1 : Int32) : EO_status M x1 ∧ Ag 0 0 (e_status M x1) (fun N => KO_status N x1) (fun N => K_status N x1) := by
  obtain ⟨⟨z1, z2, z3, z4⟩, ⟨s1, s2, s3, s4⟩, ⟨c1, c2, c3, c4⟩, ⟨t1, t2, t3⟩, hL, hDd, hH, hI, hTP, ⟨b1, b2, b3, b4, b5⟩, hBK⟩ := id h
  obtain ⟨hD, -⟩ := id hDd
  have hd := DR_take (s := M.1 72) hD z3 z4
  have q20 : upd (M.1 54) 0 (nI 0) 20 = nI np := by rw [pk_un (by decide)]; exact c1
  have q21 : upd (M.1 54) 0 (nI 0) 21 = nI nr := by rw [pk_un (by decide)]; exact c2
  have q22 : upd (M.1 54) 0 (nI 0) 22 = nI nt := by rw [pk_un (by decide)]; exact c3
  have q23 : upd (M.1 54) 0 (nI 0) 23 = nI nf := by rw [pk_un (by decide)]; exact c4
  have i20 : ix (nI np) = np := pu_ix (by omega)
  have i21 : ix (nI nr) = nr := pu_ix (by omega)
  have i22 : ix (nI nt) = nt := pu_ix (by omega)
  have i23 : ix (nI nf) = nf := pu_ix (by omega)
  have n20 : isN (nI np) := pu_isN (by omega)
  have n21 : isN (nI nr) := pu_isN (by omega)
  have n22 : isN (nI nt) := pu_isN (by omega)
  have n23 : isN (nI nf) := pu_isN (by omega)
  have hz : SZ np nr nt nf := ⟨z1, z2, z3, z4⟩
  refine ⟨trivial, ?_⟩
  have n01 : ∀ {a b : Nat}, a < 100 → b < 100 → (nI a = nI b) = (a = b) := fun ha hb => propext (pu_eqi (by omega) (by omega))
  have n02 : ∀ {a b : Nat}, a < 100 → b < 100 → (nI a ≤ nI b) = (a ≤ b) := fun ha hb => propext (pu_lei (by omega) (by omega))
  have n03 : ∀ {a : Nat}, a < 100 → (nI a = 0) = (a = 0) := fun ha => propext (by rw [← nI_0]; exact pu_eqi (by omega) (by omega))
  have key : ∀ (v : Int32), e_status M x1 = .inl (some (.int v), M) → KO_status (M) x1 → (K_status (M) x1).1 = v → Ag 0 0 (e_status M x1) (fun N => KO_status N x1) (fun N => K_status N x1) := by
    intro v e1 e0 e2
    refine Ag.good h _ (M) v e1 e0 e2 ?_ ?_ ?_ ?_
    · simp only [K_status, k_status, mrow_hit, mrow_miss, ne_eq, Nat.reduceEqDiff, not_false_eq_true, reduceCtorEq]
      split <;> rfl
    · simp only [K_status, mrow_hit, mrow_miss, ne_eq, Nat.reduceEqDiff, not_false_eq_true, reduceCtorEq]
    · simp only [K_status, mrow_hit, mrow_miss, ne_eq, Nat.reduceEqDiff, not_false_eq_true, reduceCtorEq]
    · intro c hc
      simp only [K_status]
      rw [mrow_miss _ _ (scr_ne hc rfl)]
  by_cases hx : ¬ x1 < nI 0 ∧ x1 ≤ nI 1
  · obtain ⟨k, hk, rfl⟩ := pu_le2 (n := 1) (by omega) (by rw [← nI_0]; exact hx.1) hx.2
    have hk9 : k = 0 ∨ k = 1 := by omega
    have hko : KO_status M (nI k) := by
      simp only [KO_status, k_status_ok, wi_t hx, if_neg pu_n10, true_and, and_true]
      exact ⟨pu_isN (by omega), by rw [pu_ix (by omega)]; omega⟩
    rcases hk9 with rfl | rfl
    · exact key _ (by simp only [e_status, if_pos pu_n01]) hko (by simp only [K_status, k_status, wi_t hx, if_neg pu_n10, pu_ix (show 0 < 2147483648 by omega)]; exact b4.symm)
    · exact key _ (by simp only [e_status, if_neg pu_n10, ↓reduceIte]) hko (by simp only [K_status, k_status, wi_t hx, if_neg pu_n10, pu_ix (show 1 < 2147483648 by omega)]; exact b5.symm)
  · have g0 : ¬ x1 = 0 := fun e => hx (by rw [e]; decide)
    have g1 : ¬ x1 = nI 1 := fun e => hx (by rw [e]; decide)
    exact key _ (by simp only [e_status, if_neg g0, if_neg g1]) (by simp only [KO_status, k_status_ok, wi_f hx, if_pos pu_n01, and_self]) (by simp only [K_status, k_status, wi_f hx, if_pos pu_n01])
theorem op_count {np nr nt nf : Nat} {M : Mem} (h : IV np nr nt nf M) (x1 : Int32) : EO_count M x1 ∧ Ag 0 0 (e_count M x1) (fun N => KO_count N x1) (fun N => K_count N x1) := by
  obtain ⟨⟨z1, z2, z3, z4⟩, ⟨s1, s2, s3, s4⟩, ⟨c1, c2, c3, c4⟩, ⟨t1, t2, t3⟩, hL, hDd, hH, hI, hTP, ⟨b1, b2, b3, b4, b5⟩, hBK⟩ := id h
  obtain ⟨hD, -⟩ := id hDd
  have hd := DR_take (s := M.1 72) hD z3 z4
  have q20 : upd (M.1 54) 0 (nI 0) 20 = nI np := by rw [pk_un (by decide)]; exact c1
  have q21 : upd (M.1 54) 0 (nI 0) 21 = nI nr := by rw [pk_un (by decide)]; exact c2
  have q22 : upd (M.1 54) 0 (nI 0) 22 = nI nt := by rw [pk_un (by decide)]; exact c3
  have q23 : upd (M.1 54) 0 (nI 0) 23 = nI nf := by rw [pk_un (by decide)]; exact c4
  have i20 : ix (nI np) = np := pu_ix (by omega)
  have i21 : ix (nI nr) = nr := pu_ix (by omega)
  have i22 : ix (nI nt) = nt := pu_ix (by omega)
  have i23 : ix (nI nf) = nf := pu_ix (by omega)
  have n20 : isN (nI np) := pu_isN (by omega)
  have n21 : isN (nI nr) := pu_isN (by omega)
  have n22 : isN (nI nt) := pu_isN (by omega)
  have n23 : isN (nI nf) := pu_isN (by omega)
  have hz : SZ np nr nt nf := ⟨z1, z2, z3, z4⟩
  refine ⟨trivial, ?_⟩
  have key : ∀ (v : Int32), e_count M x1 = .inl (some (.int v), M) → KO_count (M) x1 → (K_count (M) x1).1 = v → Ag 0 0 (e_count M x1) (fun N => KO_count N x1) (fun N => K_count N x1) := by
    intro v e1 e0 e2
    refine Ag.good h _ (M) v e1 e0 e2 ?_ ?_ ?_ ?_
    · simp only [K_count, k_count, mrow_hit, mrow_miss, ne_eq, Nat.reduceEqDiff, not_false_eq_true, reduceCtorEq]
      repeat' split
      all_goals rfl
    · simp only [K_count, mrow_hit, mrow_miss, ne_eq, Nat.reduceEqDiff, not_false_eq_true, reduceCtorEq]
    · simp only [K_count, mrow_hit, mrow_miss, ne_eq, Nat.reduceEqDiff, not_false_eq_true, reduceCtorEq]
    · intro c hc
      simp only [K_count]
      rw [mrow_miss _ _ (scr_ne hc rfl)]
  obtain ⟨ni, -, f1, f2, -⟩ := hI
  obtain ⟨nh, -, f3, f4, -⟩ := hH
  obtain ⟨ne, -, f5, f6, -⟩ := hTP
  by_cases g0 : x1 = 0
  · have g0' : x1 = nI 0 := by rw [g0, nI_0]
    exact key _ (by simp only [e_count, if_pos g0']) trivial (by simp only [K_count, k_count, if_pos g0]; exact f2.trans f1.symm)
  · have g0' : ¬ x1 = nI 0 := by rw [nI_0]; exact g0
    by_cases g1 : x1 = nI 1
    · exact key _ (by simp only [e_count, if_neg g0', if_pos g1]) trivial (by simp only [K_count, k_count, if_neg g0, if_pos g1]; exact f6.trans f5.symm)
    · by_cases g2 : x1 = nI 2
      · exact key _ (by simp only [e_count, if_neg g0', if_neg g1, if_pos g2]) trivial (by simp only [K_count, k_count, if_neg g0, if_neg g1, if_pos g2]; exact f4.trans f3.symm)
      · exact key _ (by simp only [e_count, if_neg g0', if_neg g1, if_neg g2]) trivial (by simp only [K_count, k_count, if_neg g0, if_neg g1, if_neg g2])
