/-! calls: questions -/
theorem op_told {np nr nt nf : Nat} {M : Mem} (h : IV np nr nt nf M) (x1 : Int32) : EO_told M np nr nt nf x1 ∧ Ag 1 0 (e_told M np nr nt nf x1) (fun N => KO_told N x1) (fun N => K_told N x1) := by
  obtain ⟨⟨z1, z2, z3, z4⟩, s1, ⟨c1, c2, c3, c4⟩, ⟨t1, t2, t3⟩, hL, ⟨hD, -⟩, -, -, -, ⟨-, b2, b3, -, -⟩, -⟩ := id h
  refine ⟨⟨z1, s1.1, z2, s1.2.1, z3, s1.2.2.1, z4, s1.2.2.2⟩, ?_⟩
  by_cases hx : ¬ x1 < nI 0 ∧ x1 ≤ nI 11
  · have hw := wi_t hx
    have hd := DR_take (s := M.1 72) hD z3 z4
    have q22 : upd (M.1 54) 0 (nI 0) 22 = nI nt := by rw [pk_un (by decide)]; exact c3
    have q23 : upd (M.1 54) 0 (nI 0) 23 = nI nf := by rw [pk_un (by decide)]; exact c4
    have i22 : ix (nI nt) = nt := pu_ix (by omega)
    have i23 : ix (nI nf) = nf := pu_ix (by omega)
    have n22 : isN (nI nt) := pu_isN (by omega)
    have n23 : isN (nI nf) := pu_isN (by omega)
    obtain ⟨k, hk, rfl⟩ := pu_le2 (n := 11) (by omega) (by rw [← nI_0]; exact hx.1) hx.2
    have hko : KO_told M (nI k) := by
      simp only [KO_told, k_told_ok, hw, may1_t (t0 _), if_neg pu_n10, q22, q23, i22, i23, n22, n23, z3, z4, take_ok, true_and, and_true]
      repeat' split
      all_goals trivial
    have key : ∀ v : Int32, e_told M np nr nt nf (nI k) = .inl (some (.int v), M) → (k_told (M.1 54) (M.1 55) (M.1 61) (M.1 71) (M.1 72) (nI k)).1 = v → Ag 1 0 (e_told M np nr nt nf (nI k)) (fun N => KO_told N (nI k)) (fun N => K_told N (nI k)) := by
      intro v e1 e2
      have e3 : (k_told (M.1 54) (M.1 55) (M.1 61) (M.1 71) (M.1 72) (nI k)).2.1 = upd (M.1 54) 0 (nI 0) ∧ (k_told (M.1 54) (M.1 55) (M.1 61) (M.1 71) (M.1 72) (nI k)).2.2.1 = M.1 55 := by
        simp only [k_told, hw, may1_t (t0 _), if_neg pu_n10]
        repeat' split
        all_goals exact ⟨rfl, rfl⟩
      refine Ag.good h _ M v e1 hko e2 ?_ ?_ ?_ ?_
      · simp only [K_told, mrow_hit, mrow_miss, ne_eq, Nat.reduceEqDiff, not_false_eq_true, e3.1]
      · simp only [K_told, mrow_hit, mrow_miss, ne_eq, Nat.reduceEqDiff, not_false_eq_true, e3.2]
      · simp only [K_told, mrow_miss, ne_eq, Nat.reduceEqDiff, not_false_eq_true, reduceCtorEq]
      · intro c hc
        simp only [K_told]
        rw [mrow_miss _ _ (scr_ne hc rfl), mrow_miss _ _ (scr_ne hc rfl), mrow_miss _ _ (scr_ne hc rfl)]
    have hk12 : k = 0 ∨ k = 1 ∨ k = 2 ∨ k = 3 ∨ k = 4 ∨ k = 5 ∨ k = 6 ∨ k = 7 ∨ k = 8 ∨ k = 9 ∨ k = 10 ∨ k = 11 := by omega
    have n01 : ∀ {a b : Nat}, a < 100 → b < 100 → (nI a = nI b) = (a = b) := fun ha hb => propext (pu_eqi (by omega) (by omega))
    have n02 : ∀ {a b : Nat}, a < 100 → b < 100 → (nI a ≤ nI b) = (a ≤ b) := fun ha hb => propext (pu_lei (by omega) (by omega))
    have n03 : ∀ {a : Nat}, a < 100 → (nI a = 0) = (a = 0) := fun ha => propext (by rw [← nI_0]; exact pu_eqi (by omega) (by omega))
    rcases hk12 with rfl | rfl | rfl | rfl | rfl | rfl | rfl | rfl | rfl | rfl | rfl | rfl
    · exact key _ (by simp only [e_told, if_pos hx, ↓reduceIte]; rfl) (by simp (disch := omega) only [k_told, hw, may1_t (t0 _), if_neg pu_n10, n02, n03, Nat.reduceLeDiff, ↓reduceIte, pk_un, c1])
    · exact key _ (by simp (disch := omega) only [e_told, if_pos hx, n01, Nat.reduceEqDiff, ↓reduceIte]; rfl) (by simp (disch := omega) only [k_told, hw, may1_t (t0 _), if_neg pu_n10, n01, n02, n03, Nat.reduceEqDiff, Nat.reduceLeDiff, ↓reduceIte, pk_un, c2])
    · exact key _ (by simp (disch := omega) only [e_told, if_pos hx, n01, Nat.reduceEqDiff, ↓reduceIte]; rfl) (by simp (disch := omega) only [k_told, hw, may1_t (t0 _), if_neg pu_n10, n01, n02, n03, Nat.reduceEqDiff, Nat.reduceLeDiff, ↓reduceIte, pk_un, c3])
    · exact key _ (by simp (disch := omega) only [e_told, if_pos hx, n01, Nat.reduceEqDiff, ↓reduceIte]; rfl) (by simp (disch := omega) only [k_told, hw, may1_t (t0 _), if_neg pu_n10, n01, n02, n03, Nat.reduceEqDiff, Nat.reduceLeDiff, ↓reduceIte, pk_un, c4])
    · exact key _ (by simp (disch := omega) only [e_told, if_pos hx, n01, Nat.reduceEqDiff, ↓reduceIte]; rfl) (by simp (disch := omega) only [k_told, hw, may1_t (t0 _), if_neg pu_n10, n01, n02, n03, Nat.reduceEqDiff, Nat.reduceLeDiff, ↓reduceIte, hd.1])
    · exact key _ (by simp (disch := omega) only [e_told, if_pos hx, n01, Nat.reduceEqDiff, ↓reduceIte]; rfl) (by simp (disch := omega) only [k_told, hw, may1_t (t0 _), if_neg pu_n10, n01, n02, n03, Nat.reduceEqDiff, Nat.reduceLeDiff, ↓reduceIte, q22, i22]; exact ah_eq hd)
    · exact key _ (by simp (disch := omega) only [e_told, if_pos hx, n01, Nat.reduceEqDiff, ↓reduceIte]; rfl) (by simp (disch := omega) only [k_told, hw, may1_t (t0 _), if_neg pu_n10, n01, n02, n03, Nat.reduceEqDiff, Nat.reduceLeDiff, ↓reduceIte, q23, i23, k_owing, d_even, show nI 6 - nI 6 = 0 from by decide]; exact ev_eq nf (fun a ha => (hd.2.1 a ha).2.1))
    · exact key _ (by simp (disch := omega) only [e_told, if_pos hx, n01, Nat.reduceEqDiff, ↓reduceIte]; rfl) (by simp (disch := omega) only [k_told, hw, may1_t (t0 _), if_neg pu_n10, n01, n02, n03, Nat.reduceEqDiff, Nat.reduceLeDiff, ↓reduceIte, q23, i23, k_owing, d_owing, show nI 7 - nI 6 = nI 1 from by decide]; exact ow_eq nf (fun a ha => (hd.2.1 a ha).2.1))
    · exact key _ (by simp (disch := omega) only [e_told, if_pos hx, n01, Nat.reduceEqDiff, ↓reduceIte]; rfl) (by simp (disch := omega) only [k_told, hw, may1_t (t0 _), if_neg pu_n10, n01, n02, n03, Nat.reduceEqDiff, Nat.reduceLeDiff, ↓reduceIte, q22, i22]; exact lw_eq hd t1)
    · exact key _ (by simp (disch := omega) only [e_told, if_pos hx, n01, Nat.reduceEqDiff, ↓reduceIte]; rfl) (by simp (disch := omega) only [k_told, hw, may1_t (t0 _), if_neg pu_n10, n01, n02, n03, Nat.reduceEqDiff, Nat.reduceLeDiff, ↓reduceIte, pk_un, b2])
    · exact key _ (by simp (disch := omega) only [e_told, if_pos hx, n01, Nat.reduceEqDiff, ↓reduceIte]; rfl) (by simp (disch := omega) only [k_told, hw, may1_t (t0 _), if_neg pu_n10, n01, n02, n03, Nat.reduceEqDiff, Nat.reduceLeDiff, ↓reduceIte, pk_un, b3])
    · exact key _ (by simp (disch := omega) only [e_told, if_pos hx, n01, Nat.reduceEqDiff, ↓reduceIte]; rfl) (by simp (disch := omega) only [k_told, hw, may1_t (t0 _), if_neg pu_n10, n01, n02, n03, Nat.reduceEqDiff, Nat.reduceLeDiff, ↓reduceIte, q23, i23, k_sumOf_44, d_shames]; exact sh_eq nf (fun a ha => (hd.2.1 a ha).2.2.2.2))
  · have hw := wi_f hx
    refine Ag.bad1 h (by decide) _ (by simp only [e_told, if_neg hx]) ?_ ?_ ?_ ?_ ?_
    · simp only [KO_told, k_told_ok, hw, mrow_miss, ne_eq, Nat.reduceEqDiff, not_false_eq_true, reduceCtorEq, may1_f (t0 _) pu_n10, pu_n01, ↓reduceIte, and_self]
    · simp only [K_told, k_told, hw, mrow_hit, mrow_miss, ne_eq, Nat.reduceEqDiff, not_false_eq_true, reduceCtorEq, may1_f (t0 _) pu_n10, pu_n01, ↓reduceIte]
    · simp only [K_told, k_told, hw, mrow_hit, mrow_miss, ne_eq, Nat.reduceEqDiff, not_false_eq_true, reduceCtorEq, may1_f (t0 _) pu_n10, pu_n01, ↓reduceIte]
    · simp only [K_told, k_told, hw, mrow_hit, mrow_miss, ne_eq, Nat.reduceEqDiff, not_false_eq_true, reduceCtorEq, may1_f (t0 _) pu_n10, pu_n01, ↓reduceIte]
    · intro c hc
      simp only [K_told]
      rw [mrow_miss _ _ (scr_ne hc rfl), mrow_miss _ _ (scr_ne hc rfl), mrow_miss _ _ (scr_ne hc rfl), mrow_miss _ _ (scr_ne hc rfl)]
