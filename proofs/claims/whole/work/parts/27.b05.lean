/-! a call -/
theorem op_enough {np nr nt nf : Nat} {M : Mem} (h : IV np nr nt nf M) (x1 : Int32) : EO_enough M nt nf x1 ∧ Ag 0 1 (e_enough M nt nf x1) (fun N => KO_enough N nf x1) (fun N => K_enough N nf x1) := by
  obtain ⟨⟨z1, z2, z3, z4⟩, ⟨s1, s2, s3, s4⟩, ⟨c1, c2, c3, c4⟩, ⟨t1, t2, t3⟩, hL, hDd, hH, hI, hTP, ⟨b1, b2, b3, b4, b5⟩, hBK⟩ := id h
  obtain ⟨hD, -⟩ := id hDd
  have hd := DR_take (s := M.1 72) hD z3 z4
  have q20 : upd (M.1 54) 0 (nI 0) 20 = nI np := by rw [pk_un (by decide)]; exact c1
  have q21 : upd (M.1 54) 0 (nI 0) 21 = nI nr := by rw [pk_un (by decide)]; exact c2
  have q22 : upd (M.1 54) 0 (nI 0) 22 = nI nt := by rw [pk_un (by decide)]; exact c3
  have q23 : upd (M.1 54) 0 (nI 0) 23 = nI nf := by rw [pk_un (by decide)]; exact c4
  have i20 : ix (nI np) = np := pu_ix (by omega)
  have i21 : ix (nI nr) = nr := pu_ix (by omega)
  have i22 : ix (nI nt) = nt := pu_ix (by omega)
  have i23 : ix (nI nf) = nf := pu_ix (by omega)
  have n20 : isN (nI np) := pu_isN (by omega)
  have n21 : isN (nI nr) := pu_isN (by omega)
  have n22 : isN (nI nt) := pu_isN (by omega)
  have n23 : isN (nI nf) := pu_isN (by omega)
  have hz : SZ np nr nt nf := ⟨z1, z2, z3, z4⟩
  by_cases hx1 : ¬ x1 < 0 ∧ x1 < nI nf
  · skip
    obtain ⟨a, ha, rfl⟩ := pu_in (n := nf) (by omega) hx1.1 hx1.2
    have ia : ix (nI a) = a := pu_ix (by omega)
    have ya : isN (nI a) := pu_isN (by omega)
    have he := en_eq hD t1 ha z4 nt 0 (nI 0) (by omega)
    refine ⟨⟨z3, s3, z4, s4, by simp only [e_enough_ok, if_pos hx1, ia, ya, show a < 6 by omega, and_self]⟩, ?_⟩
    have key : ∀ (v : Int32), e_enough M nt nf (nI a) = .inl (some (.int v), M) → KO_enough (M) nf (nI a) → (K_enough (M) nf (nI a)).1 = v → Ag 0 1 (e_enough M nt nf (nI a)) (fun N => KO_enough N nf (nI a)) (fun N => K_enough N nf (nI a)) := by
      intro v e1 e0 e2
      refine Ag.good h _ (M) v e1 e0 e2 ?_ ?_ ?_ ?_
      · simp only [K_enough, k_enough, mrow_hit, mrow_miss, ne_eq, Nat.reduceEqDiff, not_false_eq_true, reduceCtorEq, isF_t (show nf ≤ 100 by omega) (t0 _) hx1, if_neg pu_n10, if_neg pu_n20, q20, q21, q22, q23, i20, i21, i22, i23, n20, n21, n22, n23]
        repeat' split
        all_goals rfl
      · simp only [K_enough, k_enough, mrow_hit, mrow_miss, ne_eq, Nat.reduceEqDiff, not_false_eq_true, reduceCtorEq, isF_t (show nf ≤ 100 by omega) (t0 _) hx1, if_neg pu_n10, if_neg pu_n20, q20, q21, q22, q23, i20, i21, i22, i23, n20, n21, n22, n23]
        repeat' split
        all_goals rfl
      · simp only [K_enough, mrow_hit, mrow_miss, ne_eq, Nat.reduceEqDiff, not_false_eq_true, reduceCtorEq]
      · intro c hc
        simp only [K_enough]
        rw [mrow_miss _ _ (scr_ne hc rfl), mrow_miss _ _ (scr_ne hc rfl)]
    have hko : KO_enough M nf (nI a) := by
      simp (disch := omega) only [KO_enough, k_enough_ok, mrow_hit, mrow_miss, ne_eq, Nat.reduceEqDiff, not_false_eq_true, reduceCtorEq, isF_t (show nf ≤ 100 by omega) (t0 _) hx1, if_neg pu_n10, if_neg pu_n20, q20, q21, q22, q23, i20, i21, i22, i23, n20, n21, n22, n23, z1, z2, z3, z4, c1, c2, c3, c4, take_ok, true_and, and_true, and_self, he.1]
    exact key _ (by simp only [e_enough, if_pos hx1, ia]; rfl) hko (by simp only [K_enough, k_enough, mrow_hit, mrow_miss, ne_eq, Nat.reduceEqDiff, not_false_eq_true, reduceCtorEq, isF_t (show nf ≤ 100 by omega) (t0 _) hx1, if_neg pu_n10, q20, q21, q22, q23, i20, i21, i22, i23, n20, n21, n22, n23]; exact he.2)
  · refine ⟨⟨z3, s3, z4, s4, by simp only [e_enough_ok, if_neg hx1]⟩, ?_⟩
    refine Ag.bad0 h (by decide) _ (by simp only [e_enough, if_neg hx1]) ?_ ?_ ?_ ?_ ?_
    · simp only [KO_enough, k_enough_ok, mrow_hit, mrow_miss, ne_eq, Nat.reduceEqDiff, not_false_eq_true, reduceCtorEq, isF_f (show nf ≤ 100 by omega) (t0 _) pu_n10 hx1, if_neg pu_n10, if_neg pu_n20, if_pos pu_n01, q20, q21, q22, q23, i20, i21, i22, i23, n20, n21, n22, n23, z1, z2, z3, z4, c1, c2, c3, c4, take_ok, and_self, true_and, and_true]
    · simp only [K_enough, k_enough, mrow_hit, mrow_miss, ne_eq, Nat.reduceEqDiff, not_false_eq_true, reduceCtorEq, isF_f (show nf ≤ 100 by omega) (t0 _) pu_n10 hx1, if_neg pu_n10, if_neg pu_n20, if_pos pu_n01, q20, q21, q22, q23, i20, i21, i22, i23, n20, n21, n22, n23]
    · simp only [K_enough, k_enough, mrow_hit, mrow_miss, ne_eq, Nat.reduceEqDiff, not_false_eq_true, reduceCtorEq, isF_f (show nf ≤ 100 by omega) (t0 _) pu_n10 hx1, if_neg pu_n10, if_neg pu_n20, if_pos pu_n01, q20, q21, q22, q23, i20, i21, i22, i23, n20, n21, n22, n23]
    · simp only [K_enough, mrow_hit, mrow_miss, ne_eq, Nat.reduceEqDiff, not_false_eq_true, reduceCtorEq]
    · intro c hc
      simp only [K_enough]
      rw [mrow_miss _ _ (scr_ne hc rfl), mrow_miss _ _ (scr_ne hc rfl), mrow_miss _ _ (scr_ne hc rfl)]
