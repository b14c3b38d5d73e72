/-! a call -/
theorem op_settle {np nr nt nf : Nat} {M : Mem} (h : IV np nr nt nf M) (x1 : Int32) : EO_settle M nt nf x1 ∧ Ag 0 1 (e_settle M nt nf x1) (fun N => KO_settle N nf x1) (fun N => K_settle N nf x1) := by
  obtain ⟨⟨z1, z2, z3, z4⟩, ⟨s1, s2, s3, s4⟩, ⟨c1, c2, c3, c4⟩, ⟨t1, t2, t3⟩, hL, hDd, hH, hI, hTP, ⟨b1, b2, b3, b4, b5⟩, hBK⟩ := id h
  obtain ⟨hD, -⟩ := id hDd
  have hd := DR_take (s := M.1 72) hD z3 z4
  have q20 : upd (M.1 54) 0 (nI 0) 20 = nI np := by rw [pk_un (by decide)]; exact c1
  have q21 : upd (M.1 54) 0 (nI 0) 21 = nI nr := by rw [pk_un (by decide)]; exact c2
  have q22 : upd (M.1 54) 0 (nI 0) 22 = nI nt := by rw [pk_un (by decide)]; exact c3
  have q23 : upd (M.1 54) 0 (nI 0) 23 = nI nf := by rw [pk_un (by decide)]; exact c4
  have i20 : ix (nI np) = np := pu_ix (by omega)
  have i21 : ix (nI nr) = nr := pu_ix (by omega)
  have i22 : ix (nI nt) = nt := pu_ix (by omega)
  have i23 : ix (nI nf) = nf := pu_ix (by omega)
  have n20 : isN (nI np) := pu_isN (by omega)
  have n21 : isN (nI nr) := pu_isN (by omega)
  have n22 : isN (nI nt) := pu_isN (by omega)
  have n23 : isN (nI nf) := pu_isN (by omega)
  have hz : SZ np nr nt nf := ⟨z1, z2, z3, z4⟩
  by_cases hx1 : ¬ x1 < 0 ∧ x1 < nI nf
  · skip
    obtain ⟨a, ha, rfl⟩ := pu_in (n := nf) (by omega) hx1.1 hx1.2
    have ia : ix (nI a) = a := pu_ix (by omega)
    have ya : isN (nI a) := pu_isN (by omega)
    have hh : k_heldBy (k_take (M.1 71) (M.1 72)).2 nt (nI a) = d_heldBy (M.1 38) nt (nI a) := hb_eq _ nt (fun t ht => hd.2.2.2.1 t ht)
    have hbs : d_heldBy (M.1 38) nt (nI a) = nI (bsn (fun t => M.1 38 (41 + t) = nI a) nt) := hb_bs (M.1 38) (nI a) nt (by omega)
    have hlt : bsn (fun t => M.1 38 (41 + t) = nI a) nt < 1024 := Nat.lt_of_lt_of_le (bsn_lt _ nt) (Nat.pow_le_pow_right (by omega) z3)
    generalize bsn (fun t => M.1 38 (41 + t) = nI a) nt = H at *
    have e26 : (k_take (M.1 71) (M.1 72)).2 (26 + a) = M.1 38 (7 + a) := (hd.2.1 a ha).2.1
    obtain ⟨o1, o2, -⟩ := hD.2.2.2.2.2 a ha
    obtain ⟨K, hK⟩ := fu_s
    have hK5 : 4999 = K := by have := FU_eq; omega
    have key : ∀ (v : Int32), e_settle M nt nf (nI a) = .inl (some (.int v), M) → KO_settle (M) nf (nI a) → (K_settle (M) nf (nI a)).1 = v → Ag 0 1 (e_settle M nt nf (nI a)) (fun N => KO_settle N nf (nI a)) (fun N => K_settle N nf (nI a)) := by
      intro v e1 e0 e2
      refine Ag.good h _ (M) v e1 e0 e2 ?_ ?_ ?_ ?_
      · simp only [K_settle, k_settle, mrow_hit, mrow_miss, ne_eq, Nat.reduceEqDiff, not_false_eq_true, reduceCtorEq, isF_t (show nf ≤ 100 by omega) (t0 _) hx1, if_neg pu_n10, if_neg pu_n20, q20, q21, q22, q23, i20, i21, i22, i23, n20, n21, n22, n23]
        repeat' split
        all_goals rfl
      · simp only [K_settle, k_settle, mrow_hit, mrow_miss, ne_eq, Nat.reduceEqDiff, not_false_eq_true, reduceCtorEq, isF_t (show nf ≤ 100 by omega) (t0 _) hx1, if_neg pu_n10, if_neg pu_n20, q20, q21, q22, q23, i20, i21, i22, i23, n20, n21, n22, n23]
        repeat' split
        all_goals rfl
      · simp only [K_settle, mrow_hit, mrow_miss, ne_eq, Nat.reduceEqDiff, not_false_eq_true, reduceCtorEq]
      · intro c hc
        simp only [K_settle]
        rw [mrow_miss _ _ (scr_ne hc rfl), mrow_miss _ _ (scr_ne hc rfl), mrow_miss _ _ (scr_ne hc rfl)]
    by_cases c : 0 < M.1 38 (7 + a)
    · obtain ⟨o, ho, eo⟩ : ∃ o, (1 ≤ o ∧ o ≤ 99) ∧ M.1 38 (7 + a) = nI o := by
        rw [pu_lt, pu_z] at c
        refine ⟨(M.1 38 (7 + a)).toInt.toNat, by omega, ?_⟩
        rw [pu_eq, pu_nI (by omega)]; omega
      rw [eo] at e26 c
      obtain ⟨g1, g2⟩ := se_0 t1 (show a < 6 by omega) e26 ho hlt K
      obtain ⟨p1, p2, p3⟩ := se_lp t1 z3 (show a < 6 by omega) e26 ho hlt FU K 1 (-1) (nI 1000000) (-1) (by rw [FU_eq]; omega) (by omega) (by omega) (Or.inl ⟨rfl, rfl, rfl⟩)
      refine ⟨⟨z3, s3, z4, s4, by simp only [e_settle_ok, ↓if_pos hx1, ia, ya, show a < 6 by omega, d_leastToBeEven_ok, eo, hbs, if_pos c, p1, and_self]⟩, ?_⟩
      have hko : KO_settle M nf (nI a) := by
        simp only [KO_settle, k_settle_ok, mrow_hit, mrow_miss, ne_eq, Nat.reduceEqDiff, not_false_eq_true, reduceCtorEq, isF_t (show nf ≤ 100 by omega) (t0 _) hx1, if_neg pu_n10, q20, q21, q22, q23, i20, i21, i22, i23, n20, n21, n22, n23, z1, z2, z3, z4, c1, c2, c3, c4, take_ok, hh, hbs, hK, g1.mpr p2, ia, ya, show 26 + a < 51 by omega, true_and, and_true, and_self]
      exact key _ (by simp only [e_settle, ↓if_pos hx1, ia]; rfl) hko (by simp only [K_settle, k_settle, mrow_hit, mrow_miss, ne_eq, Nat.reduceEqDiff, not_false_eq_true, reduceCtorEq, isF_t (show nf ≤ 100 by omega) (t0 _) hx1, if_neg pu_n10, q20, q21, q22, q23, i20, i21, i22, i23, n20, n21, n22, n23, hh, hbs, hK, g2, ia, e26, if_pos c, d_leastToBeEven, eo]; rw [← hK]; exact p3)
    · have c' : M.1 38 (7 + a) ≤ 0 := Int32.not_lt.mp c
      refine ⟨⟨z3, s3, z4, s4, by simp only [e_settle_ok, ↓if_pos hx1, ia, ya, show a < 6 by omega, d_leastToBeEven_ok, if_neg c, and_self]⟩, ?_⟩
      have f1 : ¬ nI H < nI 0 := fun z => by have := (pu_lti (by omega) (by omega)).mp z; omega
      have hko : KO_settle M nf (nI a) := by
        simp only [KO_settle, k_settle_ok, mrow_hit, mrow_miss, ne_eq, Nat.reduceEqDiff, not_false_eq_true, reduceCtorEq, isF_t (show nf ≤ 100 by omega) (t0 _) hx1, if_neg pu_n10, q20, q21, q22, q23, i20, i21, i22, i23, n20, n21, n22, n23, z1, z2, z3, z4, c1, c2, c3, c4, take_ok, hh, hbs, hK, k_settle_31_ok, ia, ya, e26, if_neg f1, if_pos c', show 26 + a < 51 by omega, true_and, and_true, and_self]
      exact key _ (by simp only [e_settle, ↓if_pos hx1, ia, d_leastToBeEven, if_neg c]; rfl) hko (by simp only [K_settle, k_settle, mrow_hit, mrow_miss, ne_eq, Nat.reduceEqDiff, not_false_eq_true, reduceCtorEq, isF_t (show nf ≤ 100 by omega) (t0 _) hx1, if_neg pu_n10, q20, q21, q22, q23, i20, i21, i22, i23, n20, n21, n22, n23, ia, e26, if_neg c])
  · refine ⟨⟨z3, s3, z4, s4, by simp only [e_settle_ok, if_neg hx1]⟩, ?_⟩
    refine Ag.bad0 h (by decide) _ (by simp only [e_settle, if_neg hx1]) ?_ ?_ ?_ ?_ ?_
    · simp only [KO_settle, k_settle_ok, mrow_hit, mrow_miss, ne_eq, Nat.reduceEqDiff, not_false_eq_true, reduceCtorEq, isF_f (show nf ≤ 100 by omega) (t0 _) pu_n10 hx1, if_neg pu_n10, if_neg pu_n20, if_pos pu_n01, q20, q21, q22, q23, i20, i21, i22, i23, n20, n21, n22, n23, z1, z2, z3, z4, c1, c2, c3, c4, take_ok, and_self, true_and, and_true]
    · simp only [K_settle, k_settle, mrow_hit, mrow_miss, ne_eq, Nat.reduceEqDiff, not_false_eq_true, reduceCtorEq, isF_f (show nf ≤ 100 by omega) (t0 _) pu_n10 hx1, if_neg pu_n10, if_neg pu_n20, if_pos pu_n01, q20, q21, q22, q23, i20, i21, i22, i23, n20, n21, n22, n23]
    · simp only [K_settle, k_settle, mrow_hit, mrow_miss, ne_eq, Nat.reduceEqDiff, not_false_eq_true, reduceCtorEq, isF_f (show nf ≤ 100 by omega) (t0 _) pu_n10 hx1, if_neg pu_n10, if_neg pu_n20, if_pos pu_n01, q20, q21, q22, q23, i20, i21, i22, i23, n20, n21, n22, n23]
    · simp only [K_settle, mrow_hit, mrow_miss, ne_eq, Nat.reduceEqDiff, not_false_eq_true, reduceCtorEq]
    · intro c hc
      simp only [K_settle]
      rw [mrow_miss _ _ (scr_ne hc rfl), mrow_miss _ _ (scr_ne hc rfl), mrow_miss _ _ (scr_ne hc rfl), mrow_miss _ _ (scr_ne hc rfl)]
