/-! a call -/
theorem op_road {np nr nt nf : Nat} {M : Mem} (h : IV np nr nt nf M) (x1 x2 : Int32) : EO_road M nr x1 x2 ∧ Ag 2 1 (e_road M nr x1 x2) (fun N => KO_road N nr x1 x2) (fun N => K_road N nr x1 x2) := by
  obtain ⟨⟨z1, z2, z3, z4⟩, ⟨s1, s2, s3, s4⟩, ⟨c1, c2, c3, c4⟩, ⟨t1, t2, t3⟩, hL, hDd, hH, hI, hTP, ⟨b1, b2, b3, b4, b5⟩, hBK⟩ := id h
  obtain ⟨hD, -⟩ := id hDd
  have hd := DR_take (s := M.1 72) hD z3 z4
  have q20 : upd (M.1 54) 0 (nI 0) 20 = nI np := by rw [pk_un (by decide)]; exact c1
  have q21 : upd (M.1 54) 0 (nI 0) 21 = nI nr := by rw [pk_un (by decide)]; exact c2
  have q22 : upd (M.1 54) 0 (nI 0) 22 = nI nt := by rw [pk_un (by decide)]; exact c3
  have q23 : upd (M.1 54) 0 (nI 0) 23 = nI nf := by rw [pk_un (by decide)]; exact c4
  have i20 : ix (nI np) = np := pu_ix (by omega)
  have i21 : ix (nI nr) = nr := pu_ix (by omega)
  have i22 : ix (nI nt) = nt := pu_ix (by omega)
  have i23 : ix (nI nf) = nf := pu_ix (by omega)
  have n20 : isN (nI np) := pu_isN (by omega)
  have n21 : isN (nI nr) := pu_isN (by omega)
  have n22 : isN (nI nt) := pu_isN (by omega)
  have n23 : isN (nI nf) := pu_isN (by omega)
  have hz : SZ np nr nt nf := ⟨z1, z2, z3, z4⟩
  by_cases hx1 : ¬ x1 < 0 ∧ x1 < nI nr
  · skip
    by_cases hx2 : ¬ x2 < nI 0 ∧ x2 ≤ nI 2
    · skip
      obtain ⟨r, hr, rfl⟩ := pu_in (n := nr) (by omega) hx1.1 hx1.2
      have ir : ix (nI r) = r := pu_ix (by omega)
      have yr : isN (nI r) := pu_isN (by omega)
      obtain ⟨k, hk, rfl⟩ := pu_le2 (n := 2) (by omega) (by rw [← nI_0]; exact hx2.1) hx2.2
      have hk9 : k = 0 ∨ k = 1 ∨ k = 2 := by omega
      have n01 : ∀ {a b : Nat}, a < 100 → b < 100 → (nI a = nI b) = (a = b) := fun ha hb => propext (pu_eqi (by omega) (by omega))
      have n02 : ∀ {a b : Nat}, a < 100 → b < 100 → (nI a ≤ nI b) = (a ≤ b) := fun ha hb => propext (pu_lei (by omega) (by omega))
      have n03 : ∀ {a : Nat}, a < 100 → (nI a = 0) = (a = 0) := fun ha => propext (by rw [← nI_0]; exact pu_eqi (by omega) (by omega))
      obtain ⟨e1, e2, e3, -⟩ := t2 r hr
      have j0 : ix (nI 0) = 0 := pu_ix (by omega)
      have j1 : ix (nI 1) = 1 := pu_ix (by omega)
      have j2 : ix (nI 2) = 2 := pu_ix (by omega)
      have m0 : isN (nI 0) := pu_isN (by omega)
      have m1 : isN (nI 1) := pu_isN (by omega)
      have m2 : isN (nI 2) := pu_isN (by omega)
      refine ⟨⟨z2, s2, by simp (disch := omega) only [e_road_ok, ↓if_pos hx1, ↓if_pos hx2, n01, n02, n03, Nat.reduceEqDiff, Nat.reduceLeDiff, ↓reduceIte, ir, yr, show r < 12 by omega, and_self, ite_self]⟩, ?_⟩
      have key : ∀ (v : Int32), e_road M nr (nI r) (nI k) = .inl (some (.int v), M) → KO_road (M) nr (nI r) (nI k) → (K_road (M) nr (nI r) (nI k)).1 = v → Ag 2 1 (e_road M nr (nI r) (nI k)) (fun N => KO_road N nr (nI r) (nI k)) (fun N => K_road N nr (nI r) (nI k)) := by
        intro v e1 e0 e2
        refine Ag.good h _ (M) v e1 e0 e2 ?_ ?_ ?_ ?_
        · simp only [K_road, k_road, mrow_hit, mrow_miss, ne_eq, Nat.reduceEqDiff, not_false_eq_true, reduceCtorEq, wi_t ((nse_iff (show nr ≤ 100 by omega)).mp hx1), may0_t (t0 _), wi_t hx2, may1_t (t0 _), if_neg pu_n10, if_neg pu_n20, q20, q21, q22, q23, i20, i21, i22, i23, n20, n21, n22, n23]
          repeat' split
          all_goals rfl
        · simp only [K_road, k_road, mrow_hit, mrow_miss, ne_eq, Nat.reduceEqDiff, not_false_eq_true, reduceCtorEq, wi_t ((nse_iff (show nr ≤ 100 by omega)).mp hx1), may0_t (t0 _), wi_t hx2, may1_t (t0 _), if_neg pu_n10, if_neg pu_n20, q20, q21, q22, q23, i20, i21, i22, i23, n20, n21, n22, n23]
          repeat' split
          all_goals rfl
        · simp only [K_road, mrow_hit, mrow_miss, ne_eq, Nat.reduceEqDiff, not_false_eq_true, reduceCtorEq]
        · intro c hc
          simp only [K_road]
          rw [mrow_miss _ _ (scr_ne hc rfl), mrow_miss _ _ (scr_ne hc rfl)]
      rcases hk9 with rfl | rfl | rfl
      · exact key _ (by simp (disch := omega) only [e_road, ↓if_pos hx1, ↓if_pos hx2, n01, n02, n03, Nat.reduceEqDiff, Nat.reduceLeDiff, ↓reduceIte, ir]; rfl) (by simp (disch := omega) only [KO_road, k_road_ok, mrow_hit, mrow_miss, ne_eq, Nat.reduceEqDiff, not_false_eq_true, reduceCtorEq, wi_t ((nse_iff (show nr ≤ 100 by omega)).mp hx1), may0_t (t0 _), wi_t hx2, may1_t (t0 _), if_neg pu_n10, if_neg pu_n20, z2, c2, ir, yr, j0, m0, true_and, and_true]; omega) (by simp (disch := omega) only [K_road, k_road, mrow_hit, mrow_miss, ne_eq, Nat.reduceEqDiff, not_false_eq_true, reduceCtorEq, wi_t ((nse_iff (show nr ≤ 100 by omega)).mp hx1), may0_t (t0 _), wi_t hx2, may1_t (t0 _), if_neg pu_n10, if_neg pu_n20, ir, j0, Nat.add_zero]; exact e1)
      · exact key _ (by simp (disch := omega) only [e_road, ↓if_pos hx1, ↓if_pos hx2, n01, n02, n03, Nat.reduceEqDiff, Nat.reduceLeDiff, ↓reduceIte, ir]; rfl) (by simp (disch := omega) only [KO_road, k_road_ok, mrow_hit, mrow_miss, ne_eq, Nat.reduceEqDiff, not_false_eq_true, reduceCtorEq, wi_t ((nse_iff (show nr ≤ 100 by omega)).mp hx1), may0_t (t0 _), wi_t hx2, may1_t (t0 _), if_neg pu_n10, if_neg pu_n20, z2, c2, ir, yr, j1, m1, true_and, and_true]; omega) (by simp (disch := omega) only [K_road, k_road, mrow_hit, mrow_miss, ne_eq, Nat.reduceEqDiff, not_false_eq_true, reduceCtorEq, wi_t ((nse_iff (show nr ≤ 100 by omega)).mp hx1), may0_t (t0 _), wi_t hx2, may1_t (t0 _), if_neg pu_n10, if_neg pu_n20, ir, j1, Nat.add_zero]; exact e2)
      · exact key _ (by simp (disch := omega) only [e_road, ↓if_pos hx1, ↓if_pos hx2, n01, n02, n03, Nat.reduceEqDiff, Nat.reduceLeDiff, ↓reduceIte, ir]; rfl) (by simp (disch := omega) only [KO_road, k_road_ok, mrow_hit, mrow_miss, ne_eq, Nat.reduceEqDiff, not_false_eq_true, reduceCtorEq, wi_t ((nse_iff (show nr ≤ 100 by omega)).mp hx1), may0_t (t0 _), wi_t hx2, may1_t (t0 _), if_neg pu_n10, if_neg pu_n20, z2, c2, ir, yr, j2, m2, true_and, and_true]; omega) (by simp (disch := omega) only [K_road, k_road, mrow_hit, mrow_miss, ne_eq, Nat.reduceEqDiff, not_false_eq_true, reduceCtorEq, wi_t ((nse_iff (show nr ≤ 100 by omega)).mp hx1), may0_t (t0 _), wi_t hx2, may1_t (t0 _), if_neg pu_n10, if_neg pu_n20, ir, j2, Nat.add_zero]; exact e3)
    · refine ⟨⟨z2, s2, by simp only [e_road_ok, if_pos hx1, if_neg hx2]⟩, ?_⟩
      refine Ag.bad1 h (by decide) _ (by simp only [e_road, if_pos hx1, if_neg hx2]) ?_ ?_ ?_ ?_ ?_
      · simp only [KO_road, k_road_ok, mrow_hit, mrow_miss, ne_eq, Nat.reduceEqDiff, not_false_eq_true, reduceCtorEq, wi_t ((nse_iff (show nr ≤ 100 by omega)).mp hx1), may0_t (t0 _), wi_f hx2, may1_f (t0 _) pu_n20, if_neg pu_n10, if_neg pu_n20, if_pos pu_n01, q20, q21, q22, q23, i20, i21, i22, i23, n20, n21, n22, n23, z1, z2, z3, z4, c1, c2, c3, c4, take_ok, and_self, true_and, and_true]
      · simp only [K_road, k_road, mrow_hit, mrow_miss, ne_eq, Nat.reduceEqDiff, not_false_eq_true, reduceCtorEq, wi_t ((nse_iff (show nr ≤ 100 by omega)).mp hx1), may0_t (t0 _), wi_f hx2, may1_f (t0 _) pu_n20, if_neg pu_n10, if_neg pu_n20, if_pos pu_n01, q20, q21, q22, q23, i20, i21, i22, i23, n20, n21, n22, n23]
      · simp only [K_road, k_road, mrow_hit, mrow_miss, ne_eq, Nat.reduceEqDiff, not_false_eq_true, reduceCtorEq, wi_t ((nse_iff (show nr ≤ 100 by omega)).mp hx1), may0_t (t0 _), wi_f hx2, may1_f (t0 _) pu_n20, if_neg pu_n10, if_neg pu_n20, if_pos pu_n01, q20, q21, q22, q23, i20, i21, i22, i23, n20, n21, n22, n23]
      · simp only [K_road, mrow_hit, mrow_miss, ne_eq, Nat.reduceEqDiff, not_false_eq_true, reduceCtorEq]
      · intro c hc
        simp only [K_road]
        rw [mrow_miss _ _ (scr_ne hc rfl), mrow_miss _ _ (scr_ne hc rfl), mrow_miss _ _ (scr_ne hc rfl)]
  · refine ⟨⟨z2, s2, by simp only [e_road_ok, if_neg hx1]⟩, ?_⟩
    refine Ag.bad0 h (by decide) _ (by simp only [e_road, if_neg hx1]) ?_ ?_ ?_ ?_ ?_
    · simp only [KO_road, k_road_ok, mrow_hit, mrow_miss, ne_eq, Nat.reduceEqDiff, not_false_eq_true, reduceCtorEq, wi_f (fun z => hx1 ((nse_iff (show nr ≤ 100 by omega)).mpr z)), may0_f (t0 _) pu_n10, if_neg pu_n10, if_neg pu_n20, if_pos pu_n01, q20, q21, q22, q23, i20, i21, i22, i23, n20, n21, n22, n23, z1, z2, z3, z4, c1, c2, c3, c4, take_ok, and_self, true_and, and_true]
    · simp only [K_road, k_road, mrow_hit, mrow_miss, ne_eq, Nat.reduceEqDiff, not_false_eq_true, reduceCtorEq, wi_f (fun z => hx1 ((nse_iff (show nr ≤ 100 by omega)).mpr z)), may0_f (t0 _) pu_n10, if_neg pu_n10, if_neg pu_n20, if_pos pu_n01, q20, q21, q22, q23, i20, i21, i22, i23, n20, n21, n22, n23]
    · simp only [K_road, k_road, mrow_hit, mrow_miss, ne_eq, Nat.reduceEqDiff, not_false_eq_true, reduceCtorEq, wi_f (fun z => hx1 ((nse_iff (show nr ≤ 100 by omega)).mpr z)), may0_f (t0 _) pu_n10, if_neg pu_n10, if_neg pu_n20, if_pos pu_n01, q20, q21, q22, q23, i20, i21, i22, i23, n20, n21, n22, n23]
    · simp only [K_road, mrow_hit, mrow_miss, ne_eq, Nat.reduceEqDiff, not_false_eq_true, reduceCtorEq]
    · intro c hc
      simp only [K_road]
      rw [mrow_miss _ _ (scr_ne hc rfl), mrow_miss _ _ (scr_ne hc rfl), mrow_miss _ _ (scr_ne hc rfl)]
