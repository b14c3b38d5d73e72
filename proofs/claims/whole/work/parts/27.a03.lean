/-! a call -/
theorem op_thing {np nr nt nf : Nat} {M : Mem} (h : IV np nr nt nf M) (x1 x2 : Int32) : EO_thing M nt x1 x2 ∧ Ag 2 1 (e_thing M nt x1 x2) (fun N => KO_thing N nt x1 x2) (fun N => K_thing N nt x1 x2) := by
  obtain ⟨⟨z1, z2, z3, z4⟩, ⟨s1, s2, s3, s4⟩, ⟨c1, c2, c3, c4⟩, ⟨t1, t2, t3⟩, hL, hDd, hH, hI, hTP, ⟨b1, b2, b3, b4, b5⟩, hBK⟩ := id h
  obtain ⟨hD, -⟩ := id hDd
  have hd := DR_take (s := M.1 72) hD z3 z4
  have q20 : upd (M.1 54) 0 (nI 0) 20 = nI np := by rw [pk_un (by decide)]; exact c1
  have q21 : upd (M.1 54) 0 (nI 0) 21 = nI nr := by rw [pk_un (by decide)]; exact c2
  have q22 : upd (M.1 54) 0 (nI 0) 22 = nI nt := by rw [pk_un (by decide)]; exact c3
  have q23 : upd (M.1 54) 0 (nI 0) 23 = nI nf := by rw [pk_un (by decide)]; exact c4
  have i20 : ix (nI np) = np := pu_ix (by omega)
  have i21 : ix (nI nr) = nr := pu_ix (by omega)
  have i22 : ix (nI nt) = nt := pu_ix (by omega)
  have i23 : ix (nI nf) = nf := pu_ix (by omega)
  have n20 : isN (nI np) := pu_isN (by omega)
  have n21 : isN (nI nr) := pu_isN (by omega)
  have n22 : isN (nI nt) := pu_isN (by omega)
  have n23 : isN (nI nf) := pu_isN (by omega)
  have hz : SZ np nr nt nf := ⟨z1, z2, z3, z4⟩
  by_cases hx1 : ¬ x1 < 0 ∧ x1 < nI nt
  · skip
    by_cases hx2 : ¬ x2 < nI 0 ∧ x2 ≤ nI 2
    · skip
      obtain ⟨t, ht, rfl⟩ := pu_in (n := nt) (by omega) hx1.1 hx1.2
      have it : ix (nI t) = t := pu_ix (by omega)
      have yt : isN (nI t) := pu_isN (by omega)
      obtain ⟨k, hk, rfl⟩ := pu_le2 (n := 2) (by omega) (by rw [← nI_0]; exact hx2.1) hx2.2
      have hk9 : k = 0 ∨ k = 1 ∨ k = 2 := by omega
      have n01 : ∀ {a b : Nat}, a < 100 → b < 100 → (nI a = nI b) = (a = b) := fun ha hb => propext (pu_eqi (by omega) (by omega))
      have n02 : ∀ {a b : Nat}, a < 100 → b < 100 → (nI a ≤ nI b) = (a ≤ b) := fun ha hb => propext (pu_lei (by omega) (by omega))
      have n03 : ∀ {a : Nat}, a < 100 → (nI a = 0) = (a = 0) := fun ha => propext (by rw [← nI_0]; exact pu_eqi (by omega) (by omega))
      obtain ⟨e1, w, w1, w2, ew⟩ := t1 t ht
      have e4 := hD.2.2.2.1 t ht
      have e5 := hD.2.2.2.2.1 t ht
      have hpl : d_placeOf (M.1 38) t = M.1 71 t ∧ d_placeOf_ok (M.1 38) t := by
        simp only [d_placeOf, d_placeOf_ok]
        rcases e5 with ⟨g1, g2, -⟩ | ⟨a, ha, g1, -, g3⟩
        · rw [if_pos g1, if_pos g1]; exact ⟨g2.symm, trivial⟩
        · have gn : ¬ nI a = -1 := pu_nm (by omega)
          rw [g1, if_neg gn, if_neg gn, pu_ix (by omega)]
          exact ⟨g3.symm, pu_isN (by omega), by omega, trivial⟩
      refine ⟨⟨z3, s3, by simp (disch := omega) only [e_thing_ok, ↓if_pos hx1, ↓if_pos hx2, it, yt, hpl.2, show t < 10 by omega, show 41 + t < 51 by omega, and_self, ite_self]⟩, ?_⟩
      have key : ∀ (v : Int32), e_thing M nt (nI t) (nI k) = .inl (some (.int v), M) → KO_thing (M) nt (nI t) (nI k) → (K_thing (M) nt (nI t) (nI k)).1 = v → Ag 2 1 (e_thing M nt (nI t) (nI k)) (fun N => KO_thing N nt (nI t) (nI k)) (fun N => K_thing N nt (nI t) (nI k)) := by
        intro v e1 e0 e2
        refine Ag.good h _ (M) v e1 e0 e2 ?_ ?_ ?_ ?_
        · simp only [K_thing, k_thing, mrow_hit, mrow_miss, ne_eq, Nat.reduceEqDiff, not_false_eq_true, reduceCtorEq, isT_t (show nt ≤ 100 by omega) (t0 _) hx1, wi_t hx2, may1_t (t0 _), if_neg pu_n10, if_neg pu_n20, q20, q21, q22, q23, i20, i21, i22, i23, n20, n21, n22, n23]
          repeat' split
          all_goals rfl
        · simp only [K_thing, k_thing, mrow_hit, mrow_miss, ne_eq, Nat.reduceEqDiff, not_false_eq_true, reduceCtorEq, isT_t (show nt ≤ 100 by omega) (t0 _) hx1, wi_t hx2, may1_t (t0 _), if_neg pu_n10, if_neg pu_n20, q20, q21, q22, q23, i20, i21, i22, i23, n20, n21, n22, n23]
          repeat' split
          all_goals rfl
        · simp only [K_thing, mrow_hit, mrow_miss, ne_eq, Nat.reduceEqDiff, not_false_eq_true, reduceCtorEq]
        · intro c hc
          simp only [K_thing]
          rw [mrow_miss _ _ (scr_ne hc rfl), mrow_miss _ _ (scr_ne hc rfl)]
      have hko : KO_thing M nt (nI t) (nI k) := by
        simp (disch := omega) only [KO_thing, k_thing_ok, mrow_hit, mrow_miss, ne_eq, Nat.reduceEqDiff, not_false_eq_true, reduceCtorEq, isT_t (show nt ≤ 100 by omega) (t0 _) hx1, wi_t hx2, may1_t (t0 _), if_neg pu_n10, if_neg pu_n20, q20, q21, q22, q23, i20, i21, i22, i23, n20, n21, n22, n23, z1, z2, z3, z4, c1, c2, c3, c4, take_ok, true_and, and_true, and_self, it, yt, show 3 * t + 2 < 30 by omega, show 0 + t < 51 by omega, show 10 + t < 51 by omega, ite_self]
      rcases hk9 with rfl | rfl | rfl
      · exact key _ (by simp (disch := omega) only [e_thing, ↓if_pos hx1, ↓if_pos hx2, n01, n02, n03, Nat.reduceEqDiff, Nat.reduceLeDiff, ↓reduceIte, it]; rfl) hko (by simp (disch := omega) only [K_thing, k_thing, mrow_hit, mrow_miss, ne_eq, Nat.reduceEqDiff, not_false_eq_true, reduceCtorEq, isT_t (show nt ≤ 100 by omega) (t0 _) hx1, wi_t hx2, may1_t (t0 _), if_neg pu_n10, if_neg pu_n20, q20, q21, q22, q23, i20, i21, i22, i23, n20, n21, n22, n23, n01, n02, n03, Nat.reduceEqDiff, Nat.reduceLeDiff, ↓reduceIte, it]; exact e1)
      · exact key _ (by simp (disch := omega) only [e_thing, ↓if_pos hx1, ↓if_pos hx2, n01, n02, n03, Nat.reduceEqDiff, Nat.reduceLeDiff, ↓reduceIte, it]; rfl) hko (by simp (disch := omega) only [K_thing, k_thing, mrow_hit, mrow_miss, ne_eq, Nat.reduceEqDiff, not_false_eq_true, reduceCtorEq, isT_t (show nt ≤ 100 by omega) (t0 _) hx1, wi_t hx2, may1_t (t0 _), if_neg pu_n10, if_neg pu_n20, q20, q21, q22, q23, i20, i21, i22, i23, n20, n21, n22, n23, n01, n02, n03, Nat.reduceEqDiff, Nat.reduceLeDiff, ↓reduceIte, it]; rw [Nat.zero_add, hpl.1])
      · exact key _ (by simp (disch := omega) only [e_thing, ↓if_pos hx1, ↓if_pos hx2, n01, n02, n03, Nat.reduceEqDiff, Nat.reduceLeDiff, ↓reduceIte, it]; rfl) hko (by simp (disch := omega) only [K_thing, k_thing, mrow_hit, mrow_miss, ne_eq, Nat.reduceEqDiff, not_false_eq_true, reduceCtorEq, isT_t (show nt ≤ 100 by omega) (t0 _) hx1, wi_t hx2, may1_t (t0 _), if_neg pu_n10, if_neg pu_n20, q20, q21, q22, q23, i20, i21, i22, i23, n20, n21, n22, n23, n01, n02, n03, Nat.reduceEqDiff, Nat.reduceLeDiff, ↓reduceIte, it]; exact e4)
    · refine ⟨⟨z3, s3, by simp only [e_thing_ok, if_pos hx1, if_neg hx2]⟩, ?_⟩
      refine Ag.bad1 h (by decide) _ (by simp only [e_thing, if_pos hx1, if_neg hx2]) ?_ ?_ ?_ ?_ ?_
      · simp only [KO_thing, k_thing_ok, mrow_hit, mrow_miss, ne_eq, Nat.reduceEqDiff, not_false_eq_true, reduceCtorEq, isT_t (show nt ≤ 100 by omega) (t0 _) hx1, wi_f hx2, may1_f (t0 _) pu_n20, if_neg pu_n10, if_neg pu_n20, if_pos pu_n01, q20, q21, q22, q23, i20, i21, i22, i23, n20, n21, n22, n23, z1, z2, z3, z4, c1, c2, c3, c4, take_ok, and_self, true_and, and_true]
      · simp only [K_thing, k_thing, mrow_hit, mrow_miss, ne_eq, Nat.reduceEqDiff, not_false_eq_true, reduceCtorEq, isT_t (show nt ≤ 100 by omega) (t0 _) hx1, wi_f hx2, may1_f (t0 _) pu_n20, if_neg pu_n10, if_neg pu_n20, if_pos pu_n01, q20, q21, q22, q23, i20, i21, i22, i23, n20, n21, n22, n23]
      · simp only [K_thing, k_thing, mrow_hit, mrow_miss, ne_eq, Nat.reduceEqDiff, not_false_eq_true, reduceCtorEq, isT_t (show nt ≤ 100 by omega) (t0 _) hx1, wi_f hx2, may1_f (t0 _) pu_n20, if_neg pu_n10, if_neg pu_n20, if_pos pu_n01, q20, q21, q22, q23, i20, i21, i22, i23, n20, n21, n22, n23]
      · simp only [K_thing, mrow_hit, mrow_miss, ne_eq, Nat.reduceEqDiff, not_false_eq_true, reduceCtorEq]
      · intro c hc
        simp only [K_thing]
        rw [mrow_miss _ _ (scr_ne hc rfl), mrow_miss _ _ (scr_ne hc rfl), mrow_miss _ _ (scr_ne hc rfl)]
  · refine ⟨⟨z3, s3, by simp only [e_thing_ok, if_neg hx1]⟩, ?_⟩
    refine Ag.bad0 h (by decide) _ (by simp only [e_thing, if_neg hx1]) ?_ ?_ ?_ ?_ ?_
    · simp only [KO_thing, k_thing_ok, mrow_hit, mrow_miss, ne_eq, Nat.reduceEqDiff, not_false_eq_true, reduceCtorEq, isT_f (show nt ≤ 100 by omega) (t0 _) pu_n10 hx1, if_neg pu_n10, if_neg pu_n20, if_pos pu_n01, q20, q21, q22, q23, i20, i21, i22, i23, n20, n21, n22, n23, z1, z2, z3, z4, c1, c2, c3, c4, take_ok, and_self, true_and, and_true]
    · simp only [K_thing, k_thing, mrow_hit, mrow_miss, ne_eq, Nat.reduceEqDiff, not_false_eq_true, reduceCtorEq, isT_f (show nt ≤ 100 by omega) (t0 _) pu_n10 hx1, if_neg pu_n10, if_neg pu_n20, if_pos pu_n01, q20, q21, q22, q23, i20, i21, i22, i23, n20, n21, n22, n23]
    · simp only [K_thing, k_thing, mrow_hit, mrow_miss, ne_eq, Nat.reduceEqDiff, not_false_eq_true, reduceCtorEq, isT_f (show nt ≤ 100 by omega) (t0 _) pu_n10 hx1, if_neg pu_n10, if_neg pu_n20, if_pos pu_n01, q20, q21, q22, q23, i20, i21, i22, i23, n20, n21, n22, n23]
    · simp only [K_thing, mrow_hit, mrow_miss, ne_eq, Nat.reduceEqDiff, not_false_eq_true, reduceCtorEq]
    · intro c hc
      simp only [K_thing]
      rw [mrow_miss _ _ (scr_ne hc rfl), mrow_miss _ _ (scr_ne hc rfl), mrow_miss _ _ (scr_ne hc rfl)]
