/-! a call -/
theorem op_far {np nr nt nf : Nat} {M : Mem} (h : IV np nr nt nf M) (x1 x2 : Int32) : EO_far M np x1 x2 ∧ Ag 0 1 (e_far M np x1 x2) (fun N => KO_far N np x1 x2) (fun N => K_far N np x1 x2) := by
  obtain ⟨⟨z1, z2, z3, z4⟩, ⟨s1, s2, s3, s4⟩, ⟨c1, c2, c3, c4⟩, ⟨t1, t2, t3⟩, hL, hDd, hH, hI, hTP, ⟨b1, b2, b3, b4, b5⟩, hBK⟩ := id h
  obtain ⟨hD, -⟩ := id hDd
  have hd := DR_take (s := M.1 72) hD z3 z4
  have q20 : upd (M.1 54) 0 (nI 0) 20 = nI np := by rw [pk_un (by decide)]; exact c1
  have q21 : upd (M.1 54) 0 (nI 0) 21 = nI nr := by rw [pk_un (by decide)]; exact c2
  have q22 : upd (M.1 54) 0 (nI 0) 22 = nI nt := by rw [pk_un (by decide)]; exact c3
  have q23 : upd (M.1 54) 0 (nI 0) 23 = nI nf := by rw [pk_un (by decide)]; exact c4
  have i20 : ix (nI np) = np := pu_ix (by omega)
  have i21 : ix (nI nr) = nr := pu_ix (by omega)
  have i22 : ix (nI nt) = nt := pu_ix (by omega)
  have i23 : ix (nI nf) = nf := pu_ix (by omega)
  have n20 : isN (nI np) := pu_isN (by omega)
  have n21 : isN (nI nr) := pu_isN (by omega)
  have n22 : isN (nI nt) := pu_isN (by omega)
  have n23 : isN (nI nf) := pu_isN (by omega)
  have hz : SZ np nr nt nf := ⟨z1, z2, z3, z4⟩
  by_cases hx1 : ¬ x1 < 0 ∧ x1 < nI np
  · skip
    by_cases hx2 : ¬ x2 < 0 ∧ x2 < nI np
    · skip
      obtain ⟨a, ha, rfl⟩ := pu_in (n := np) (by omega) hx1.1 hx1.2
      have ia : ix (nI a) = a := pu_ix (by omega)
      have ya : isN (nI a) := pu_isN (by omega)
      obtain ⟨t, ht, rfl⟩ := pu_in (n := np) (by omega) hx2.1 hx2.2
      have it : ix (nI t) = t := pu_ix (by omega)
      have yt : isN (nI t) := pu_isN (by omega)
      have n01 : ∀ {a b : Nat}, a < 100 → b < 100 → (nI a = nI b) = (a = b) := fun ha hb => propext (pu_eqi (by omega) (by omega))
      have n02 : ∀ {a b : Nat}, a < 100 → b < 100 → (nI a ≤ nI b) = (a ≤ b) := fun ha hb => propext (pu_lei (by omega) (by omega))
      have n03 : ∀ {a : Nat}, a < 100 → (nI a = 0) = (a = 0) := fun ha => propext (by rw [← nI_0]; exact pu_eqi (by omega) (by omega))
      have hfr : ∀ p q, p < np → q < np → v_farFrom (M.1 11) p q = k_orNone (M.1 76 (8 * p + q)) := by
        intro p q hp hq
        simp only [v_farFrom, k_orNone]
        rcases t3 p q hp hq with ⟨d, hd1, g1, g2⟩ | ⟨g1, g2⟩
        · rw [g1, g2, if_neg (fun z => by have := (pu_lei (by omega) (by omega)).mp z; omega), if_pos ((pu_lti (by omega) (by omega)).mpr (by omega))]
        · rw [g1, g2, if_pos (Int32.le_refl _), if_neg (fun z => by have := (pu_lti (by omega) (by omega)).mp z; omega)]
      refine ⟨⟨z1, s1, by simp (disch := omega) only [e_far_ok, ↓if_pos hx1, ↓if_pos hx2, ia, ya, it, yt, show a < 8 by omega, show t < 8 by omega, and_self]⟩, ?_⟩
      have key : ∀ (v : Int32), e_far M np (nI a) (nI t) = .inl (some (.int v), M) → KO_far (M) np (nI a) (nI t) → (K_far (M) np (nI a) (nI t)).1 = v → Ag 0 1 (e_far M np (nI a) (nI t)) (fun N => KO_far N np (nI a) (nI t)) (fun N => K_far N np (nI a) (nI t)) := by
        intro v e1 e0 e2
        refine Ag.good h _ (M) v e1 e0 e2 ?_ ?_ ?_ ?_
        · simp only [K_far, k_far, mrow_hit, mrow_miss, ne_eq, Nat.reduceEqDiff, not_false_eq_true, reduceCtorEq, isP_t (show np ≤ 100 by omega) (t0 _) hx1, isP_t (show np ≤ 100 by omega) (t0 _) hx2, if_neg pu_n10, if_neg pu_n20, q20, q21, q22, q23, i20, i21, i22, i23, n20, n21, n22, n23]
          repeat' split
          all_goals rfl
        · simp only [K_far, k_far, mrow_hit, mrow_miss, ne_eq, Nat.reduceEqDiff, not_false_eq_true, reduceCtorEq, isP_t (show np ≤ 100 by omega) (t0 _) hx1, isP_t (show np ≤ 100 by omega) (t0 _) hx2, if_neg pu_n10, if_neg pu_n20, q20, q21, q22, q23, i20, i21, i22, i23, n20, n21, n22, n23]
          repeat' split
          all_goals rfl
        · simp only [K_far, mrow_hit, mrow_miss, ne_eq, Nat.reduceEqDiff, not_false_eq_true, reduceCtorEq]
        · intro c hc
          simp only [K_far]
          rw [mrow_miss _ _ (scr_ne hc rfl), mrow_miss _ _ (scr_ne hc rfl)]
      have hko : KO_far M np (nI a) (nI t) := by
        simp (disch := omega) only [KO_far, k_far_ok, mrow_hit, mrow_miss, ne_eq, Nat.reduceEqDiff, not_false_eq_true, reduceCtorEq, isP_t (show np ≤ 100 by omega) (t0 _) hx1, isP_t (show np ≤ 100 by omega) (t0 _) hx2, if_neg pu_n10, if_neg pu_n20, q20, q21, q22, q23, i20, i21, i22, i23, n20, n21, n22, n23, z1, z2, z3, z4, c1, c2, c3, c4, take_ok, true_and, and_true, and_self, ia, ya, it, yt, show 8 * a + t < 64 by omega]
      exact key _ (by simp only [e_far, ↓if_pos hx1, ↓if_pos hx2, ia, it]; rfl) hko (by simp only [K_far, k_far, mrow_hit, mrow_miss, ne_eq, Nat.reduceEqDiff, not_false_eq_true, reduceCtorEq, isP_t (show np ≤ 100 by omega) (t0 _) hx1, isP_t (show np ≤ 100 by omega) (t0 _) hx2, if_neg pu_n10, q20, q21, q22, q23, i20, i21, i22, i23, n20, n21, n22, n23, ia, it]; exact (hfr a t ha ht).symm)
    · refine ⟨⟨z1, s1, by simp only [e_far_ok, if_pos hx1, if_neg hx2]⟩, ?_⟩
      refine Ag.bad0 h (by decide) _ (by simp only [e_far, if_pos hx1, if_neg hx2]) ?_ ?_ ?_ ?_ ?_
      · simp only [KO_far, k_far_ok, mrow_hit, mrow_miss, ne_eq, Nat.reduceEqDiff, not_false_eq_true, reduceCtorEq, isP_t (show np ≤ 100 by omega) (t0 _) hx1, isP_f (show np ≤ 100 by omega) (t0 _) pu_n10 hx2, if_neg pu_n10, if_neg pu_n20, if_pos pu_n01, q20, q21, q22, q23, i20, i21, i22, i23, n20, n21, n22, n23, z1, z2, z3, z4, c1, c2, c3, c4, take_ok, and_self, true_and, and_true]
      · simp only [K_far, k_far, mrow_hit, mrow_miss, ne_eq, Nat.reduceEqDiff, not_false_eq_true, reduceCtorEq, isP_t (show np ≤ 100 by omega) (t0 _) hx1, isP_f (show np ≤ 100 by omega) (t0 _) pu_n10 hx2, if_neg pu_n10, if_neg pu_n20, if_pos pu_n01, q20, q21, q22, q23, i20, i21, i22, i23, n20, n21, n22, n23]
      · simp only [K_far, k_far, mrow_hit, mrow_miss, ne_eq, Nat.reduceEqDiff, not_false_eq_true, reduceCtorEq, isP_t (show np ≤ 100 by omega) (t0 _) hx1, isP_f (show np ≤ 100 by omega) (t0 _) pu_n10 hx2, if_neg pu_n10, if_neg pu_n20, if_pos pu_n01, q20, q21, q22, q23, i20, i21, i22, i23, n20, n21, n22, n23]
      · simp only [K_far, mrow_hit, mrow_miss, ne_eq, Nat.reduceEqDiff, not_false_eq_true, reduceCtorEq]
      · intro c hc
        simp only [K_far]
        rw [mrow_miss _ _ (scr_ne hc rfl), mrow_miss _ _ (scr_ne hc rfl), mrow_miss _ _ (scr_ne hc rfl)]
  · refine ⟨⟨z1, s1, by simp only [e_far_ok, if_neg hx1]⟩, ?_⟩
    refine Ag.bad0 h (by decide) _ (by simp only [e_far, if_neg hx1]) ?_ ?_ ?_ ?_ ?_
    · simp only [KO_far, k_far_ok, mrow_hit, mrow_miss, ne_eq, Nat.reduceEqDiff, not_false_eq_true, reduceCtorEq, isP_f (show np ≤ 100 by omega) (t0 _) pu_n10 hx1, if_neg pu_n10, if_neg pu_n20, if_pos pu_n01, q20, q21, q22, q23, i20, i21, i22, i23, n20, n21, n22, n23, z1, z2, z3, z4, c1, c2, c3, c4, take_ok, and_self, true_and, and_true]
    · simp only [K_far, k_far, mrow_hit, mrow_miss, ne_eq, Nat.reduceEqDiff, not_false_eq_true, reduceCtorEq, isP_f (show np ≤ 100 by omega) (t0 _) pu_n10 hx1, if_neg pu_n10, if_neg pu_n20, if_pos pu_n01, q20, q21, q22, q23, i20, i21, i22, i23, n20, n21, n22, n23]
    · simp only [K_far, k_far, mrow_hit, mrow_miss, ne_eq, Nat.reduceEqDiff, not_false_eq_true, reduceCtorEq, isP_f (show np ≤ 100 by omega) (t0 _) pu_n10 hx1, if_neg pu_n10, if_neg pu_n20, if_pos pu_n01, q20, q21, q22, q23, i20, i21, i22, i23, n20, n21, n22, n23]
    · simp only [K_far, mrow_hit, mrow_miss, ne_eq, Nat.reduceEqDiff, not_false_eq_true, reduceCtorEq]
    · intro c hc
      simp only [K_far]
      rw [mrow_miss _ _ (scr_ne hc rfl), mrow_miss _ _ (scr_ne hc rfl), mrow_miss _ _ (scr_ne hc rfl)]
