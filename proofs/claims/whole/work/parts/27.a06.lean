/-! a call -/
theorem op_duty {np nr nt nf : Nat} {M : Mem} (h : IV np nr nt nf M) (x1 x2 : Int32) : EO_duty M nt nf x1 x2 ∧ Ag 0 1 (e_duty M nt nf x1 x2) (fun N => KO_duty N nf x1 x2) (fun N => K_duty N nf x1 x2) := by
  obtain ⟨⟨z1, z2, z3, z4⟩, ⟨s1, s2, s3, s4⟩, ⟨c1, c2, c3, c4⟩, ⟨t1, t2, t3⟩, hL, hDd, hH, hI, hTP, ⟨b1, b2, b3, b4, b5⟩, hBK⟩ := id h
  obtain ⟨hD, -⟩ := id hDd
  have hd := DR_take (s := M.1 72) hD z3 z4
  have q20 : upd (M.1 54) 0 (nI 0) 20 = nI np := by rw [pk_un (by decide)]; exact c1
  have q21 : upd (M.1 54) 0 (nI 0) 21 = nI nr := by rw [pk_un (by decide)]; exact c2
  have q22 : upd (M.1 54) 0 (nI 0) 22 = nI nt := by rw [pk_un (by decide)]; exact c3
  have q23 : upd (M.1 54) 0 (nI 0) 23 = nI nf := by rw [pk_un (by decide)]; exact c4
  have i20 : ix (nI np) = np := pu_ix (by omega)
  have i21 : ix (nI nr) = nr := pu_ix (by omega)
  have i22 : ix (nI nt) = nt := pu_ix (by omega)
  have i23 : ix (nI nf) = nf := pu_ix (by omega)
  have n20 : isN (nI np) := pu_isN (by omega)
  have n21 : isN (nI nr) := pu_isN (by omega)
  have n22 : isN (nI nt) := pu_isN (by omega)
  have n23 : isN (nI nf) := pu_isN (by omega)
  have hz : SZ np nr nt nf := ⟨z1, z2, z3, z4⟩
  by_cases hx1 : ¬ x1 < 0 ∧ x1 < nI nf
  · skip
    by_cases hx2 : ¬ x2 < 0 ∧ x2 < nI nt
    · skip
      obtain ⟨a, ha, rfl⟩ := pu_in (n := nf) (by omega) hx1.1 hx1.2
      have ia : ix (nI a) = a := pu_ix (by omega)
      have ya : isN (nI a) := pu_isN (by omega)
      obtain ⟨t, ht, rfl⟩ := pu_in (n := nt) (by omega) hx2.1 hx2.2
      have it : ix (nI t) = t := pu_ix (by omega)
      have yt : isN (nI t) := pu_isN (by omega)
      have n01 : ∀ {a b : Nat}, a < 100 → b < 100 → (nI a = nI b) = (a = b) := fun ha hb => propext (pu_eqi (by omega) (by omega))
      have n02 : ∀ {a b : Nat}, a < 100 → b < 100 → (nI a ≤ nI b) = (a ≤ b) := fun ha hb => propext (pu_lei (by omega) (by omega))
      have n03 : ∀ {a : Nat}, a < 100 → (nI a = 0) = (a = 0) := fun ha => propext (by rw [← nI_0]; exact pu_eqi (by omega) (by omega))
      have hL' : LWr (M.1 21) (M.1 23) (upd (M.1 54) 0 (nI 0)) (M.1 65) (M.1 66) := LWr_cg hL (pk_un (by decide))
      obtain ⟨u1, u2, u3, -⟩ := sm_duty (G := M.1 22) (Vs := M.1 24) (St := M.1 67) (F := M.1 68) hd t1 hz hL' ha ht
      rcases x8 : d_dutyOf (M.1 7) (M.1 21) (M.1 22) (M.1 23) (M.1 24) (M.1 38) nt a t with ⟨v8, r8, r9⟩
      rw [x8] at u3
      simp only at u3
      refine ⟨⟨z3, s3, z4, s4, by simp (disch := omega) only [e_duty_ok, ↓if_pos hx1, ↓if_pos hx2, ia, ya, it, yt, show a < 6 by omega, show t < 10 by omega, u1, and_self]⟩, ?_⟩
      refine Ag.good h _ (mrow (mrow M 22 r8) 24 r9) v8 (by simp only [e_duty, ↓if_pos hx1, ↓if_pos hx2, ia, it, x8]) ?_ ?_ ?_ ?_ ?_ ?_
      · simp only [KO_duty, k_duty_ok, mrow_hit, mrow_miss, ne_eq, Nat.reduceEqDiff, not_false_eq_true, reduceCtorEq, isF_t (show nf ≤ 100 by omega) (t0 _) hx1, isT_t (show nt ≤ 100 by omega) (t0 _) hx2, if_neg pu_n10, q20, q21, q22, q23, i20, i21, i22, i23, n20, n21, n22, n23, z1, z2, z3, z4, c1, c2, c3, c4, take_ok, ia, ya, it, yt, show a < 6 by omega, show t < 10 by omega, u2, true_and, and_true, and_self]
      · simp only [K_duty, k_duty, mrow_hit, mrow_miss, ne_eq, Nat.reduceEqDiff, not_false_eq_true, reduceCtorEq, isF_t (show nf ≤ 100 by omega) (t0 _) hx1, isT_t (show nt ≤ 100 by omega) (t0 _) hx2, if_neg pu_n10, q20, q21, q22, q23, i20, i21, i22, i23, n20, n21, n22, n23, ia, it]; exact u3
      · simp only [K_duty, k_duty, mrow_hit, mrow_miss, ne_eq, Nat.reduceEqDiff, not_false_eq_true, reduceCtorEq, isF_t (show nf ≤ 100 by omega) (t0 _) hx1, isT_t (show nt ≤ 100 by omega) (t0 _) hx2, if_neg pu_n10, q20, q21, q22, q23, i20, i21, i22, i23, n20, n21, n22, n23, ia, it]
      · simp only [K_duty, k_duty, mrow_hit, mrow_miss, ne_eq, Nat.reduceEqDiff, not_false_eq_true, reduceCtorEq, isF_t (show nf ≤ 100 by omega) (t0 _) hx1, isT_t (show nt ≤ 100 by omega) (t0 _) hx2, if_neg pu_n10, q20, q21, q22, q23, i20, i21, i22, i23, n20, n21, n22, n23, ia, it]
      · simp only [K_duty, mrow_hit, mrow_miss, ne_eq, Nat.reduceEqDiff, not_false_eq_true, reduceCtorEq]
      · intro c hc
        simp only [K_duty]
        rw [mrow_miss _ _ (scr_ne hc rfl), mrow_miss _ _ (scr_ne hc rfl), mrow_miss _ _ (scr_ne hc rfl), mrow_miss _ _ (scr_ne hc rfl), mrow_miss _ _ (scr_ne hc rfl), mrow_miss _ _ (scr_ne hc rfl), mrow_miss _ _ (scr_ne hc rfl)]
    · refine ⟨⟨z3, s3, z4, s4, by simp only [e_duty_ok, if_pos hx1, if_neg hx2]⟩, ?_⟩
      refine Ag.bad0 h (by decide) _ (by simp only [e_duty, if_pos hx1, if_neg hx2]) ?_ ?_ ?_ ?_ ?_
      · simp only [KO_duty, k_duty_ok, mrow_hit, mrow_miss, ne_eq, Nat.reduceEqDiff, not_false_eq_true, reduceCtorEq, isF_t (show nf ≤ 100 by omega) (t0 _) hx1, isT_f (show nt ≤ 100 by omega) (t0 _) pu_n10 hx2, if_neg pu_n10, if_neg pu_n20, if_pos pu_n01, q20, q21, q22, q23, i20, i21, i22, i23, n20, n21, n22, n23, z1, z2, z3, z4, c1, c2, c3, c4, take_ok, and_self, true_and, and_true]
      · simp only [K_duty, k_duty, mrow_hit, mrow_miss, ne_eq, Nat.reduceEqDiff, not_false_eq_true, reduceCtorEq, isF_t (show nf ≤ 100 by omega) (t0 _) hx1, isT_f (show nt ≤ 100 by omega) (t0 _) pu_n10 hx2, if_neg pu_n10, if_neg pu_n20, if_pos pu_n01, q20, q21, q22, q23, i20, i21, i22, i23, n20, n21, n22, n23]
      · simp only [K_duty, k_duty, mrow_hit, mrow_miss, ne_eq, Nat.reduceEqDiff, not_false_eq_true, reduceCtorEq, isF_t (show nf ≤ 100 by omega) (t0 _) hx1, isT_f (show nt ≤ 100 by omega) (t0 _) pu_n10 hx2, if_neg pu_n10, if_neg pu_n20, if_pos pu_n01, q20, q21, q22, q23, i20, i21, i22, i23, n20, n21, n22, n23]
      · simp only [K_duty, mrow_hit, mrow_miss, ne_eq, Nat.reduceEqDiff, not_false_eq_true, reduceCtorEq]
      · intro c hc
        simp only [K_duty]
        rw [mrow_miss _ _ (scr_ne hc rfl), mrow_miss _ _ (scr_ne hc rfl), mrow_miss _ _ (scr_ne hc rfl), mrow_miss _ _ (scr_ne hc rfl), mrow_miss _ _ (scr_ne hc rfl), mrow_miss _ _ (scr_ne hc rfl)]
  · refine ⟨⟨z3, s3, z4, s4, by simp only [e_duty_ok, if_neg hx1]⟩, ?_⟩
    refine Ag.bad0 h (by decide) _ (by simp only [e_duty, if_neg hx1]) ?_ ?_ ?_ ?_ ?_
    · simp only [KO_duty, k_duty_ok, mrow_hit, mrow_miss, ne_eq, Nat.reduceEqDiff, not_false_eq_true, reduceCtorEq, isF_f (show nf ≤ 100 by omega) (t0 _) pu_n10 hx1, if_neg pu_n10, if_neg pu_n20, if_pos pu_n01, q20, q21, q22, q23, i20, i21, i22, i23, n20, n21, n22, n23, z1, z2, z3, z4, c1, c2, c3, c4, take_ok, and_self, true_and, and_true]
    · simp only [K_duty, k_duty, mrow_hit, mrow_miss, ne_eq, Nat.reduceEqDiff, not_false_eq_true, reduceCtorEq, isF_f (show nf ≤ 100 by omega) (t0 _) pu_n10 hx1, if_neg pu_n10, if_neg pu_n20, if_pos pu_n01, q20, q21, q22, q23, i20, i21, i22, i23, n20, n21, n22, n23]
    · simp only [K_duty, k_duty, mrow_hit, mrow_miss, ne_eq, Nat.reduceEqDiff, not_false_eq_true, reduceCtorEq, isF_f (show nf ≤ 100 by omega) (t0 _) pu_n10 hx1, if_neg pu_n10, if_neg pu_n20, if_pos pu_n01, q20, q21, q22, q23, i20, i21, i22, i23, n20, n21, n22, n23]
    · simp only [K_duty, mrow_hit, mrow_miss, ne_eq, Nat.reduceEqDiff, not_false_eq_true, reduceCtorEq]
    · intro c hc
      simp only [K_duty]
      rw [mrow_miss _ _ (scr_ne hc rfl), mrow_miss _ _ (scr_ne hc rfl), mrow_miss _ _ (scr_ne hc rfl), mrow_miss _ _ (scr_ne hc rfl), mrow_miss _ _ (scr_ne hc rfl), mrow_miss _ _ (scr_ne hc rfl)]
