/-! calls: more questions -/
theorem op_would {np nr nt nf : Nat} {M : Mem} (h : IV np nr nt nf M) (x1 x2 x3 x4 x5 x6 x7 x8 : Int32) : EO_would M x1 x2 x3 x4 x5 x6 x7 x8 ∧ Ag 1 0 (e_would M x1 x2 x3 x4 x5 x6 x7 x8) (fun N => KO_would N x1 x2 x3 x4 x5 x6 x7 x8) (fun N => K_would N x1 x2 x3 x4 x5 x6 x7 x8) := by
  obtain ⟨⟨z1, z2, z3, z4⟩, ⟨s1, s2, s3, s4⟩, ⟨c1, c2, c3, c4⟩, ⟨t1, t2, t3⟩, hL, hDd, hH, hI, hTP, ⟨b1, b2, b3, b4, b5⟩, hBK⟩ := id h
  obtain ⟨hD, -⟩ := id hDd
  have hd := DR_take (s := M.1 72) hD z3 z4
  have q20 : upd (M.1 54) 0 (nI 0) 20 = nI np := by rw [pk_un (by decide)]; exact c1
  have q21 : upd (M.1 54) 0 (nI 0) 21 = nI nr := by rw [pk_un (by decide)]; exact c2
  have q22 : upd (M.1 54) 0 (nI 0) 22 = nI nt := by rw [pk_un (by decide)]; exact c3
  have q23 : upd (M.1 54) 0 (nI 0) 23 = nI nf := by rw [pk_un (by decide)]; exact c4
  have i20 : ix (nI np) = np := pu_ix (by omega)
  have i21 : ix (nI nr) = nr := pu_ix (by omega)
  have i22 : ix (nI nt) = nt := pu_ix (by omega)
  have i23 : ix (nI nf) = nf := pu_ix (by omega)
  have n20 : isN (nI np) := pu_isN (by omega)
  have n21 : isN (nI nr) := pu_isN (by omega)
  have n22 : isN (nI nt) := pu_isN (by omega)
  have n23 : isN (nI nf) := pu_isN (by omega)
  have hz : SZ np nr nt nf := ⟨z1, z2, z3, z4⟩
  by_cases hx1 : ¬ x1 < nI 1 ∧ x1 ≤ nI 60
  · skip
    by_cases hx2 : ¬ x2 < (-99) ∧ x2 ≤ nI 999
    · skip
      by_cases hx3 : ¬ x3 < nI 0 ∧ x3 ≤ nI 10
      · skip
        by_cases hx4 : ¬ x4 < nI 0 ∧ x4 ≤ nI 999
        · skip
          by_cases hx5 : ¬ x5 < nI 0 ∧ x5 ≤ nI 10
          · skip
            by_cases hx6 : ¬ x6 < nI 0 ∧ x6 ≤ nI 400
            · skip
              by_cases hx7 : ¬ x7 < nI 0 ∧ x7 ≤ nI 999
              · skip
                by_cases hx8 : ¬ x8 < nI 0 ∧ x8 ≤ nI 5
                · skip
                  have hL' : LWr (M.1 21) (M.1 23) (upd (M.1 54) 0 (nI 0)) (M.1 65) (M.1 66) := LWr_cg hL (pk_un (by decide))
                  have hG : ∀ f, f < 8 → (upd (upd (upd (upd (upd (upd (upd (upd (M.1 22) 0 x1) 1 x2) 2 x3) 3 x4) 4 x5) 5 x6) 6 x7) 7 x8) f = (upd (upd (upd (upd (upd (upd (upd (upd (M.1 68) 0 x1) 1 x2) 2 x3) 3 x4) 4 x5) 5 x6) 6 x7) 7 x8) f := by
                    intro f hf
                    have hc : f = 0 ∨ f = 1 ∨ f = 2 ∨ f = 3 ∨ f = 4 ∨ f = 5 ∨ f = 6 ∨ f = 7 := by omega
                    rcases hc with rfl | rfl | rfl | rfl | rfl | rfl | rfl | rfl <;> simp (disch := decide) only [pk_us, pk_un]
                  obtain ⟨u1, u2, u3, -⟩ := sm_law (Vs := M.1 24) (St := M.1 67) hL' hG
                  rcases y8 : l_comesOut (M.1 21) (upd (upd (upd (upd (upd (upd (upd (upd (M.1 22) 0 x1) 1 x2) 2 x3) 3 x4) 4 x5) 5 x6) 6 x7) 7 x8) (M.1 23) (M.1 24) with ⟨v8, r8⟩
                  rw [y8] at u3
                  simp only at u3
                  refine ⟨by simp only [EO_would, e_would_ok, if_pos hx1, if_pos hx2, if_pos hx3, if_pos hx4, if_pos hx5, if_pos hx6, if_pos hx7, if_pos hx8, u1, and_self], ?_⟩
                  refine Ag.good h _ (mrow (mrow M 22 (upd (upd (upd (upd (upd (upd (upd (upd (M.1 22) 0 x1) 1 x2) 2 x3) 3 x4) 4 x5) 5 x6) 6 x7) 7 x8)) 24 r8) v8 (by simp only [e_would, if_pos hx1, if_pos hx2, if_pos hx3, if_pos hx4, if_pos hx5, if_pos hx6, if_pos hx7, if_pos hx8, y8]) ?_ ?_ ?_ ?_ ?_ ?_
                  · simp only [KO_would, k_would_ok, mrow_hit, mrow_miss, ne_eq, Nat.reduceEqDiff, not_false_eq_true, reduceCtorEq, wi_t hx1, wi_t hx2, wi_t hx3, wi_t hx4, wi_t hx5, wi_t hx6, wi_t hx7, wi_t hx8, if_neg pu_n10, k_dutyOf_ok, u2, true_and, and_true, and_self]
                  · simp only [K_would, k_would, mrow_hit, mrow_miss, ne_eq, Nat.reduceEqDiff, not_false_eq_true, reduceCtorEq, wi_t hx1, wi_t hx2, wi_t hx3, wi_t hx4, wi_t hx5, wi_t hx6, wi_t hx7, wi_t hx8, if_neg pu_n10, k_dutyOf]; exact u3.symm
                  · simp only [K_would, k_would, mrow_hit, mrow_miss, ne_eq, Nat.reduceEqDiff, not_false_eq_true, reduceCtorEq, wi_t hx1, wi_t hx2, wi_t hx3, wi_t hx4, wi_t hx5, wi_t hx6, wi_t hx7, wi_t hx8, if_neg pu_n10]
                  · simp only [K_would, k_would, mrow_hit, mrow_miss, ne_eq, Nat.reduceEqDiff, not_false_eq_true, reduceCtorEq, wi_t hx1, wi_t hx2, wi_t hx3, wi_t hx4, wi_t hx5, wi_t hx6, wi_t hx7, wi_t hx8, if_neg pu_n10]
                  · simp only [K_would, mrow_hit, mrow_miss, ne_eq, Nat.reduceEqDiff, not_false_eq_true, reduceCtorEq]
                  · intro c hc
                    simp only [K_would]
                    rw [mrow_miss _ _ (scr_ne hc rfl), mrow_miss _ _ (scr_ne hc rfl), mrow_miss _ _ (scr_ne hc rfl), mrow_miss _ _ (scr_ne hc rfl), mrow_miss _ _ (scr_ne hc rfl), mrow_miss _ _ (scr_ne hc rfl)]
                · refine ⟨by simp only [EO_would, e_would_ok, if_pos hx1, if_pos hx2, if_pos hx3, if_pos hx4, if_pos hx5, if_pos hx6, if_pos hx7, if_neg hx8], ?_⟩
                  refine Ag.bad1 h (by decide) _ (by simp only [e_would, if_pos hx1, if_pos hx2, if_pos hx3, if_pos hx4, if_pos hx5, if_pos hx6, if_pos hx7, if_neg hx8]) ?_ ?_ ?_ ?_ ?_
                  · simp only [KO_would, k_would_ok, mrow_hit, mrow_miss, ne_eq, Nat.reduceEqDiff, not_false_eq_true, reduceCtorEq, wi_t hx1, wi_t hx2, wi_t hx3, wi_t hx4, wi_t hx5, wi_t hx6, wi_t hx7, wi_f hx8, if_neg pu_n10, if_neg pu_n20, if_pos pu_n01, q20, q21, q22, q23, i20, i21, i22, i23, n20, n21, n22, n23, z1, z2, z3, z4, c1, c2, c3, c4, take_ok, and_self, true_and, and_true]
                  · simp only [K_would, k_would, mrow_hit, mrow_miss, ne_eq, Nat.reduceEqDiff, not_false_eq_true, reduceCtorEq, wi_t hx1, wi_t hx2, wi_t hx3, wi_t hx4, wi_t hx5, wi_t hx6, wi_t hx7, wi_f hx8, if_neg pu_n10, if_neg pu_n20, if_pos pu_n01, q20, q21, q22, q23, i20, i21, i22, i23, n20, n21, n22, n23]
                  · simp only [K_would, k_would, mrow_hit, mrow_miss, ne_eq, Nat.reduceEqDiff, not_false_eq_true, reduceCtorEq, wi_t hx1, wi_t hx2, wi_t hx3, wi_t hx4, wi_t hx5, wi_t hx6, wi_t hx7, wi_f hx8, if_neg pu_n10, if_neg pu_n20, if_pos pu_n01, q20, q21, q22, q23, i20, i21, i22, i23, n20, n21, n22, n23]
                  · simp only [K_would, mrow_hit, mrow_miss, ne_eq, Nat.reduceEqDiff, not_false_eq_true, reduceCtorEq]
                  · intro c hc
                    simp only [K_would]
                    rw [mrow_miss _ _ (scr_ne hc rfl), mrow_miss _ _ (scr_ne hc rfl), mrow_miss _ _ (scr_ne hc rfl), mrow_miss _ _ (scr_ne hc rfl), mrow_miss _ _ (scr_ne hc rfl)]
              · refine ⟨by simp only [EO_would, e_would_ok, if_pos hx1, if_pos hx2, if_pos hx3, if_pos hx4, if_pos hx5, if_pos hx6, if_neg hx7], ?_⟩
                refine Ag.bad1 h (by decide) _ (by simp only [e_would, if_pos hx1, if_pos hx2, if_pos hx3, if_pos hx4, if_pos hx5, if_pos hx6, if_neg hx7]) ?_ ?_ ?_ ?_ ?_
                · simp only [KO_would, k_would_ok, mrow_hit, mrow_miss, ne_eq, Nat.reduceEqDiff, not_false_eq_true, reduceCtorEq, wi_t hx1, wi_t hx2, wi_t hx3, wi_t hx4, wi_t hx5, wi_t hx6, wi_f hx7, if_neg pu_n10, if_neg pu_n20, if_pos pu_n01, q20, q21, q22, q23, i20, i21, i22, i23, n20, n21, n22, n23, z1, z2, z3, z4, c1, c2, c3, c4, take_ok, and_self, true_and, and_true]
                · simp only [K_would, k_would, mrow_hit, mrow_miss, ne_eq, Nat.reduceEqDiff, not_false_eq_true, reduceCtorEq, wi_t hx1, wi_t hx2, wi_t hx3, wi_t hx4, wi_t hx5, wi_t hx6, wi_f hx7, if_neg pu_n10, if_neg pu_n20, if_pos pu_n01, q20, q21, q22, q23, i20, i21, i22, i23, n20, n21, n22, n23]
                · simp only [K_would, k_would, mrow_hit, mrow_miss, ne_eq, Nat.reduceEqDiff, not_false_eq_true, reduceCtorEq, wi_t hx1, wi_t hx2, wi_t hx3, wi_t hx4, wi_t hx5, wi_t hx6, wi_f hx7, if_neg pu_n10, if_neg pu_n20, if_pos pu_n01, q20, q21, q22, q23, i20, i21, i22, i23, n20, n21, n22, n23]
                · simp only [K_would, mrow_hit, mrow_miss, ne_eq, Nat.reduceEqDiff, not_false_eq_true, reduceCtorEq]
                · intro c hc
                  simp only [K_would]
                  rw [mrow_miss _ _ (scr_ne hc rfl), mrow_miss _ _ (scr_ne hc rfl), mrow_miss _ _ (scr_ne hc rfl), mrow_miss _ _ (scr_ne hc rfl), mrow_miss _ _ (scr_ne hc rfl)]
            · refine ⟨by simp only [EO_would, e_would_ok, if_pos hx1, if_pos hx2, if_pos hx3, if_pos hx4, if_pos hx5, if_neg hx6], ?_⟩
              refine Ag.bad1 h (by decide) _ (by simp only [e_would, if_pos hx1, if_pos hx2, if_pos hx3, if_pos hx4, if_pos hx5, if_neg hx6]) ?_ ?_ ?_ ?_ ?_
              · simp only [KO_would, k_would_ok, mrow_hit, mrow_miss, ne_eq, Nat.reduceEqDiff, not_false_eq_true, reduceCtorEq, wi_t hx1, wi_t hx2, wi_t hx3, wi_t hx4, wi_t hx5, wi_f hx6, if_neg pu_n10, if_neg pu_n20, if_pos pu_n01, q20, q21, q22, q23, i20, i21, i22, i23, n20, n21, n22, n23, z1, z2, z3, z4, c1, c2, c3, c4, take_ok, and_self, true_and, and_true]
              · simp only [K_would, k_would, mrow_hit, mrow_miss, ne_eq, Nat.reduceEqDiff, not_false_eq_true, reduceCtorEq, wi_t hx1, wi_t hx2, wi_t hx3, wi_t hx4, wi_t hx5, wi_f hx6, if_neg pu_n10, if_neg pu_n20, if_pos pu_n01, q20, q21, q22, q23, i20, i21, i22, i23, n20, n21, n22, n23]
              · simp only [K_would, k_would, mrow_hit, mrow_miss, ne_eq, Nat.reduceEqDiff, not_false_eq_true, reduceCtorEq, wi_t hx1, wi_t hx2, wi_t hx3, wi_t hx4, wi_t hx5, wi_f hx6, if_neg pu_n10, if_neg pu_n20, if_pos pu_n01, q20, q21, q22, q23, i20, i21, i22, i23, n20, n21, n22, n23]
              · simp only [K_would, mrow_hit, mrow_miss, ne_eq, Nat.reduceEqDiff, not_false_eq_true, reduceCtorEq]
              · intro c hc
                simp only [K_would]
                rw [mrow_miss _ _ (scr_ne hc rfl), mrow_miss _ _ (scr_ne hc rfl), mrow_miss _ _ (scr_ne hc rfl), mrow_miss _ _ (scr_ne hc rfl), mrow_miss _ _ (scr_ne hc rfl)]
          · refine ⟨by simp only [EO_would, e_would_ok, if_pos hx1, if_pos hx2, if_pos hx3, if_pos hx4, if_neg hx5], ?_⟩
            refine Ag.bad1 h (by decide) _ (by simp only [e_would, if_pos hx1, if_pos hx2, if_pos hx3, if_pos hx4, if_neg hx5]) ?_ ?_ ?_ ?_ ?_
            · simp only [KO_would, k_would_ok, mrow_hit, mrow_miss, ne_eq, Nat.reduceEqDiff, not_false_eq_true, reduceCtorEq, wi_t hx1, wi_t hx2, wi_t hx3, wi_t hx4, wi_f hx5, if_neg pu_n10, if_neg pu_n20, if_pos pu_n01, q20, q21, q22, q23, i20, i21, i22, i23, n20, n21, n22, n23, z1, z2, z3, z4, c1, c2, c3, c4, take_ok, and_self, true_and, and_true]
            · simp only [K_would, k_would, mrow_hit, mrow_miss, ne_eq, Nat.reduceEqDiff, not_false_eq_true, reduceCtorEq, wi_t hx1, wi_t hx2, wi_t hx3, wi_t hx4, wi_f hx5, if_neg pu_n10, if_neg pu_n20, if_pos pu_n01, q20, q21, q22, q23, i20, i21, i22, i23, n20, n21, n22, n23]
            · simp only [K_would, k_would, mrow_hit, mrow_miss, ne_eq, Nat.reduceEqDiff, not_false_eq_true, reduceCtorEq, wi_t hx1, wi_t hx2, wi_t hx3, wi_t hx4, wi_f hx5, if_neg pu_n10, if_neg pu_n20, if_pos pu_n01, q20, q21, q22, q23, i20, i21, i22, i23, n20, n21, n22, n23]
            · simp only [K_would, mrow_hit, mrow_miss, ne_eq, Nat.reduceEqDiff, not_false_eq_true, reduceCtorEq]
            · intro c hc
              simp only [K_would]
              rw [mrow_miss _ _ (scr_ne hc rfl), mrow_miss _ _ (scr_ne hc rfl), mrow_miss _ _ (scr_ne hc rfl), mrow_miss _ _ (scr_ne hc rfl), mrow_miss _ _ (scr_ne hc rfl)]
        · refine ⟨by simp only [EO_would, e_would_ok, if_pos hx1, if_pos hx2, if_pos hx3, if_neg hx4], ?_⟩
          refine Ag.bad1 h (by decide) _ (by simp only [e_would, if_pos hx1, if_pos hx2, if_pos hx3, if_neg hx4]) ?_ ?_ ?_ ?_ ?_
          · simp only [KO_would, k_would_ok, mrow_hit, mrow_miss, ne_eq, Nat.reduceEqDiff, not_false_eq_true, reduceCtorEq, wi_t hx1, wi_t hx2, wi_t hx3, wi_f hx4, if_neg pu_n10, if_neg pu_n20, if_pos pu_n01, q20, q21, q22, q23, i20, i21, i22, i23, n20, n21, n22, n23, z1, z2, z3, z4, c1, c2, c3, c4, take_ok, and_self, true_and, and_true]
          · simp only [K_would, k_would, mrow_hit, mrow_miss, ne_eq, Nat.reduceEqDiff, not_false_eq_true, reduceCtorEq, wi_t hx1, wi_t hx2, wi_t hx3, wi_f hx4, if_neg pu_n10, if_neg pu_n20, if_pos pu_n01, q20, q21, q22, q23, i20, i21, i22, i23, n20, n21, n22, n23]
          · simp only [K_would, k_would, mrow_hit, mrow_miss, ne_eq, Nat.reduceEqDiff, not_false_eq_true, reduceCtorEq, wi_t hx1, wi_t hx2, wi_t hx3, wi_f hx4, if_neg pu_n10, if_neg pu_n20, if_pos pu_n01, q20, q21, q22, q23, i20, i21, i22, i23, n20, n21, n22, n23]
          · simp only [K_would, mrow_hit, mrow_miss, ne_eq, Nat.reduceEqDiff, not_false_eq_true, reduceCtorEq]
          · intro c hc
            simp only [K_would]
            rw [mrow_miss _ _ (scr_ne hc rfl), mrow_miss _ _ (scr_ne hc rfl), mrow_miss _ _ (scr_ne hc rfl), mrow_miss _ _ (scr_ne hc rfl), mrow_miss _ _ (scr_ne hc rfl)]
      · refine ⟨by simp only [EO_would, e_would_ok, if_pos hx1, if_pos hx2, if_neg hx3], ?_⟩
        refine Ag.bad1 h (by decide) _ (by simp only [e_would, if_pos hx1, if_pos hx2, if_neg hx3]) ?_ ?_ ?_ ?_ ?_
        · simp only [KO_would, k_would_ok, mrow_hit, mrow_miss, ne_eq, Nat.reduceEqDiff, not_false_eq_true, reduceCtorEq, wi_t hx1, wi_t hx2, wi_f hx3, if_neg pu_n10, if_neg pu_n20, if_pos pu_n01, q20, q21, q22, q23, i20, i21, i22, i23, n20, n21, n22, n23, z1, z2, z3, z4, c1, c2, c3, c4, take_ok, and_self, true_and, and_true]
        · simp only [K_would, k_would, mrow_hit, mrow_miss, ne_eq, Nat.reduceEqDiff, not_false_eq_true, reduceCtorEq, wi_t hx1, wi_t hx2, wi_f hx3, if_neg pu_n10, if_neg pu_n20, if_pos pu_n01, q20, q21, q22, q23, i20, i21, i22, i23, n20, n21, n22, n23]
        · simp only [K_would, k_would, mrow_hit, mrow_miss, ne_eq, Nat.reduceEqDiff, not_false_eq_true, reduceCtorEq, wi_t hx1, wi_t hx2, wi_f hx3, if_neg pu_n10, if_neg pu_n20, if_pos pu_n01, q20, q21, q22, q23, i20, i21, i22, i23, n20, n21, n22, n23]
        · simp only [K_would, mrow_hit, mrow_miss, ne_eq, Nat.reduceEqDiff, not_false_eq_true, reduceCtorEq]
        · intro c hc
          simp only [K_would]
          rw [mrow_miss _ _ (scr_ne hc rfl), mrow_miss _ _ (scr_ne hc rfl), mrow_miss _ _ (scr_ne hc rfl), mrow_miss _ _ (scr_ne hc rfl), mrow_miss _ _ (scr_ne hc rfl)]
    · refine ⟨by simp only [EO_would, e_would_ok, if_pos hx1, if_neg hx2], ?_⟩
      refine Ag.bad1 h (by decide) _ (by simp only [e_would, if_pos hx1, if_neg hx2]) ?_ ?_ ?_ ?_ ?_
      · simp only [KO_would, k_would_ok, mrow_hit, mrow_miss, ne_eq, Nat.reduceEqDiff, not_false_eq_true, reduceCtorEq, wi_t hx1, wi_f hx2, if_neg pu_n10, if_neg pu_n20, if_pos pu_n01, q20, q21, q22, q23, i20, i21, i22, i23, n20, n21, n22, n23, z1, z2, z3, z4, c1, c2, c3, c4, take_ok, and_self, true_and, and_true]
      · simp only [K_would, k_would, mrow_hit, mrow_miss, ne_eq, Nat.reduceEqDiff, not_false_eq_true, reduceCtorEq, wi_t hx1, wi_f hx2, if_neg pu_n10, if_neg pu_n20, if_pos pu_n01, q20, q21, q22, q23, i20, i21, i22, i23, n20, n21, n22, n23]
      · simp only [K_would, k_would, mrow_hit, mrow_miss, ne_eq, Nat.reduceEqDiff, not_false_eq_true, reduceCtorEq, wi_t hx1, wi_f hx2, if_neg pu_n10, if_neg pu_n20, if_pos pu_n01, q20, q21, q22, q23, i20, i21, i22, i23, n20, n21, n22, n23]
      · simp only [K_would, mrow_hit, mrow_miss, ne_eq, Nat.reduceEqDiff, not_false_eq_true, reduceCtorEq]
      · intro c hc
        simp only [K_would]
        rw [mrow_miss _ _ (scr_ne hc rfl), mrow_miss _ _ (scr_ne hc rfl), mrow_miss _ _ (scr_ne hc rfl), mrow_miss _ _ (scr_ne hc rfl), mrow_miss _ _ (scr_ne hc rfl)]
  · refine ⟨by simp only [EO_would, e_would_ok, if_neg hx1], ?_⟩
    refine Ag.bad1 h (by decide) _ (by simp only [e_would, if_neg hx1]) ?_ ?_ ?_ ?_ ?_
    · simp only [KO_would, k_would_ok, mrow_hit, mrow_miss, ne_eq, Nat.reduceEqDiff, not_false_eq_true, reduceCtorEq, wi_f hx1, if_neg pu_n10, if_neg pu_n20, if_pos pu_n01, q20, q21, q22, q23, i20, i21, i22, i23, n20, n21, n22, n23, z1, z2, z3, z4, c1, c2, c3, c4, take_ok, and_self, true_and, and_true]
    · simp only [K_would, k_would, mrow_hit, mrow_miss, ne_eq, Nat.reduceEqDiff, not_false_eq_true, reduceCtorEq, wi_f hx1, if_neg pu_n10, if_neg pu_n20, if_pos pu_n01, q20, q21, q22, q23, i20, i21, i22, i23, n20, n21, n22, n23]
    · simp only [K_would, k_would, mrow_hit, mrow_miss, ne_eq, Nat.reduceEqDiff, not_false_eq_true, reduceCtorEq, wi_f hx1, if_neg pu_n10, if_neg pu_n20, if_pos pu_n01, q20, q21, q22, q23, i20, i21, i22, i23, n20, n21, n22, n23]
    · simp only [K_would, mrow_hit, mrow_miss, ne_eq, Nat.reduceEqDiff, not_false_eq_true, reduceCtorEq]
    · intro c hc
      simp only [K_would]
      rw [mrow_miss _ _ (scr_ne hc rfl), mrow_miss _ _ (scr_ne hc rfl), mrow_miss _ _ (scr_ne hc rfl), mrow_miss _ _ (scr_ne hc rfl), mrow_miss _ _ (scr_ne hc rfl)]
theorem op_lucky {np nr nt nf : Nat} {M : Mem} (h : IV np nr nt nf M) : EO_lucky M nt nf ∧ Ag 0 0 (e_lucky M nt nf) (fun N => KO_lucky N nt nf) (fun N => K_lucky N nt nf) := by
  obtain ⟨⟨z1, z2, z3, z4⟩, ⟨s1, s2, s3, s4⟩, ⟨c1, c2, c3, c4⟩, ⟨t1, t2, t3⟩, hL, hDd, hH, hI, hTP, ⟨b1, b2, b3, b4, b5⟩, hBK⟩ := id h
  obtain ⟨hD, -⟩ := id hDd
  have hd := DR_take (s := M.1 72) hD z3 z4
  have q20 : upd (M.1 54) 0 (nI 0) 20 = nI np := by rw [pk_un (by decide)]; exact c1
  have q21 : upd (M.1 54) 0 (nI 0) 21 = nI nr := by rw [pk_un (by decide)]; exact c2
  have q22 : upd (M.1 54) 0 (nI 0) 22 = nI nt := by rw [pk_un (by decide)]; exact c3
  have q23 : upd (M.1 54) 0 (nI 0) 23 = nI nf := by rw [pk_un (by decide)]; exact c4
  have i20 : ix (nI np) = np := pu_ix (by omega)
  have i21 : ix (nI nr) = nr := pu_ix (by omega)
  have i22 : ix (nI nt) = nt := pu_ix (by omega)
  have i23 : ix (nI nf) = nf := pu_ix (by omega)
  have n20 : isN (nI np) := pu_isN (by omega)
  have n21 : isN (nI nr) := pu_isN (by omega)
  have n22 : isN (nI nt) := pu_isN (by omega)
  have n23 : isN (nI nf) := pu_isN (by omega)
  have hz : SZ np nr nt nf := ⟨z1, z2, z3, z4⟩
  refine ⟨⟨z3, s3, z4, s4⟩, ?_⟩
  have key : ∀ (v : Int32), e_lucky M nt nf = .inl (some (.int v), M) → KO_lucky (M) nt nf → (K_lucky (M) nt nf).1 = v → Ag 0 0 (e_lucky M nt nf) (fun N => KO_lucky N nt nf) (fun N => K_lucky N nt nf) := by
    intro v e1 e0 e2
    refine Ag.good h _ (M) v e1 e0 e2 ?_ ?_ ?_ ?_
    · simp only [K_lucky, k_lucky, mrow_hit, mrow_miss, ne_eq, Nat.reduceEqDiff, not_false_eq_true, reduceCtorEq]
    · simp only [K_lucky, mrow_hit, mrow_miss, ne_eq, Nat.reduceEqDiff, not_false_eq_true, reduceCtorEq]
    · simp only [K_lucky, mrow_hit, mrow_miss, ne_eq, Nat.reduceEqDiff, not_false_eq_true, reduceCtorEq]
    · intro c hc
      simp only [K_lucky]
      rw [mrow_miss _ _ (scr_ne hc rfl), mrow_miss _ _ (scr_ne hc rfl)]
  exact key _ rfl ⟨z3, c3, z4, c4, take_ok _ _, trivial⟩ (by simp only [K_lucky, k_lucky]; exact lu_eq hd ⟨z1, z4⟩ nf (Nat.le_refl _))
theorem op_empty {np nr nt nf : Nat} {M : Mem} (h : IV np nr nt nf M) : EO_empty M np nt nf ∧ Ag 0 0 (e_empty M np nt nf) (fun N => KO_empty N np nt nf) (fun N => K_empty N np nt nf) := by
  obtain ⟨⟨z1, z2, z3, z4⟩, ⟨s1, s2, s3, s4⟩, ⟨c1, c2, c3, c4⟩, ⟨t1, t2, t3⟩, hL, hDd, hH, hI, hTP, ⟨b1, b2, b3, b4, b5⟩, hBK⟩ := id h
  obtain ⟨hD, -⟩ := id hDd
  have hd := DR_take (s := M.1 72) hD z3 z4
  have q20 : upd (M.1 54) 0 (nI 0) 20 = nI np := by rw [pk_un (by decide)]; exact c1
  have q21 : upd (M.1 54) 0 (nI 0) 21 = nI nr := by rw [pk_un (by decide)]; exact c2
  have q22 : upd (M.1 54) 0 (nI 0) 22 = nI nt := by rw [pk_un (by decide)]; exact c3
  have q23 : upd (M.1 54) 0 (nI 0) 23 = nI nf := by rw [pk_un (by decide)]; exact c4
  have i20 : ix (nI np) = np := pu_ix (by omega)
  have i21 : ix (nI nr) = nr := pu_ix (by omega)
  have i22 : ix (nI nt) = nt := pu_ix (by omega)
  have i23 : ix (nI nf) = nf := pu_ix (by omega)
  have n20 : isN (nI np) := pu_isN (by omega)
  have n21 : isN (nI nr) := pu_isN (by omega)
  have n22 : isN (nI nt) := pu_isN (by omega)
  have n23 : isN (nI nf) := pu_isN (by omega)
  have hz : SZ np nr nt nf := ⟨z1, z2, z3, z4⟩
  refine ⟨⟨z1, s1, z3, s3, z4, s4⟩, ?_⟩
  have key : ∀ (v : Int32), e_empty M np nt nf = .inl (some (.int v), M) → KO_empty (M) np nt nf → (K_empty (M) np nt nf).1 = v → Ag 0 0 (e_empty M np nt nf) (fun N => KO_empty N np nt nf) (fun N => K_empty N np nt nf) := by
    intro v e1 e0 e2
    refine Ag.good h _ (M) v e1 e0 e2 ?_ ?_ ?_ ?_
    · simp only [K_empty, k_empty, mrow_hit, mrow_miss, ne_eq, Nat.reduceEqDiff, not_false_eq_true, reduceCtorEq]
    · simp only [K_empty, mrow_hit, mrow_miss, ne_eq, Nat.reduceEqDiff, not_false_eq_true, reduceCtorEq]
    · simp only [K_empty, mrow_hit, mrow_miss, ne_eq, Nat.reduceEqDiff, not_false_eq_true, reduceCtorEq]
    · intro c hc
      simp only [K_empty]
      rw [mrow_miss _ _ (scr_ne hc rfl), mrow_miss _ _ (scr_ne hc rfl)]
  exact key _ rfl ⟨z1, c1, z3, c3, z4, c4, take_ok _ _, trivial⟩ (by simp only [K_empty, k_empty]; exact em_eq hd z1 z3 z4)
theorem op_sound {np nr nt nf : Nat} {M : Mem} (h : IV np nr nt nf M) (x1 : Int32) : EO_sound M nt nf x1 ∧ Ag 1 0 (e_sound M nt nf x1) (fun N => KO_sound N x1) (fun N => K_sound N x1) := by
  obtain ⟨⟨z1, z2, z3, z4⟩, ⟨s1, s2, s3, s4⟩, ⟨c1, c2, c3, c4⟩, ⟨t1, t2, t3⟩, hL, hDd, hH, hI, hTP, ⟨b1, b2, b3, b4, b5⟩, hBK⟩ := id h
  obtain ⟨hD, -⟩ := id hDd
  have hd := DR_take (s := M.1 72) hD z3 z4
  have q20 : upd (M.1 54) 0 (nI 0) 20 = nI np := by rw [pk_un (by decide)]; exact c1
  have q21 : upd (M.1 54) 0 (nI 0) 21 = nI nr := by rw [pk_un (by decide)]; exact c2
  have q22 : upd (M.1 54) 0 (nI 0) 22 = nI nt := by rw [pk_un (by decide)]; exact c3
  have q23 : upd (M.1 54) 0 (nI 0) 23 = nI nf := by rw [pk_un (by decide)]; exact c4
  have i20 : ix (nI np) = np := pu_ix (by omega)
  have i21 : ix (nI nr) = nr := pu_ix (by omega)
  have i22 : ix (nI nt) = nt := pu_ix (by omega)
  have i23 : ix (nI nf) = nf := pu_ix (by omega)
  have n20 : isN (nI np) := pu_isN (by omega)
  have n21 : isN (nI nr) := pu_isN (by omega)
  have n22 : isN (nI nt) := pu_isN (by omega)
  have n23 : isN (nI nf) := pu_isN (by omega)
  have hz : SZ np nr nt nf := ⟨z1, z2, z3, z4⟩
  by_cases hx1 : ¬ x1 < nI 0 ∧ x1 ≤ nI 2
  · skip
    refine ⟨⟨z3, s3, z4, s4⟩, ?_⟩
    obtain ⟨k, hk, rfl⟩ := pu_le2 (n := 2) (by omega) (by rw [← nI_0]; exact hx1.1) hx1.2
    have hk9 : k = 0 ∨ k = 1 ∨ k = 2 := by omega
    have n01 : ∀ {a b : Nat}, a < 100 → b < 100 → (nI a = nI b) = (a = b) := fun ha hb => propext (pu_eqi (by omega) (by omega))
    have n02 : ∀ {a b : Nat}, a < 100 → b < 100 → (nI a ≤ nI b) = (a ≤ b) := fun ha hb => propext (pu_lei (by omega) (by omega))
    have n03 : ∀ {a : Nat}, a < 100 → (nI a = 0) = (a = 0) := fun ha => propext (by rw [← nI_0]; exact pu_eqi (by omega) (by omega))
    have key : ∀ (v : Int32), e_sound M nt nf x1 = .inl (some (.int v), M) → KO_sound (M) x1 → (K_sound (M) x1).1 = v → Ag 1 0 (e_sound M nt nf x1) (fun N => KO_sound N x1) (fun N => K_sound N x1) := by
      intro v e1 e0 e2
      refine Ag.good h _ (M) v e1 e0 e2 ?_ ?_ ?_ ?_
      · simp only [K_sound, k_sound, mrow_hit, mrow_miss, ne_eq, Nat.reduceEqDiff, not_false_eq_true, reduceCtorEq, wi_t hx1, may1_t (t0 _), if_neg pu_n10, if_neg pu_n20]
        repeat' split
        all_goals rfl
      · simp only [K_sound, k_sound, mrow_hit, mrow_miss, ne_eq, Nat.reduceEqDiff, not_false_eq_true, reduceCtorEq, wi_t hx1, may1_t (t0 _), if_neg pu_n10, if_neg pu_n20]
        repeat' split
        all_goals rfl
      · simp only [K_sound, mrow_hit, mrow_miss, ne_eq, Nat.reduceEqDiff, not_false_eq_true, reduceCtorEq]
      · intro c hc
        simp only [K_sound]
        rw [mrow_miss _ _ (scr_ne hc rfl), mrow_miss _ _ (scr_ne hc rfl), mrow_miss _ _ (scr_ne hc rfl)]
    have hko : KO_sound M x1 := by
      simp (disch := omega) only [KO_sound, k_sound_ok, mrow_hit, mrow_miss, ne_eq, Nat.reduceEqDiff, not_false_eq_true, reduceCtorEq, wi_t hx1, may1_t (t0 _), if_neg pu_n10, if_neg pu_n20, q20, q21, q22, q23, i20, i21, i22, i23, n20, n21, n22, n23, z1, z2, z3, z4, c1, c2, c3, c4, take_ok, true_and, and_true, and_self]
    exact key _ (by simp only [e_sound, if_pos hx1, if_pos hx1]) hko (by simp only [K_sound, k_sound, mrow_hit, mrow_miss, ne_eq, Nat.reduceEqDiff, not_false_eq_true, reduceCtorEq, wi_t hx1, may1_t (t0 _), if_neg pu_n10, q20, q21, q22, q23, i20, i21, i22, i23, n20, n21, n22, n23]; exact so_eq hd t1 hk nf (Nat.le_refl _))
  · refine ⟨⟨z3, s3, z4, s4⟩, ?_⟩
    refine Ag.bad1 h (by decide) _ (by simp only [e_sound, if_neg hx1]) ?_ ?_ ?_ ?_ ?_
    · simp only [KO_sound, k_sound_ok, mrow_hit, mrow_miss, ne_eq, Nat.reduceEqDiff, not_false_eq_true, reduceCtorEq, wi_f hx1, may1_f (t0 _) pu_n10, if_neg pu_n10, if_neg pu_n20, if_pos pu_n01, q20, q21, q22, q23, i20, i21, i22, i23, n20, n21, n22, n23, z1, z2, z3, z4, c1, c2, c3, c4, take_ok, and_self, true_and, and_true]
    · simp only [K_sound, k_sound, mrow_hit, mrow_miss, ne_eq, Nat.reduceEqDiff, not_false_eq_true, reduceCtorEq, wi_f hx1, may1_f (t0 _) pu_n10, if_neg pu_n10, if_neg pu_n20, if_pos pu_n01, q20, q21, q22, q23, i20, i21, i22, i23, n20, n21, n22, n23]
    · simp only [K_sound, k_sound, mrow_hit, mrow_miss, ne_eq, Nat.reduceEqDiff, not_false_eq_true, reduceCtorEq, wi_f hx1, may1_f (t0 _) pu_n10, if_neg pu_n10, if_neg pu_n20, if_pos pu_n01, q20, q21, q22, q23, i20, i21, i22, i23, n20, n21, n22, n23]
    · simp only [K_sound, mrow_hit, mrow_miss, ne_eq, Nat.reduceEqDiff, not_false_eq_true, reduceCtorEq]
    · intro c hc
      simp only [K_sound]
      rw [mrow_miss _ _ (scr_ne hc rfl), mrow_miss _ _ (scr_ne hc rfl), mrow_miss _ _ (scr_ne hc rfl), mrow_miss _ _ (scr_ne hc rfl)]
theorem op_burden {np nr nt nf : Nat} {M : Mem} (h : IV np nr nt nf M) (x1 : Int32) : EO_burden M nf x1 ∧ Ag 1 0 (e_burden M nf x1) (fun N => KO_burden N x1) (fun N => K_burden N x1) := by
  obtain ⟨⟨z1, z2, z3, z4⟩, ⟨s1, s2, s3, s4⟩, ⟨c1, c2, c3, c4⟩, ⟨t1, t2, t3⟩, hL, hDd, hH, hI, hTP, ⟨b1, b2, b3, b4, b5⟩, hBK⟩ := id h
  obtain ⟨hD, -⟩ := id hDd
  have hd := DR_take (s := M.1 72) hD z3 z4
  have q20 : upd (M.1 54) 0 (nI 0) 20 = nI np := by rw [pk_un (by decide)]; exact c1
  have q21 : upd (M.1 54) 0 (nI 0) 21 = nI nr := by rw [pk_un (by decide)]; exact c2
  have q22 : upd (M.1 54) 0 (nI 0) 22 = nI nt := by rw [pk_un (by decide)]; exact c3
  have q23 : upd (M.1 54) 0 (nI 0) 23 = nI nf := by rw [pk_un (by decide)]; exact c4
  have i20 : ix (nI np) = np := pu_ix (by omega)
  have i21 : ix (nI nr) = nr := pu_ix (by omega)
  have i22 : ix (nI nt) = nt := pu_ix (by omega)
  have i23 : ix (nI nf) = nf := pu_ix (by omega)
  have n20 : isN (nI np) := pu_isN (by omega)
  have n21 : isN (nI nr) := pu_isN (by omega)
  have n22 : isN (nI nt) := pu_isN (by omega)
  have n23 : isN (nI nf) := pu_isN (by omega)
  have hz : SZ np nr nt nf := ⟨z1, z2, z3, z4⟩
  by_cases hx1 : ¬ x1 < nI 0 ∧ x1 ≤ nI 1
  · skip
    refine ⟨⟨z4, s4⟩, ?_⟩
    obtain ⟨k, hk, rfl⟩ := pu_le2 (n := 1) (by omega) (by rw [← nI_0]; exact hx1.1) hx1.2
    have hk9 : k = 0 ∨ k = 1 := by omega
    have n01 : ∀ {a b : Nat}, a < 100 → b < 100 → (nI a = nI b) = (a = b) := fun ha hb => propext (pu_eqi (by omega) (by omega))
    have n02 : ∀ {a b : Nat}, a < 100 → b < 100 → (nI a ≤ nI b) = (a ≤ b) := fun ha hb => propext (pu_lei (by omega) (by omega))
    have n03 : ∀ {a : Nat}, a < 100 → (nI a = 0) = (a = 0) := fun ha => propext (by rw [← nI_0]; exact pu_eqi (by omega) (by omega))
    have key : ∀ (v : Int32), e_burden M nf x1 = .inl (some (.int v), M) → KO_burden (M) x1 → (K_burden (M) x1).1 = v → Ag 1 0 (e_burden M nf x1) (fun N => KO_burden N x1) (fun N => K_burden N x1) := by
      intro v e1 e0 e2
      refine Ag.good h _ (M) v e1 e0 e2 ?_ ?_ ?_ ?_
      · simp only [K_burden, k_burden, mrow_hit, mrow_miss, ne_eq, Nat.reduceEqDiff, not_false_eq_true, reduceCtorEq, wi_t hx1, may1_t (t0 _), if_neg pu_n10, if_neg pu_n20]
        repeat' split
        all_goals rfl
      · simp only [K_burden, k_burden, mrow_hit, mrow_miss, ne_eq, Nat.reduceEqDiff, not_false_eq_true, reduceCtorEq, wi_t hx1, may1_t (t0 _), if_neg pu_n10, if_neg pu_n20]
        repeat' split
        all_goals rfl
      · simp only [K_burden, mrow_hit, mrow_miss, ne_eq, Nat.reduceEqDiff, not_false_eq_true, reduceCtorEq]
      · intro c hc
        simp only [K_burden]
        rw [mrow_miss _ _ (scr_ne hc rfl), mrow_miss _ _ (scr_ne hc rfl)]
    have hko : KO_burden M x1 := by
      simp (disch := omega) only [KO_burden, k_burden_ok, mrow_hit, mrow_miss, ne_eq, Nat.reduceEqDiff, not_false_eq_true, reduceCtorEq, wi_t hx1, may1_t (t0 _), if_neg pu_n10, if_neg pu_n20, q20, q21, q22, q23, i20, i21, i22, i23, n20, n21, n22, n23, z1, z2, z3, z4, c1, c2, c3, c4, take_ok, true_and, and_true, and_self]
    obtain ⟨v1, v2⟩ := bu_eq hD (nI k) nf (Nat.le_refl _)
    rcases hk9 with rfl | rfl
    · exact key _ (by simp only [e_burden, if_pos hx1]) hko (by simp only [K_burden, k_burden, mrow_hit, mrow_miss, ne_eq, Nat.reduceEqDiff, not_false_eq_true, reduceCtorEq, wi_t hx1, may1_t (t0 _), if_neg pu_n10, q20, q21, q22, q23, i20, i21, i22, i23, n20, n21, n22, n23, if_pos pu_n01]; exact v1)
    · exact key _ (by simp only [e_burden, if_pos hx1]) hko (by simp only [K_burden, k_burden, mrow_hit, mrow_miss, ne_eq, Nat.reduceEqDiff, not_false_eq_true, reduceCtorEq, wi_t hx1, may1_t (t0 _), if_neg pu_n10, q20, q21, q22, q23, i20, i21, i22, i23, n20, n21, n22, n23]; exact v2)
  · refine ⟨⟨z4, s4⟩, ?_⟩
    refine Ag.bad1 h (by decide) _ (by simp only [e_burden, if_neg hx1]) ?_ ?_ ?_ ?_ ?_
    · simp only [KO_burden, k_burden_ok, mrow_hit, mrow_miss, ne_eq, Nat.reduceEqDiff, not_false_eq_true, reduceCtorEq, wi_f hx1, may1_f (t0 _) pu_n10, if_neg pu_n10, if_neg pu_n20, if_pos pu_n01, q20, q21, q22, q23, i20, i21, i22, i23, n20, n21, n22, n23, z1, z2, z3, z4, c1, c2, c3, c4, take_ok, and_self, true_and, and_true]
    · simp only [K_burden, k_burden, mrow_hit, mrow_miss, ne_eq, Nat.reduceEqDiff, not_false_eq_true, reduceCtorEq, wi_f hx1, may1_f (t0 _) pu_n10, if_neg pu_n10, if_neg pu_n20, if_pos pu_n01, q20, q21, q22, q23, i20, i21, i22, i23, n20, n21, n22, n23]
    · simp only [K_burden, k_burden, mrow_hit, mrow_miss, ne_eq, Nat.reduceEqDiff, not_false_eq_true, reduceCtorEq, wi_f hx1, may1_f (t0 _) pu_n10, if_neg pu_n10, if_neg pu_n20, if_pos pu_n01, q20, q21, q22, q23, i20, i21, i22, i23, n20, n21, n22, n23]
    · simp only [K_burden, mrow_hit, mrow_miss, ne_eq, Nat.reduceEqDiff, not_false_eq_true, reduceCtorEq]
    · intro c hc
      simp only [K_burden]
      rw [mrow_miss _ _ (scr_ne hc rfl), mrow_miss _ _ (scr_ne hc rfl), mrow_miss _ _ (scr_ne hc rfl)]
theorem op_enough {np nr nt nf : Nat} {M : Mem} (h : IV np nr nt nf M) (x1 : Int32) : EO_enough M nt nf x1 ∧ Ag 0 1 (e_enough M nt nf x1) (fun N => KO_enough N nf x1) (fun N => K_enough N nf x1) := by
  obtain ⟨⟨z1, z2, z3, z4⟩, ⟨s1, s2, s3, s4⟩, ⟨c1, c2, c3, c4⟩, ⟨t1, t2, t3⟩, hL, hDd, hH, hI, hTP, ⟨b1, b2, b3, b4, b5⟩, hBK⟩ := id h
  obtain ⟨hD, -⟩ := id hDd
  have hd := DR_take (s := M.1 72) hD z3 z4
  have q20 : upd (M.1 54) 0 (nI 0) 20 = nI np := by rw [pk_un (by decide)]; exact c1
  have q21 : upd (M.1 54) 0 (nI 0) 21 = nI nr := by rw [pk_un (by decide)]; exact c2
  have q22 : upd (M.1 54) 0 (nI 0) 22 = nI nt := by rw [pk_un (by decide)]; exact c3
  have q23 : upd (M.1 54) 0 (nI 0) 23 = nI nf := by rw [pk_un (by decide)]; exact c4
  have i20 : ix (nI np) = np := pu_ix (by omega)
  have i21 : ix (nI nr) = nr := pu_ix (by omega)
  have i22 : ix (nI nt) = nt := pu_ix (by omega)
  have i23 : ix (nI nf) = nf := pu_ix (by omega)
  have n20 : isN (nI np) := pu_isN (by omega)
  have n21 : isN (nI nr) := pu_isN (by omega)
  have n22 : isN (nI nt) := pu_isN (by omega)
  have n23 : isN (nI nf) := pu_isN (by omega)
  have hz : SZ np nr nt nf := ⟨z1, z2, z3, z4⟩
  by_cases hx1 : ¬ x1 < 0 ∧ x1 < nI nf
  · skip
    obtain ⟨a, ha, rfl⟩ := pu_in (n := nf) (by omega) hx1.1 hx1.2
    have ia : ix (nI a) = a := pu_ix (by omega)
    have ya : isN (nI a) := pu_isN (by omega)
    have he := en_eq hD t1 ha z4 nt 0 (nI 0) (by omega)
    refine ⟨⟨z3, s3, z4, s4, by simp only [e_enough_ok, if_pos hx1, ia, ya, show a < 6 by omega, and_self]⟩, ?_⟩
    have key : ∀ (v : Int32), e_enough M nt nf x1 = .inl (some (.int v), M) → KO_enough (M) nf x1 → (K_enough (M) nf x1).1 = v → Ag 0 1 (e_enough M nt nf x1) (fun N => KO_enough N nf x1) (fun N => K_enough N nf x1) := by
      intro v e1 e0 e2
      refine Ag.good h _ (M) v e1 e0 e2 ?_ ?_ ?_ ?_
      · simp only [K_enough, k_enough, mrow_hit, mrow_miss, ne_eq, Nat.reduceEqDiff, not_false_eq_true, reduceCtorEq, isF_t (show nf ≤ 100 by omega) (t0 _) hx1, if_neg pu_n10, if_neg pu_n20]
        repeat' split
        all_goals rfl
      · simp only [K_enough, k_enough, mrow_hit, mrow_miss, ne_eq, Nat.reduceEqDiff, not_false_eq_true, reduceCtorEq, isF_t (show nf ≤ 100 by omega) (t0 _) hx1, if_neg pu_n10, if_neg pu_n20]
        repeat' split
        all_goals rfl
      · simp only [K_enough, mrow_hit, mrow_miss, ne_eq, Nat.reduceEqDiff, not_false_eq_true, reduceCtorEq]
      · intro c hc
        simp only [K_enough]
        rw [mrow_miss _ _ (scr_ne hc rfl), mrow_miss _ _ (scr_ne hc rfl)]
    have hko : KO_enough M nf x1 := by
      simp (disch := omega) only [KO_enough, k_enough_ok, mrow_hit, mrow_miss, ne_eq, Nat.reduceEqDiff, not_false_eq_true, reduceCtorEq, isF_t (show nf ≤ 100 by omega) (t0 _) hx1, if_neg pu_n10, if_neg pu_n20, q20, q21, q22, q23, i20, i21, i22, i23, n20, n21, n22, n23, z1, z2, z3, z4, c1, c2, c3, c4, take_ok, true_and, and_true, and_self, he.1]
    exact key _ (by simp only [e_enough, if_pos hx1, ia]) hko (by simp only [K_enough, k_enough, mrow_hit, mrow_miss, ne_eq, Nat.reduceEqDiff, not_false_eq_true, reduceCtorEq, isF_t (show nf ≤ 100 by omega) (t0 _) hx1, if_neg pu_n10, q20, q21, q22, q23, i20, i21, i22, i23, n20, n21, n22, n23]; exact he.2)
  · refine ⟨⟨z3, s3, z4, s4, by simp only [e_enough_ok, if_neg hx1]⟩, ?_⟩
    refine Ag.bad0 h (by decide) _ (by simp only [e_enough, if_neg hx1]) ?_ ?_ ?_ ?_ ?_
    · simp only [KO_enough, k_enough_ok, mrow_hit, mrow_miss, ne_eq, Nat.reduceEqDiff, not_false_eq_true, reduceCtorEq, isF_f (show nf ≤ 100 by omega) (t0 _) pu_n10 hx1, if_neg pu_n10, if_neg pu_n20, if_pos pu_n01, q20, q21, q22, q23, i20, i21, i22, i23, n20, n21, n22, n23, z1, z2, z3, z4, c1, c2, c3, c4, take_ok, and_self, true_and, and_true]
    · simp only [K_enough, k_enough, mrow_hit, mrow_miss, ne_eq, Nat.reduceEqDiff, not_false_eq_true, reduceCtorEq, isF_f (show nf ≤ 100 by omega) (t0 _) pu_n10 hx1, if_neg pu_n10, if_neg pu_n20, if_pos pu_n01, q20, q21, q22, q23, i20, i21, i22, i23, n20, n21, n22, n23]
    · simp only [K_enough, k_enough, mrow_hit, mrow_miss, ne_eq, Nat.reduceEqDiff, not_false_eq_true, reduceCtorEq, isF_f (show nf ≤ 100 by omega) (t0 _) pu_n10 hx1, if_neg pu_n10, if_neg pu_n20, if_pos pu_n01, q20, q21, q22, q23, i20, i21, i22, i23, n20, n21, n22, n23]
    · simp only [K_enough, mrow_hit, mrow_miss, ne_eq, Nat.reduceEqDiff, not_false_eq_true, reduceCtorEq]
    · intro c hc
      simp only [K_enough]
      rw [mrow_miss _ _ (scr_ne hc rfl), mrow_miss _ _ (scr_ne hc rfl), mrow_miss _ _ (scr_ne hc rfl)]
theorem op_greatest {np nr nt nf : Nat} {M : Mem} (h : IV np nr nt nf M) (x1 : Int32) : EO_greatest M nt x1 ∧ Ag 1 0 (e_greatest M nt x1) (fun N => KO_greatest N x1) (fun N => K_greatest N x1) := by
  obtain ⟨⟨z1, z2, z3, z4⟩, ⟨s1, s2, s3, s4⟩, ⟨c1, c2, c3, c4⟩, ⟨t1, t2, t3⟩, hL, hDd, hH, hI, hTP, ⟨b1, b2, b3, b4, b5⟩, hBK⟩ := id h
  obtain ⟨hD, -⟩ := id hDd
  have hd := DR_take (s := M.1 72) hD z3 z4
  have q20 : upd (M.1 54) 0 (nI 0) 20 = nI np := by rw [pk_un (by decide)]; exact c1
  have q21 : upd (M.1 54) 0 (nI 0) 21 = nI nr := by rw [pk_un (by decide)]; exact c2
  have q22 : upd (M.1 54) 0 (nI 0) 22 = nI nt := by rw [pk_un (by decide)]; exact c3
  have q23 : upd (M.1 54) 0 (nI 0) 23 = nI nf := by rw [pk_un (by decide)]; exact c4
  have i20 : ix (nI np) = np := pu_ix (by omega)
  have i21 : ix (nI nr) = nr := pu_ix (by omega)
  have i22 : ix (nI nt) = nt := pu_ix (by omega)
  have i23 : ix (nI nf) = nf := pu_ix (by omega)
  have n20 : isN (nI np) := pu_isN (by omega)
  have n21 : isN (nI nr) := pu_isN (by omega)
  have n22 : isN (nI nt) := pu_isN (by omega)
  have n23 : isN (nI nf) := pu_isN (by omega)
  have hz : SZ np nr nt nf := ⟨z1, z2, z3, z4⟩
  by_cases hx1 : ¬ x1 < nI 0 ∧ x1 ≤ nI 1
  · skip
    obtain ⟨k, hk, rfl⟩ := pu_le2 (n := 1) (by omega) (by rw [← nI_0]; exact hx1.1) hx1.2
    have hk9 : k = 0 ∨ k = 1 := by omega
    have n01 : ∀ {a b : Nat}, a < 100 → b < 100 → (nI a = nI b) = (a = b) := fun ha hb => propext (pu_eqi (by omega) (by omega))
    have n02 : ∀ {a b : Nat}, a < 100 → b < 100 → (nI a ≤ nI b) = (a ≤ b) := fun ha hb => propext (pu_lei (by omega) (by omega))
    have n03 : ∀ {a : Nat}, a < 100 → (nI a = 0) = (a = 0) := fun ha => propext (by rw [← nI_0]; exact pu_eqi (by omega) (by omega))
    obtain ⟨g1, g2, g3⟩ := gr_eq t1 (fun t ht => hD.2.2.2.1 t ht) z3 (nI k) nt (Nat.le_refl _)
    have hko : KO_greatest M (nI k) := by
      simp only [KO_greatest, k_greatest_ok, mrow_hit, mrow_miss, ne_eq, Nat.reduceEqDiff, not_false_eq_true, reduceCtorEq, wi_t hx1, may1_t (t0 _), if_neg pu_n10, q20, q21, q22, q23, i20, i21, i22, i23, n20, n21, n22, n23, z1, z2, z3, z4, c1, c2, c3, c4, take_ok, true_and]
      refine ⟨fun i hi => (g3 i hi).2, ?_⟩
      rw [g1]
      split
      · trivial
      · rcases g2 with e | ⟨t, ht, e⟩
        · rw [if_pos e]; trivial
        · rw [e, if_neg (pu_nm (by omega)), pu_ix (by omega)]
          exact ⟨pu_isN (by omega), by omega, trivial⟩
    refine ⟨⟨z3, s3, ?_⟩, ?_⟩
    · simp only [e_greatest_ok, if_pos hx1, d_greatestLying_ok, d_greatestLying]
      refine ⟨⟨fun i hi => (g3 i hi).1, trivial⟩, ?_⟩
      split
      · trivial
      · rcases g2 with e | ⟨t, ht, e⟩
        · rw [if_pos e]; trivial
        · rw [e, if_neg (pu_nm (by omega)), pu_ix (by omega)]
          exact ⟨pu_isN (by omega), by omega, trivial⟩
    have key : ∀ (v : Int32), e_greatest M nt x1 = .inl (some (.int v), M) → KO_greatest (M) x1 → (K_greatest (M) x1).1 = v → Ag 1 0 (e_greatest M nt x1) (fun N => KO_greatest N x1) (fun N => K_greatest N x1) := by
      intro v e1 e0 e2
      refine Ag.good h _ (M) v e1 e0 e2 ?_ ?_ ?_ ?_
      · simp only [K_greatest, k_greatest, mrow_hit, mrow_miss, ne_eq, Nat.reduceEqDiff, not_false_eq_true, reduceCtorEq, wi_t hx1, may1_t (t0 _), if_neg pu_n10, if_neg pu_n20]
        repeat' split
        all_goals rfl
      · simp only [K_greatest, k_greatest, mrow_hit, mrow_miss, ne_eq, Nat.reduceEqDiff, not_false_eq_true, reduceCtorEq, wi_t hx1, may1_t (t0 _), if_neg pu_n10, if_neg pu_n20]
        repeat' split
        all_goals rfl
      · simp only [K_greatest, mrow_hit, mrow_miss, ne_eq, Nat.reduceEqDiff, not_false_eq_true, reduceCtorEq]
      · intro c hc
        simp only [K_greatest]
        rw [mrow_miss _ _ (scr_ne hc rfl), mrow_miss _ _ (scr_ne hc rfl)]
    rcases hk9 with rfl | rfl
    · exact key _ (by simp only [e_greatest, if_pos hx1, if_pos pu_n01]) hko (by simp only [K_greatest, k_greatest, mrow_hit, mrow_miss, ne_eq, Nat.reduceEqDiff, not_false_eq_true, reduceCtorEq, wi_t hx1, may1_t (t0 _), if_neg pu_n10, q20, q21, q22, q23, i20, i21, i22, i23, n20, n21, n22, n23, if_pos pu_n01]; exact g1)
    · rcases g2 with e | ⟨t, ht, e⟩
      · exact key _ (by simp only [e_greatest, if_pos hx1, if_neg pu_n10, d_greatestLying, if_pos e]) hko (by simp only [K_greatest, k_greatest, mrow_hit, mrow_miss, ne_eq, Nat.reduceEqDiff, not_false_eq_true, reduceCtorEq, wi_t hx1, may1_t (t0 _), if_neg pu_n10, q20, q21, q22, q23, i20, i21, i22, i23, n20, n21, n22, n23, g1, if_pos e])
      · have en : ¬ d_greatestLying_4 (M.1 7) (M.1 38) nt = -1 := by rw [e]; exact pu_nm (by omega)
        exact key _ (by simp only [e_greatest, if_pos hx1, if_neg pu_n10, d_greatestLying, if_neg en]) hko (by simp only [K_greatest, k_greatest, mrow_hit, mrow_miss, ne_eq, Nat.reduceEqDiff, not_false_eq_true, reduceCtorEq, wi_t hx1, may1_t (t0 _), if_neg pu_n10, q20, q21, q22, q23, i20, i21, i22, i23, n20, n21, n22, n23, g1, if_neg en, e, pu_ix (show t < 2147483648 by omega)]; exact (t1 t ht).1)
  · refine ⟨⟨z3, s3, by simp only [e_greatest_ok, if_neg hx1]⟩, ?_⟩
    refine Ag.bad1 h (by decide) _ (by simp only [e_greatest, if_neg hx1]) ?_ ?_ ?_ ?_ ?_
    · simp only [KO_greatest, k_greatest_ok, mrow_hit, mrow_miss, ne_eq, Nat.reduceEqDiff, not_false_eq_true, reduceCtorEq, wi_f hx1, may1_f (t0 _) pu_n10, if_neg pu_n10, if_neg pu_n20, if_pos pu_n01, q20, q21, q22, q23, i20, i21, i22, i23, n20, n21, n22, n23, z1, z2, z3, z4, c1, c2, c3, c4, take_ok, and_self, true_and, and_true]
    · simp only [K_greatest, k_greatest, mrow_hit, mrow_miss, ne_eq, Nat.reduceEqDiff, not_false_eq_true, reduceCtorEq, wi_f hx1, may1_f (t0 _) pu_n10, if_neg pu_n10, if_neg pu_n20, if_pos pu_n01, q20, q21, q22, q23, i20, i21, i22, i23, n20, n21, n22, n23]
    · simp only [K_greatest, k_greatest, mrow_hit, mrow_miss, ne_eq, Nat.reduceEqDiff, not_false_eq_true, reduceCtorEq, wi_f hx1, may1_f (t0 _) pu_n10, if_neg pu_n10, if_neg pu_n20, if_pos pu_n01, q20, q21, q22, q23, i20, i21, i22, i23, n20, n21, n22, n23]
    · simp only [K_greatest, mrow_hit, mrow_miss, ne_eq, Nat.reduceEqDiff, not_false_eq_true, reduceCtorEq]
    · intro c hc
      simp only [K_greatest]
      rw [mrow_miss _ _ (scr_ne hc rfl), mrow_miss _ _ (scr_ne hc rfl), mrow_miss _ _ (scr_ne hc rfl)]
theorem op_deepest {np nr nt nf : Nat} {M : Mem} (h : IV np nr nt nf M) (x1 : Int32) : EO_deepest M nf x1 ∧ Ag 1 0 (e_deepest M nf x1) (fun N => KO_deepest N x1) (fun N => K_deepest N x1) := by
  obtain ⟨⟨z1, z2, z3, z4⟩, ⟨s1, s2, s3, s4⟩, ⟨c1, c2, c3, c4⟩, ⟨t1, t2, t3⟩, hL, hDd, hH, hI, hTP, ⟨b1, b2, b3, b4, b5⟩, hBK⟩ := id h
  obtain ⟨hD, -⟩ := id hDd
  have hd := DR_take (s := M.1 72) hD z3 z4
  have q20 : upd (M.1 54) 0 (nI 0) 20 = nI np := by rw [pk_un (by decide)]; exact c1
  have q21 : upd (M.1 54) 0 (nI 0) 21 = nI nr := by rw [pk_un (by decide)]; exact c2
  have q22 : upd (M.1 54) 0 (nI 0) 22 = nI nt := by rw [pk_un (by decide)]; exact c3
  have q23 : upd (M.1 54) 0 (nI 0) 23 = nI nf := by rw [pk_un (by decide)]; exact c4
  have i20 : ix (nI np) = np := pu_ix (by omega)
  have i21 : ix (nI nr) = nr := pu_ix (by omega)
  have i22 : ix (nI nt) = nt := pu_ix (by omega)
  have i23 : ix (nI nf) = nf := pu_ix (by omega)
  have n20 : isN (nI np) := pu_isN (by omega)
  have n21 : isN (nI nr) := pu_isN (by omega)
  have n22 : isN (nI nt) := pu_isN (by omega)
  have n23 : isN (nI nf) := pu_isN (by omega)
  have hz : SZ np nr nt nf := ⟨z1, z2, z3, z4⟩
  by_cases hx1 : ¬ x1 < nI 0 ∧ x1 ≤ nI 1
  · skip
    obtain ⟨k, hk, rfl⟩ := pu_le2 (n := 1) (by omega) (by rw [← nI_0]; exact hx1.1) hx1.2
    have hk9 : k = 0 ∨ k = 1 := by omega
    have n01 : ∀ {a b : Nat}, a < 100 → b < 100 → (nI a = nI b) = (a = b) := fun ha hb => propext (pu_eqi (by omega) (by omega))
    have n02 : ∀ {a b : Nat}, a < 100 → b < 100 → (nI a ≤ nI b) = (a ≤ b) := fun ha hb => propext (pu_lei (by omega) (by omega))
    have n03 : ∀ {a : Nat}, a < 100 → (nI a = 0) = (a = 0) := fun ha => propext (by rw [← nI_0]; exact pu_eqi (by omega) (by omega))
    obtain ⟨g1, g2, g3⟩ := de_eq hD z4 (nI k) nf (Nat.le_refl _)
    have hko : KO_deepest M (nI k) := by
      simp only [KO_deepest, k_deepest_ok, mrow_hit, mrow_miss, ne_eq, Nat.reduceEqDiff, not_false_eq_true, reduceCtorEq, wi_t hx1, may1_t (t0 _), if_neg pu_n10, q20, q21, q22, q23, i20, i21, i22, i23, n20, n21, n22, n23, z1, z2, z3, z4, c1, c2, c3, c4, take_ok, true_and]
      refine ⟨fun i hi => (g3 i hi).2, ?_⟩
      rw [g1]
      split
      · trivial
      · rcases g2 with e | ⟨t, ht, e⟩
        · rw [if_pos e]; trivial
        · rw [e, if_neg (pu_nm (by omega)), pu_ix (by omega)]
          exact ⟨pu_isN (by omega), by omega, trivial⟩
    refine ⟨⟨z4, s4, ?_⟩, ?_⟩
    · simp only [e_deepest_ok, if_pos hx1, d_deepestOwing_ok, d_deepestOwing]
      refine ⟨⟨fun i hi => (g3 i hi).1, trivial⟩, ?_⟩
      split
      · trivial
      · rcases g2 with e | ⟨t, ht, e⟩
        · rw [if_pos e]; trivial
        · rw [e, if_neg (pu_nm (by omega)), pu_ix (by omega)]
          exact ⟨pu_isN (by omega), by omega, trivial⟩
    have key : ∀ (v : Int32), e_deepest M nf x1 = .inl (some (.int v), M) → KO_deepest (M) x1 → (K_deepest (M) x1).1 = v → Ag 1 0 (e_deepest M nf x1) (fun N => KO_deepest N x1) (fun N => K_deepest N x1) := by
      intro v e1 e0 e2
      refine Ag.good h _ (M) v e1 e0 e2 ?_ ?_ ?_ ?_
      · simp only [K_deepest, k_deepest, mrow_hit, mrow_miss, ne_eq, Nat.reduceEqDiff, not_false_eq_true, reduceCtorEq, wi_t hx1, may1_t (t0 _), if_neg pu_n10, if_neg pu_n20]
        repeat' split
        all_goals rfl
      · simp only [K_deepest, k_deepest, mrow_hit, mrow_miss, ne_eq, Nat.reduceEqDiff, not_false_eq_true, reduceCtorEq, wi_t hx1, may1_t (t0 _), if_neg pu_n10, if_neg pu_n20]
        repeat' split
        all_goals rfl
      · simp only [K_deepest, mrow_hit, mrow_miss, ne_eq, Nat.reduceEqDiff, not_false_eq_true, reduceCtorEq]
      · intro c hc
        simp only [K_deepest]
        rw [mrow_miss _ _ (scr_ne hc rfl), mrow_miss _ _ (scr_ne hc rfl)]
    rcases hk9 with rfl | rfl
    · exact key _ (by simp only [e_deepest, if_pos hx1, if_pos pu_n01]) hko (by simp only [K_deepest, k_deepest, mrow_hit, mrow_miss, ne_eq, Nat.reduceEqDiff, not_false_eq_true, reduceCtorEq, wi_t hx1, may1_t (t0 _), if_neg pu_n10, q20, q21, q22, q23, i20, i21, i22, i23, n20, n21, n22, n23, if_pos pu_n01]; exact g1)
    · rcases g2 with e | ⟨t, ht, e⟩
      · exact key _ (by simp only [e_deepest, if_pos hx1, if_neg pu_n10, d_deepestOwing, if_pos e]) hko (by simp only [K_deepest, k_deepest, mrow_hit, mrow_miss, ne_eq, Nat.reduceEqDiff, not_false_eq_true, reduceCtorEq, wi_t hx1, may1_t (t0 _), if_neg pu_n10, q20, q21, q22, q23, i20, i21, i22, i23, n20, n21, n22, n23, g1, if_pos e])
      · have en : ¬ d_deepestOwing_4 (M.1 38) nf = -1 := by rw [e]; exact pu_nm (by omega)
        exact key _ (by simp only [e_deepest, if_pos hx1, if_neg pu_n10, d_deepestOwing, if_neg en]) hko (by simp only [K_deepest, k_deepest, mrow_hit, mrow_miss, ne_eq, Nat.reduceEqDiff, not_false_eq_true, reduceCtorEq, wi_t hx1, may1_t (t0 _), if_neg pu_n10, q20, q21, q22, q23, i20, i21, i22, i23, n20, n21, n22, n23, g1, if_neg en, e, pu_ix (show t < 2147483648 by omega)]; exact (hD.2.1 t ht).2.1)
  · refine ⟨⟨z4, s4, by simp only [e_deepest_ok, if_neg hx1]⟩, ?_⟩
    refine Ag.bad1 h (by decide) _ (by simp only [e_deepest, if_neg hx1]) ?_ ?_ ?_ ?_ ?_
    · simp only [KO_deepest, k_deepest_ok, mrow_hit, mrow_miss, ne_eq, Nat.reduceEqDiff, not_false_eq_true, reduceCtorEq, wi_f hx1, may1_f (t0 _) pu_n10, if_neg pu_n10, if_neg pu_n20, if_pos pu_n01, q20, q21, q22, q23, i20, i21, i22, i23, n20, n21, n22, n23, z1, z2, z3, z4, c1, c2, c3, c4, take_ok, and_self, true_and, and_true]
    · simp only [K_deepest, k_deepest, mrow_hit, mrow_miss, ne_eq, Nat.reduceEqDiff, not_false_eq_true, reduceCtorEq, wi_f hx1, may1_f (t0 _) pu_n10, if_neg pu_n10, if_neg pu_n20, if_pos pu_n01, q20, q21, q22, q23, i20, i21, i22, i23, n20, n21, n22, n23]
    · simp only [K_deepest, k_deepest, mrow_hit, mrow_miss, ne_eq, Nat.reduceEqDiff, not_false_eq_true, reduceCtorEq, wi_f hx1, may1_f (t0 _) pu_n10, if_neg pu_n10, if_neg pu_n20, if_pos pu_n01, q20, q21, q22, q23, i20, i21, i22, i23, n20, n21, n22, n23]
    · simp only [K_deepest, mrow_hit, mrow_miss, ne_eq, Nat.reduceEqDiff, not_false_eq_true, reduceCtorEq]
    · intro c hc
      simp only [K_deepest]
      rw [mrow_miss _ _ (scr_ne hc rfl), mrow_miss _ _ (scr_ne hc rfl), mrow_miss _ _ (scr_ne hc rfl)]
theorem op_ahead {np nr nt nf : Nat} {M : Mem} (h : IV np nr nt nf M) (x1 x2 : Int32) : EO_ahead M nt nf x1 x2 ∧ Ag 1 0 (e_ahead M nt nf x1 x2) (fun N => KO_ahead N nt nf x1 x2) (fun N => K_ahead N nt nf x1 x2) := by
  obtain ⟨⟨z1, z2, z3, z4⟩, ⟨s1, s2, s3, s4⟩, ⟨c1, c2, c3, c4⟩, ⟨t1, t2, t3⟩, hL, hDd, hH, hI, hTP, ⟨b1, b2, b3, b4, b5⟩, hBK⟩ := id h
  obtain ⟨hD, -⟩ := id hDd
  have hd := DR_take (s := M.1 72) hD z3 z4
  have q20 : upd (M.1 54) 0 (nI 0) 20 = nI np := by rw [pk_un (by decide)]; exact c1
  have q21 : upd (M.1 54) 0 (nI 0) 21 = nI nr := by rw [pk_un (by decide)]; exact c2
  have q22 : upd (M.1 54) 0 (nI 0) 22 = nI nt := by rw [pk_un (by decide)]; exact c3
  have q23 : upd (M.1 54) 0 (nI 0) 23 = nI nf := by rw [pk_un (by decide)]; exact c4
  have i20 : ix (nI np) = np := pu_ix (by omega)
  have i21 : ix (nI nr) = nr := pu_ix (by omega)
  have i22 : ix (nI nt) = nt := pu_ix (by omega)
  have i23 : ix (nI nf) = nf := pu_ix (by omega)
  have n20 : isN (nI np) := pu_isN (by omega)
  have n21 : isN (nI nr) := pu_isN (by omega)
  have n22 : isN (nI nt) := pu_isN (by omega)
  have n23 : isN (nI nf) := pu_isN (by omega)
  have hz : SZ np nr nt nf := ⟨z1, z2, z3, z4⟩
  by_cases hx1 : ¬ x1 < nI 0 ∧ x1 ≤ nI 99
  · skip
    by_cases hx2 : ¬ x2 < nI 0 ∧ x2 ≤ nI 2
    · skip
      obtain ⟨n, hn, rfl⟩ := pu_le2 (n := 99) (by omega) (by rw [← nI_0]; exact hx1.1) hx1.2
      obtain ⟨k, hk, rfl⟩ := pu_le2 (n := 2) (by omega) (by rw [← nI_0]; exact hx2.1) hx2.2
      have hk9 : k = 0 ∨ k = 1 ∨ k = 2 := by omega
      have n01 : ∀ {a b : Nat}, a < 100 → b < 100 → (nI a = nI b) = (a = b) := fun ha hb => propext (pu_eqi (by omega) (by omega))
      have n02 : ∀ {a b : Nat}, a < 100 → b < 100 → (nI a ≤ nI b) = (a ≤ b) := fun ha hb => propext (pu_lei (by omega) (by omega))
      have n03 : ∀ {a : Nat}, a < 100 → (nI a = 0) = (a = 0) := fun ha => propext (by rw [← nI_0]; exact pu_eqi (by omega) (by omega))
      have hd2 : DR np nt nf (d_take (M.1 38) (M.1 41)).2 (k_take (M.1 71) (M.1 72)).2 := DR_cg hD z3 z4 (fun j hj => by simp only [d_take]; rw [pk_cpy_in (by omega) (by omega)]; congr 1; omega) (fun j hj => take_at _ _ hj)
      obtain ⟨a1, a2, a3⟩ := ah_lp t1 hz hn (nI k) FU FU 0 (d_take (M.1 38) (M.1 41)).2 (k_take (M.1 71) (M.1 72)).2 (by rw [FU_eq]; omega) (by rw [FU_eq]; omega) (by omega) hd2
      refine ⟨⟨z3, s3, z4, s4, by simp only [e_ahead_ok, if_pos hx1, if_pos hx2, a1, and_self]⟩, ?_⟩
      rcases y1 : e_ahead_28 (M.1 7) nt nf (nI n) (nI k) FU (nI 0) (d_take (M.1 38) (M.1 41)).2 with ⟨w1, r1⟩
      rcases y2 : k_ahead_46 (M.1 61) nt nf (nI n) (nI k) FU (nI 0) (k_take (M.1 71) (M.1 72)).2 with ⟨w2, r2⟩
      rw [y1, y2] at a3
      simp only at a3
      have hko : KO_ahead (mrow M 41 r1) nt nf (nI n) (nI k) := by
        simp only [KO_ahead, k_ahead_ok, mrow_hit, mrow_miss, ne_eq, Nat.reduceEqDiff, not_false_eq_true, reduceCtorEq, wi_t hx1, wi_t hx2, if_neg pu_n10, z1, z2, z3, z4, c1, c2, c3, c4, take_ok, a2, true_and, and_true, and_self]
      have key : ∀ (v : Int32), e_ahead M nt nf (nI n) (nI k) = .inl (some (.int v), mrow M 41 r1) → (K_ahead (mrow M 41 r1) nt nf (nI n) (nI k)).1 = v → Ag 1 0 (e_ahead M nt nf (nI n) (nI k)) (fun N => KO_ahead N nt nf (nI n) (nI k)) (fun N => K_ahead N nt nf (nI n) (nI k)) := by
        intro v e1 e2
        refine Ag.good h _ (mrow M 41 r1) v e1 hko e2 ?_ ?_ ?_ ?_
        · simp only [K_ahead, k_ahead, mrow_hit, mrow_miss, ne_eq, Nat.reduceEqDiff, not_false_eq_true, reduceCtorEq, wi_t hx1, wi_t hx2, if_neg pu_n10]
          repeat' split
          all_goals rfl
        · simp only [K_ahead, k_ahead, mrow_hit, mrow_miss, ne_eq, Nat.reduceEqDiff, not_false_eq_true, reduceCtorEq, wi_t hx1, wi_t hx2, if_neg pu_n10]
          repeat' split
          all_goals rfl
        · simp only [K_ahead, mrow_hit, mrow_miss, ne_eq, Nat.reduceEqDiff, not_false_eq_true, reduceCtorEq]
        · intro c hc
          simp only [K_ahead]
          rw [mrow_miss _ _ (scr_ne hc rfl), mrow_miss _ _ (scr_ne hc rfl), mrow_miss _ _ (scr_ne hc rfl), mrow_miss _ _ (scr_ne hc rfl)]
      rcases hk9 with rfl | rfl | rfl
      · exact key _ (by simp only [e_ahead, if_pos hx1, if_pos hx2, y1, if_pos pu_n01]) (by simp only [K_ahead, k_ahead, mrow_hit, mrow_miss, ne_eq, Nat.reduceEqDiff, not_false_eq_true, reduceCtorEq, wi_t hx1, wi_t hx2, if_neg pu_n10, y2, if_pos pu_n01]; exact ah_eq a3)
      · exact key _ (by simp only [e_ahead, if_pos hx1, if_pos hx2, y1, if_neg pu_n10, ↓reduceIte]) (by simp only [K_ahead, k_ahead, mrow_hit, mrow_miss, ne_eq, Nat.reduceEqDiff, not_false_eq_true, reduceCtorEq, wi_t hx1, wi_t hx2, if_neg pu_n10, y2, ↓reduceIte]; exact sh_eq nf (fun a ha => (a3.2.1 a ha).2.2.2.2))
      · exact key _ (by simp only [e_ahead, if_pos hx1, if_pos hx2, y1, if_neg pu_n20, if_neg (show ¬ nI 2 = nI 1 by decide)]) (by simp only [K_ahead, k_ahead, mrow_hit, mrow_miss, ne_eq, Nat.reduceEqDiff, not_false_eq_true, reduceCtorEq, wi_t hx1, wi_t hx2, if_neg pu_n10, y2, if_neg pu_n20, if_neg (show ¬ nI 2 = nI 1 by decide)]; exact lw_eq a3 t1)
    · refine ⟨⟨z3, s3, z4, s4, by simp only [e_ahead_ok, if_pos hx1, if_neg hx2]⟩, ?_⟩
      refine Ag.bad1 h (by decide) _ (by simp only [e_ahead, if_pos hx1, if_neg hx2]) ?_ ?_ ?_ ?_ ?_
      · simp only [KO_ahead, k_ahead_ok, mrow_hit, mrow_miss, ne_eq, Nat.reduceEqDiff, not_false_eq_true, reduceCtorEq, wi_t hx1, wi_f hx2, if_neg pu_n10, if_neg pu_n20, if_pos pu_n01, q20, q21, q22, q23, i20, i21, i22, i23, n20, n21, n22, n23, z1, z2, z3, z4, c1, c2, c3, c4, take_ok, and_self, true_and, and_true]
      · simp only [K_ahead, k_ahead, mrow_hit, mrow_miss, ne_eq, Nat.reduceEqDiff, not_false_eq_true, reduceCtorEq, wi_t hx1, wi_f hx2, if_neg pu_n10, if_neg pu_n20, if_pos pu_n01, q20, q21, q22, q23, i20, i21, i22, i23, n20, n21, n22, n23]
      · simp only [K_ahead, k_ahead, mrow_hit, mrow_miss, ne_eq, Nat.reduceEqDiff, not_false_eq_true, reduceCtorEq, wi_t hx1, wi_f hx2, if_neg pu_n10, if_neg pu_n20, if_pos pu_n01, q20, q21, q22, q23, i20, i21, i22, i23, n20, n21, n22, n23]
      · simp only [K_ahead, mrow_hit, mrow_miss, ne_eq, Nat.reduceEqDiff, not_false_eq_true, reduceCtorEq]
      · intro c hc
        simp only [K_ahead]
        rw [mrow_miss _ _ (scr_ne hc rfl), mrow_miss _ _ (scr_ne hc rfl), mrow_miss _ _ (scr_ne hc rfl), mrow_miss _ _ (scr_ne hc rfl)]
  · refine ⟨⟨z3, s3, z4, s4, by simp only [e_ahead_ok, if_neg hx1]⟩, ?_⟩
    refine Ag.bad1 h (by decide) _ (by simp only [e_ahead, if_neg hx1]) ?_ ?_ ?_ ?_ ?_
    · simp only [KO_ahead, k_ahead_ok, mrow_hit, mrow_miss, ne_eq, Nat.reduceEqDiff, not_false_eq_true, reduceCtorEq, wi_f hx1, if_neg pu_n10, if_neg pu_n20, if_pos pu_n01, q20, q21, q22, q23, i20, i21, i22, i23, n20, n21, n22, n23, z1, z2, z3, z4, c1, c2, c3, c4, take_ok, and_self, true_and, and_true]
    · simp only [K_ahead, k_ahead, mrow_hit, mrow_miss, ne_eq, Nat.reduceEqDiff, not_false_eq_true, reduceCtorEq, wi_f hx1, if_neg pu_n10, if_neg pu_n20, if_pos pu_n01, q20, q21, q22, q23, i20, i21, i22, i23, n20, n21, n22, n23]
    · simp only [K_ahead, k_ahead, mrow_hit, mrow_miss, ne_eq, Nat.reduceEqDiff, not_false_eq_true, reduceCtorEq, wi_f hx1, if_neg pu_n10, if_neg pu_n20, if_pos pu_n01, q20, q21, q22, q23, i20, i21, i22, i23, n20, n21, n22, n23]
    · simp only [K_ahead, mrow_hit, mrow_miss, ne_eq, Nat.reduceEqDiff, not_false_eq_true, reduceCtorEq]
    · intro c hc
      simp only [K_ahead]
      rw [mrow_miss _ _ (scr_ne hc rfl), mrow_miss _ _ (scr_ne hc rfl), mrow_miss _ _ (scr_ne hc rfl), mrow_miss _ _ (scr_ne hc rfl)]
theorem op_parts {np nr nt nf : Nat} {M : Mem} (h : IV np nr nt nf M) (x1 x2 : Int32) : EO_parts M nt nf x1 x2 ∧ Ag 2 1 (e_parts M nt nf x1 x2) (fun N => KO_parts N nf x1 x2) (fun N => K_parts N nf x1 x2) := by
  obtain ⟨⟨z1, z2, z3, z4⟩, ⟨s1, s2, s3, s4⟩, ⟨c1, c2, c3, c4⟩, ⟨t1, t2, t3⟩, hL, hDd, hH, hI, hTP, ⟨b1, b2, b3, b4, b5⟩, hBK⟩ := id h
  obtain ⟨hD, -⟩ := id hDd
  have hd := DR_take (s := M.1 72) hD z3 z4
  have q20 : upd (M.1 54) 0 (nI 0) 20 = nI np := by rw [pk_un (by decide)]; exact c1
  have q21 : upd (M.1 54) 0 (nI 0) 21 = nI nr := by rw [pk_un (by decide)]; exact c2
  have q22 : upd (M.1 54) 0 (nI 0) 22 = nI nt := by rw [pk_un (by decide)]; exact c3
  have q23 : upd (M.1 54) 0 (nI 0) 23 = nI nf := by rw [pk_un (by decide)]; exact c4
  have i20 : ix (nI np) = np := pu_ix (by omega)
  have i21 : ix (nI nr) = nr := pu_ix (by omega)
  have i22 : ix (nI nt) = nt := pu_ix (by omega)
  have i23 : ix (nI nf) = nf := pu_ix (by omega)
  have n20 : isN (nI np) := pu_isN (by omega)
  have n21 : isN (nI nr) := pu_isN (by omega)
  have n22 : isN (nI nt) := pu_isN (by omega)
  have n23 : isN (nI nf) := pu_isN (by omega)
  have hz : SZ np nr nt nf := ⟨z1, z2, z3, z4⟩
  by_cases hx1 : ¬ x1 < 0 ∧ x1 < nI nf
  · skip
    by_cases hx2 : ¬ x2 < nI 0 ∧ x2 ≤ nI 600
    · skip
      obtain ⟨a, ha, rfl⟩ := pu_in (n := nf) (by omega) hx1.1 hx1.2
      have ia : ix (nI a) = a := pu_ix (by omega)
      have ya : isN (nI a) := pu_isN (by omega)
      have hh : k_heldBy (k_take (M.1 71) (M.1 72)).2 nt (nI a) = d_heldBy (M.1 38) nt (nI a) := hb_eq _ nt (fun t ht => hd.2.2.2.1 t ht)
      have hbs : d_heldBy (M.1 38) nt (nI a) = nI (bsn (fun t => M.1 38 (41 + t) = nI a) nt) := hb_bs (M.1 38) (nI a) nt (by omega)
      have hlt : bsn (fun t => M.1 38 (41 + t) = nI a) nt < 1024 := Nat.lt_of_lt_of_le (bsn_lt _ nt) (Nat.pow_le_pow_right (by omega) z3)
      obtain ⟨p1, p2, p3⟩ := pa_eq t1 x2 hlt FU FU 0 (nI 0) (by rw [FU_eq]; omega) (by rw [FU_eq]; omega) (by omega)
      rw [← hbs] at p1 p2 p3
      refine ⟨⟨z3, s3, z4, s4, by simp only [e_parts_ok, if_pos hx1, if_pos hx2, d_setsWorth_ok, p1, and_self]⟩, ?_⟩
      have key : ∀ (v : Int32), e_parts M nt nf x1 x2 = .inl (some (.int v), M) → KO_parts (M) nf x1 x2 → (K_parts (M) nf x1 x2).1 = v → Ag 2 1 (e_parts M nt nf x1 x2) (fun N => KO_parts N nf x1 x2) (fun N => K_parts N nf x1 x2) := by
        intro v e1 e0 e2
        refine Ag.good h _ (M) v e1 e0 e2 ?_ ?_ ?_ ?_
        · simp only [K_parts, k_parts, mrow_hit, mrow_miss, ne_eq, Nat.reduceEqDiff, not_false_eq_true, reduceCtorEq, isF_t (show nf ≤ 100 by omega) (t0 _) hx1, wi_t hx2, may1_t (t0 _), if_neg pu_n10, if_neg pu_n20]
          repeat' split
          all_goals rfl
        · simp only [K_parts, k_parts, mrow_hit, mrow_miss, ne_eq, Nat.reduceEqDiff, not_false_eq_true, reduceCtorEq, isF_t (show nf ≤ 100 by omega) (t0 _) hx1, wi_t hx2, may1_t (t0 _), if_neg pu_n10, if_neg pu_n20]
          repeat' split
          all_goals rfl
        · simp only [K_parts, mrow_hit, mrow_miss, ne_eq, Nat.reduceEqDiff, not_false_eq_true, reduceCtorEq]
        · intro c hc
          simp only [K_parts]
          rw [mrow_miss _ _ (scr_ne hc rfl), mrow_miss _ _ (scr_ne hc rfl), mrow_miss _ _ (scr_ne hc rfl)]
      have hko : KO_parts M nf x1 x2 := by
        simp (disch := omega) only [KO_parts, k_parts_ok, mrow_hit, mrow_miss, ne_eq, Nat.reduceEqDiff, not_false_eq_true, reduceCtorEq, isF_t (show nf ≤ 100 by omega) (t0 _) hx1, wi_t hx2, may1_t (t0 _), if_neg pu_n10, if_neg pu_n20, q20, q21, q22, q23, i20, i21, i22, i23, n20, n21, n22, n23, z1, z2, z3, z4, c1, c2, c3, c4, take_ok, true_and, and_true, and_self, hh, p2]
      exact key _ (by simp only [e_parts, if_pos hx1, if_pos hx2]) hko (by simp only [K_parts, k_parts, mrow_hit, mrow_miss, ne_eq, Nat.reduceEqDiff, not_false_eq_true, reduceCtorEq, isF_t (show nf ≤ 100 by omega) (t0 _) hx1, wi_t hx2, may1_t (t0 _), if_neg pu_n10, if_neg pu_n20, q20, q21, q22, q23, i20, i21, i22, i23, n20, n21, n22, n23, hh]; exact p3)
    · refine ⟨⟨z3, s3, z4, s4, by simp only [e_parts_ok, if_pos hx1, if_neg hx2]⟩, ?_⟩
      refine Ag.bad1 h (by decide) _ (by simp only [e_parts, if_pos hx1, if_neg hx2]) ?_ ?_ ?_ ?_ ?_
      · simp only [KO_parts, k_parts_ok, mrow_hit, mrow_miss, ne_eq, Nat.reduceEqDiff, not_false_eq_true, reduceCtorEq, isF_t (show nf ≤ 100 by omega) (t0 _) hx1, wi_f hx2, may1_f (t0 _) pu_n20, if_neg pu_n10, if_neg pu_n20, if_pos pu_n01, q20, q21, q22, q23, i20, i21, i22, i23, n20, n21, n22, n23, z1, z2, z3, z4, c1, c2, c3, c4, take_ok, and_self, true_and, and_true]
      · simp only [K_parts, k_parts, mrow_hit, mrow_miss, ne_eq, Nat.reduceEqDiff, not_false_eq_true, reduceCtorEq, isF_t (show nf ≤ 100 by omega) (t0 _) hx1, wi_f hx2, may1_f (t0 _) pu_n20, if_neg pu_n10, if_neg pu_n20, if_pos pu_n01, q20, q21, q22, q23, i20, i21, i22, i23, n20, n21, n22, n23]
      · simp only [K_parts, k_parts, mrow_hit, mrow_miss, ne_eq, Nat.reduceEqDiff, not_false_eq_true, reduceCtorEq, isF_t (show nf ≤ 100 by omega) (t0 _) hx1, wi_f hx2, may1_f (t0 _) pu_n20, if_neg pu_n10, if_neg pu_n20, if_pos pu_n01, q20, q21, q22, q23, i20, i21, i22, i23, n20, n21, n22, n23]
      · simp only [K_parts, mrow_hit, mrow_miss, ne_eq, Nat.reduceEqDiff, not_false_eq_true, reduceCtorEq]
      · intro c hc
        simp only [K_parts]
        rw [mrow_miss _ _ (scr_ne hc rfl), mrow_miss _ _ (scr_ne hc rfl), mrow_miss _ _ (scr_ne hc rfl), mrow_miss _ _ (scr_ne hc rfl)]
  · refine ⟨⟨z3, s3, z4, s4, by simp only [e_parts_ok, if_neg hx1]⟩, ?_⟩
    refine Ag.bad0 h (by decide) _ (by simp only [e_parts, if_neg hx1]) ?_ ?_ ?_ ?_ ?_
    · simp only [KO_parts, k_parts_ok, mrow_hit, mrow_miss, ne_eq, Nat.reduceEqDiff, not_false_eq_true, reduceCtorEq, isF_f (show nf ≤ 100 by omega) (t0 _) pu_n10 hx1, if_neg pu_n10, if_neg pu_n20, if_pos pu_n01, q20, q21, q22, q23, i20, i21, i22, i23, n20, n21, n22, n23, z1, z2, z3, z4, c1, c2, c3, c4, take_ok, and_self, true_and, and_true]
    · simp only [K_parts, k_parts, mrow_hit, mrow_miss, ne_eq, Nat.reduceEqDiff, not_false_eq_true, reduceCtorEq, isF_f (show nf ≤ 100 by omega) (t0 _) pu_n10 hx1, if_neg pu_n10, if_neg pu_n20, if_pos pu_n01, q20, q21, q22, q23, i20, i21, i22, i23, n20, n21, n22, n23]
    · simp only [K_parts, k_parts, mrow_hit, mrow_miss, ne_eq, Nat.reduceEqDiff, not_false_eq_true, reduceCtorEq, isF_f (show nf ≤ 100 by omega) (t0 _) pu_n10 hx1, if_neg pu_n10, if_neg pu_n20, if_pos pu_n01, q20, q21, q22, q23, i20, i21, i22, i23, n20, n21, n22, n23]
    · simp only [K_parts, mrow_hit, mrow_miss, ne_eq, Nat.reduceEqDiff, not_false_eq_true, reduceCtorEq]
    · intro c hc
      simp only [K_parts]
      rw [mrow_miss _ _ (scr_ne hc rfl), mrow_miss _ _ (scr_ne hc rfl), mrow_miss _ _ (scr_ne hc rfl), mrow_miss _ _ (scr_ne hc rfl)]
