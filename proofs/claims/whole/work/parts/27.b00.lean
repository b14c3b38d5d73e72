/-! calls: more questions -/
theorem op_would {np nr nt nf : Nat} {M : Mem} (h : IV np nr nt nf M) (x1 x2 x3 x4 x5 x6 x7 x8 : Int32) : EO_would M x1 x2 x3 x4 x5 x6 x7 x8 ∧ Ag 1 0 (e_would M x1 x2 x3 x4 x5 x6 x7 x8) (fun N => KO_would N x1 x2 x3 x4 x5 x6 x7 x8) (fun N => K_would N x1 x2 x3 x4 x5 x6 x7 x8) := by
  obtain ⟨⟨z1, z2, z3, z4⟩, ⟨s1, s2, s3, s4⟩, ⟨c1, c2, c3, c4⟩, ⟨t1, t2, t3⟩, hL, hDd, hH, hI, hTP, ⟨b1, b2, b3, b4, b5⟩, hBK⟩ := id h
  obtain ⟨hD, -⟩ := id hDd
  have hd := DR_take (s := M.1 72) hD z3 z4
  have q20 : upd (M.1 54) 0 (nI 0) 20 = nI np := by rw [pk_un (by decide)]; exact c1
  have q21 : upd (M.1 54) 0 (nI 0) 21 = nI nr := by rw [pk_un (by decide)]; exact c2
  have q22 : upd (M.1 54) 0 (nI 0) 22 = nI nt := by rw [pk_un (by decide)]; exact c3
  have q23 : upd (M.1 54) 0 (nI 0) 23 = nI nf := by rw [pk_un (by decide)]; exact c4
  have i20 : ix (nI np) = np := pu_ix (by omega)
  have i21 : ix (nI nr) = nr := pu_ix (by omega)
  have i22 : ix (nI nt) = nt := pu_ix (by omega)
  have i23 : ix (nI nf) = nf := pu_ix (by omega)
  have n20 : isN (nI np) := pu_isN (by omega)
  have n21 : isN (nI nr) := pu_isN (by omega)
  have n22 : isN (nI nt) := pu_isN (by omega)
  have n23 : isN (nI nf) := pu_isN (by omega)
  have hz : SZ np nr nt nf := ⟨z1, z2, z3, z4⟩
  by_cases hx1 : ¬ x1 < nI 1 ∧ x1 ≤ nI 60
  · skip
    by_cases hx2 : ¬ x2 < (-99) ∧ x2 ≤ nI 999
    · skip
      by_cases hx3 : ¬ x3 < nI 0 ∧ x3 ≤ nI 10
      · skip
        by_cases hx4 : ¬ x4 < nI 0 ∧ x4 ≤ nI 999
        · skip
          by_cases hx5 : ¬ x5 < nI 0 ∧ x5 ≤ nI 10
          · skip
            by_cases hx6 : ¬ x6 < nI 0 ∧ x6 ≤ nI 400
            · skip
              by_cases hx7 : ¬ x7 < nI 0 ∧ x7 ≤ nI 999
              · skip
                by_cases hx8 : ¬ x8 < nI 0 ∧ x8 ≤ nI 5
                · skip
                  have hL' : LWr (M.1 21) (M.1 23) (upd (M.1 54) 0 (nI 0)) (M.1 65) (M.1 66) := LWr_cg hL (pk_un (by decide))
                  have hG : ∀ f, f < 8 → (upd (upd (upd (upd (upd (upd (upd (upd (M.1 22) 0 x1) 1 x2) 2 x3) 3 x4) 4 x5) 5 x6) 6 x7) 7 x8) f = (upd (upd (upd (upd (upd (upd (upd (upd (M.1 68) 0 x1) 1 x2) 2 x3) 3 x4) 4 x5) 5 x6) 6 x7) 7 x8) f := by
                    intro f hf
                    have hc : f = 0 ∨ f = 1 ∨ f = 2 ∨ f = 3 ∨ f = 4 ∨ f = 5 ∨ f = 6 ∨ f = 7 := by omega
                    rcases hc with rfl | rfl | rfl | rfl | rfl | rfl | rfl | rfl <;> simp (disch := decide) only [pk_us, pk_un]
                  obtain ⟨u1, u2, u3, -⟩ := sm_law (Vs := M.1 24) (St := M.1 67) hL' hG
                  rcases y8 : l_comesOut (M.1 21) (upd (upd (upd (upd (upd (upd (upd (upd (M.1 22) 0 x1) 1 x2) 2 x3) 3 x4) 4 x5) 5 x6) 6 x7) 7 x8) (M.1 23) (M.1 24) with ⟨v8, r8⟩
                  rw [y8] at u3
                  simp only at u3
                  refine ⟨by simp only [EO_would, e_would_ok, ↓if_pos hx1, ↓if_pos hx2, ↓if_pos hx3, ↓if_pos hx4, ↓if_pos hx5, ↓if_pos hx6, ↓if_pos hx7, ↓if_pos hx8, u1, and_self], ?_⟩
                  refine Ag.good h _ (mrow (mrow M 22 (upd (upd (upd (upd (upd (upd (upd (upd (M.1 22) 0 x1) 1 x2) 2 x3) 3 x4) 4 x5) 5 x6) 6 x7) 7 x8)) 24 r8) v8 (by simp only [e_would, ↓if_pos hx1, ↓if_pos hx2, ↓if_pos hx3, ↓if_pos hx4, ↓if_pos hx5, ↓if_pos hx6, ↓if_pos hx7, ↓if_pos hx8, y8]) ?_ ?_ ?_ ?_ ?_ ?_
                  · simp only [KO_would, k_would_ok, mrow_hit, mrow_miss, ne_eq, Nat.reduceEqDiff, not_false_eq_true, reduceCtorEq, wi_t hx1, wi_t hx2, wi_t hx3, wi_t hx4, wi_t hx5, wi_t hx6, wi_t hx7, wi_t hx8, if_neg pu_n10, k_dutyOf_ok, u2, true_and, and_true, and_self]
                  · simp only [K_would, k_would, mrow_hit, mrow_miss, ne_eq, Nat.reduceEqDiff, not_false_eq_true, reduceCtorEq, wi_t hx1, wi_t hx2, wi_t hx3, wi_t hx4, wi_t hx5, wi_t hx6, wi_t hx7, wi_t hx8, if_neg pu_n10, k_dutyOf]; exact u3.symm
                  · simp only [K_would, k_would, mrow_hit, mrow_miss, ne_eq, Nat.reduceEqDiff, not_false_eq_true, reduceCtorEq, wi_t hx1, wi_t hx2, wi_t hx3, wi_t hx4, wi_t hx5, wi_t hx6, wi_t hx7, wi_t hx8, if_neg pu_n10]
                  · simp only [K_would, k_would, mrow_hit, mrow_miss, ne_eq, Nat.reduceEqDiff, not_false_eq_true, reduceCtorEq, wi_t hx1, wi_t hx2, wi_t hx3, wi_t hx4, wi_t hx5, wi_t hx6, wi_t hx7, wi_t hx8, if_neg pu_n10]
                  · simp only [K_would, mrow_hit, mrow_miss, ne_eq, Nat.reduceEqDiff, not_false_eq_true, reduceCtorEq]
                  · intro c hc
                    simp only [K_would]
                    rw [mrow_miss _ _ (scr_ne hc rfl), mrow_miss _ _ (scr_ne hc rfl), mrow_miss _ _ (scr_ne hc rfl), mrow_miss _ _ (scr_ne hc rfl), mrow_miss _ _ (scr_ne hc rfl), mrow_miss _ _ (scr_ne hc rfl)]
                · refine ⟨by simp only [EO_would, e_would_ok, if_pos hx1, if_pos hx2, if_pos hx3, if_pos hx4, if_pos hx5, if_pos hx6, if_pos hx7, if_neg hx8], ?_⟩
                  refine Ag.bad1 h (by decide) _ (by simp only [e_would, if_pos hx1, if_pos hx2, if_pos hx3, if_pos hx4, if_pos hx5, if_pos hx6, if_pos hx7, if_neg hx8]) ?_ ?_ ?_ ?_ ?_
                  · simp only [KO_would, k_would_ok, mrow_hit, mrow_miss, ne_eq, Nat.reduceEqDiff, not_false_eq_true, reduceCtorEq, wi_t hx1, wi_t hx2, wi_t hx3, wi_t hx4, wi_t hx5, wi_t hx6, wi_t hx7, wi_f hx8, if_neg pu_n10, if_neg pu_n20, if_pos pu_n01, q20, q21, q22, q23, i20, i21, i22, i23, n20, n21, n22, n23, z1, z2, z3, z4, c1, c2, c3, c4, take_ok, and_self, true_and, and_true]
                  · simp only [K_would, k_would, mrow_hit, mrow_miss, ne_eq, Nat.reduceEqDiff, not_false_eq_true, reduceCtorEq, wi_t hx1, wi_t hx2, wi_t hx3, wi_t hx4, wi_t hx5, wi_t hx6, wi_t hx7, wi_f hx8, if_neg pu_n10, if_neg pu_n20, if_pos pu_n01, q20, q21, q22, q23, i20, i21, i22, i23, n20, n21, n22, n23]
                  · simp only [K_would, k_would, mrow_hit, mrow_miss, ne_eq, Nat.reduceEqDiff, not_false_eq_true, reduceCtorEq, wi_t hx1, wi_t hx2, wi_t hx3, wi_t hx4, wi_t hx5, wi_t hx6, wi_t hx7, wi_f hx8, if_neg pu_n10, if_neg pu_n20, if_pos pu_n01, q20, q21, q22, q23, i20, i21, i22, i23, n20, n21, n22, n23]
                  · simp only [K_would, mrow_hit, mrow_miss, ne_eq, Nat.reduceEqDiff, not_false_eq_true, reduceCtorEq]
                  · intro c hc
                    simp only [K_would]
                    rw [mrow_miss _ _ (scr_ne hc rfl), mrow_miss _ _ (scr_ne hc rfl), mrow_miss _ _ (scr_ne hc rfl), mrow_miss _ _ (scr_ne hc rfl), mrow_miss _ _ (scr_ne hc rfl)]
              · refine ⟨by simp only [EO_would, e_would_ok, if_pos hx1, if_pos hx2, if_pos hx3, if_pos hx4, if_pos hx5, if_pos hx6, if_neg hx7], ?_⟩
                refine Ag.bad1 h (by decide) _ (by simp only [e_would, if_pos hx1, if_pos hx2, if_pos hx3, if_pos hx4, if_pos hx5, if_pos hx6, if_neg hx7]) ?_ ?_ ?_ ?_ ?_
                · simp only [KO_would, k_would_ok, mrow_hit, mrow_miss, ne_eq, Nat.reduceEqDiff, not_false_eq_true, reduceCtorEq, wi_t hx1, wi_t hx2, wi_t hx3, wi_t hx4, wi_t hx5, wi_t hx6, wi_f hx7, if_neg pu_n10, if_neg pu_n20, if_pos pu_n01, q20, q21, q22, q23, i20, i21, i22, i23, n20, n21, n22, n23, z1, z2, z3, z4, c1, c2, c3, c4, take_ok, and_self, true_and, and_true]
                · simp only [K_would, k_would, mrow_hit, mrow_miss, ne_eq, Nat.reduceEqDiff, not_false_eq_true, reduceCtorEq, wi_t hx1, wi_t hx2, wi_t hx3, wi_t hx4, wi_t hx5, wi_t hx6, wi_f hx7, if_neg pu_n10, if_neg pu_n20, if_pos pu_n01, q20, q21, q22, q23, i20, i21, i22, i23, n20, n21, n22, n23]
                · simp only [K_would, k_would, mrow_hit, mrow_miss, ne_eq, Nat.reduceEqDiff, not_false_eq_true, reduceCtorEq, wi_t hx1, wi_t hx2, wi_t hx3, wi_t hx4, wi_t hx5, wi_t hx6, wi_f hx7, if_neg pu_n10, if_neg pu_n20, if_pos pu_n01, q20, q21, q22, q23, i20, i21, i22, i23, n20, n21, n22, n23]
                · simp only [K_would, mrow_hit, mrow_miss, ne_eq, Nat.reduceEqDiff, not_false_eq_true, reduceCtorEq]
                · intro c hc
                  simp only [K_would]
                  rw [mrow_miss _ _ (scr_ne hc rfl), mrow_miss _ _ (scr_ne hc rfl), mrow_miss _ _ (scr_ne hc rfl), mrow_miss _ _ (scr_ne hc rfl), mrow_miss _ _ (scr_ne hc rfl)]
            · refine ⟨by simp only [EO_would, e_would_ok, if_pos hx1, if_pos hx2, if_pos hx3, if_pos hx4, if_pos hx5, if_neg hx6], ?_⟩
              refine Ag.bad1 h (by decide) _ (by simp only [e_would, if_pos hx1, if_pos hx2, if_pos hx3, if_pos hx4, if_pos hx5, if_neg hx6]) ?_ ?_ ?_ ?_ ?_
              · simp only [KO_would, k_would_ok, mrow_hit, mrow_miss, ne_eq, Nat.reduceEqDiff, not_false_eq_true, reduceCtorEq, wi_t hx1, wi_t hx2, wi_t hx3, wi_t hx4, wi_t hx5, wi_f hx6, if_neg pu_n10, if_neg pu_n20, if_pos pu_n01, q20, q21, q22, q23, i20, i21, i22, i23, n20, n21, n22, n23, z1, z2, z3, z4, c1, c2, c3, c4, take_ok, and_self, true_and, and_true]
              · simp only [K_would, k_would, mrow_hit, mrow_miss, ne_eq, Nat.reduceEqDiff, not_false_eq_true, reduceCtorEq, wi_t hx1, wi_t hx2, wi_t hx3, wi_t hx4, wi_t hx5, wi_f hx6, if_neg pu_n10, if_neg pu_n20, if_pos pu_n01, q20, q21, q22, q23, i20, i21, i22, i23, n20, n21, n22, n23]
              · simp only [K_would, k_would, mrow_hit, mrow_miss, ne_eq, Nat.reduceEqDiff, not_false_eq_true, reduceCtorEq, wi_t hx1, wi_t hx2, wi_t hx3, wi_t hx4, wi_t hx5, wi_f hx6, if_neg pu_n10, if_neg pu_n20, if_pos pu_n01, q20, q21, q22, q23, i20, i21, i22, i23, n20, n21, n22, n23]
              · simp only [K_would, mrow_hit, mrow_miss, ne_eq, Nat.reduceEqDiff, not_false_eq_true, reduceCtorEq]
              · intro c hc
                simp only [K_would]
                rw [mrow_miss _ _ (scr_ne hc rfl), mrow_miss _ _ (scr_ne hc rfl), mrow_miss _ _ (scr_ne hc rfl), mrow_miss _ _ (scr_ne hc rfl), mrow_miss _ _ (scr_ne hc rfl)]
          · refine ⟨by simp only [EO_would, e_would_ok, if_pos hx1, if_pos hx2, if_pos hx3, if_pos hx4, if_neg hx5], ?_⟩
            refine Ag.bad1 h (by decide) _ (by simp only [e_would, if_pos hx1, if_pos hx2, if_pos hx3, if_pos hx4, if_neg hx5]) ?_ ?_ ?_ ?_ ?_
            · simp only [KO_would, k_would_ok, mrow_hit, mrow_miss, ne_eq, Nat.reduceEqDiff, not_false_eq_true, reduceCtorEq, wi_t hx1, wi_t hx2, wi_t hx3, wi_t hx4, wi_f hx5, if_neg pu_n10, if_neg pu_n20, if_pos pu_n01, q20, q21, q22, q23, i20, i21, i22, i23, n20, n21, n22, n23, z1, z2, z3, z4, c1, c2, c3, c4, take_ok, and_self, true_and, and_true]
            · simp only [K_would, k_would, mrow_hit, mrow_miss, ne_eq, Nat.reduceEqDiff, not_false_eq_true, reduceCtorEq, wi_t hx1, wi_t hx2, wi_t hx3, wi_t hx4, wi_f hx5, if_neg pu_n10, if_neg pu_n20, if_pos pu_n01, q20, q21, q22, q23, i20, i21, i22, i23, n20, n21, n22, n23]
            · simp only [K_would, k_would, mrow_hit, mrow_miss, ne_eq, Nat.reduceEqDiff, not_false_eq_true, reduceCtorEq, wi_t hx1, wi_t hx2, wi_t hx3, wi_t hx4, wi_f hx5, if_neg pu_n10, if_neg pu_n20, if_pos pu_n01, q20, q21, q22, q23, i20, i21, i22, i23, n20, n21, n22, n23]
            · simp only [K_would, mrow_hit, mrow_miss, ne_eq, Nat.reduceEqDiff, not_false_eq_true, reduceCtorEq]
            · intro c hc
              simp only [K_would]
              rw [mrow_miss _ _ (scr_ne hc rfl), mrow_miss _ _ (scr_ne hc rfl), mrow_miss _ _ (scr_ne hc rfl), mrow_miss _ _ (scr_ne hc rfl), mrow_miss _ _ (scr_ne hc rfl)]
        · refine ⟨by simp only [EO_would, e_would_ok, if_pos hx1, if_pos hx2, if_pos hx3, if_neg hx4], ?_⟩
          refine Ag.bad1 h (by decide) _ (by simp only [e_would, if_pos hx1, if_pos hx2, if_pos hx3, if_neg hx4]) ?_ ?_ ?_ ?_ ?_
          · simp only [KO_would, k_would_ok, mrow_hit, mrow_miss, ne_eq, Nat.reduceEqDiff, not_false_eq_true, reduceCtorEq, wi_t hx1, wi_t hx2, wi_t hx3, wi_f hx4, if_neg pu_n10, if_neg pu_n20, if_pos pu_n01, q20, q21, q22, q23, i20, i21, i22, i23, n20, n21, n22, n23, z1, z2, z3, z4, c1, c2, c3, c4, take_ok, and_self, true_and, and_true]
          · simp only [K_would, k_would, mrow_hit, mrow_miss, ne_eq, Nat.reduceEqDiff, not_false_eq_true, reduceCtorEq, wi_t hx1, wi_t hx2, wi_t hx3, wi_f hx4, if_neg pu_n10, if_neg pu_n20, if_pos pu_n01, q20, q21, q22, q23, i20, i21, i22, i23, n20, n21, n22, n23]
          · simp only [K_would, k_would, mrow_hit, mrow_miss, ne_eq, Nat.reduceEqDiff, not_false_eq_true, reduceCtorEq, wi_t hx1, wi_t hx2, wi_t hx3, wi_f hx4, if_neg pu_n10, if_neg pu_n20, if_pos pu_n01, q20, q21, q22, q23, i20, i21, i22, i23, n20, n21, n22, n23]
          · simp only [K_would, mrow_hit, mrow_miss, ne_eq, Nat.reduceEqDiff, not_false_eq_true, reduceCtorEq]
          · intro c hc
            simp only [K_would]
            rw [mrow_miss _ _ (scr_ne hc rfl), mrow_miss _ _ (scr_ne hc rfl), mrow_miss _ _ (scr_ne hc rfl), mrow_miss _ _ (scr_ne hc rfl), mrow_miss _ _ (scr_ne hc rfl)]
      · refine ⟨by simp only [EO_would, e_would_ok, if_pos hx1, if_pos hx2, if_neg hx3], ?_⟩
        refine Ag.bad1 h (by decide) _ (by simp only [e_would, if_pos hx1, if_pos hx2, if_neg hx3]) ?_ ?_ ?_ ?_ ?_
        · simp only [KO_would, k_would_ok, mrow_hit, mrow_miss, ne_eq, Nat.reduceEqDiff, not_false_eq_true, reduceCtorEq, wi_t hx1, wi_t hx2, wi_f hx3, if_neg pu_n10, if_neg pu_n20, if_pos pu_n01, q20, q21, q22, q23, i20, i21, i22, i23, n20, n21, n22, n23, z1, z2, z3, z4, c1, c2, c3, c4, take_ok, and_self, true_and, and_true]
        · simp only [K_would, k_would, mrow_hit, mrow_miss, ne_eq, Nat.reduceEqDiff, not_false_eq_true, reduceCtorEq, wi_t hx1, wi_t hx2, wi_f hx3, if_neg pu_n10, if_neg pu_n20, if_pos pu_n01, q20, q21, q22, q23, i20, i21, i22, i23, n20, n21, n22, n23]
        · simp only [K_would, k_would, mrow_hit, mrow_miss, ne_eq, Nat.reduceEqDiff, not_false_eq_true, reduceCtorEq, wi_t hx1, wi_t hx2, wi_f hx3, if_neg pu_n10, if_neg pu_n20, if_pos pu_n01, q20, q21, q22, q23, i20, i21, i22, i23, n20, n21, n22, n23]
        · simp only [K_would, mrow_hit, mrow_miss, ne_eq, Nat.reduceEqDiff, not_false_eq_true, reduceCtorEq]
        · intro c hc
          simp only [K_would]
          rw [mrow_miss _ _ (scr_ne hc rfl), mrow_miss _ _ (scr_ne hc rfl), mrow_miss _ _ (scr_ne hc rfl), mrow_miss _ _ (scr_ne hc rfl), mrow_miss _ _ (scr_ne hc rfl)]
    · refine ⟨by simp only [EO_would, e_would_ok, if_pos hx1, if_neg hx2], ?_⟩
      refine Ag.bad1 h (by decide) _ (by simp only [e_would, if_pos hx1, if_neg hx2]) ?_ ?_ ?_ ?_ ?_
      · simp only [KO_would, k_would_ok, mrow_hit, mrow_miss, ne_eq, Nat.reduceEqDiff, not_false_eq_true, reduceCtorEq, wi_t hx1, wi_f hx2, if_neg pu_n10, if_neg pu_n20, if_pos pu_n01, q20, q21, q22, q23, i20, i21, i22, i23, n20, n21, n22, n23, z1, z2, z3, z4, c1, c2, c3, c4, take_ok, and_self, true_and, and_true]
      · simp only [K_would, k_would, mrow_hit, mrow_miss, ne_eq, Nat.reduceEqDiff, not_false_eq_true, reduceCtorEq, wi_t hx1, wi_f hx2, if_neg pu_n10, if_neg pu_n20, if_pos pu_n01, q20, q21, q22, q23, i20, i21, i22, i23, n20, n21, n22, n23]
      · simp only [K_would, k_would, mrow_hit, mrow_miss, ne_eq, Nat.reduceEqDiff, not_false_eq_true, reduceCtorEq, wi_t hx1, wi_f hx2, if_neg pu_n10, if_neg pu_n20, if_pos pu_n01, q20, q21, q22, q23, i20, i21, i22, i23, n20, n21, n22, n23]
      · simp only [K_would, mrow_hit, mrow_miss, ne_eq, Nat.reduceEqDiff, not_false_eq_true, reduceCtorEq]
      · intro c hc
        simp only [K_would]
        rw [mrow_miss _ _ (scr_ne hc rfl), mrow_miss _ _ (scr_ne hc rfl), mrow_miss _ _ (scr_ne hc rfl), mrow_miss _ _ (scr_ne hc rfl), mrow_miss _ _ (scr_ne hc rfl)]
  · refine ⟨by simp only [EO_would, e_would_ok, if_neg hx1], ?_⟩
    refine Ag.bad1 h (by decide) _ (by simp only [e_would, if_neg hx1]) ?_ ?_ ?_ ?_ ?_
    · simp only [KO_would, k_would_ok, mrow_hit, mrow_miss, ne_eq, Nat.reduceEqDiff, not_false_eq_true, reduceCtorEq, wi_f hx1, if_neg pu_n10, if_neg pu_n20, if_pos pu_n01, q20, q21, q22, q23, i20, i21, i22, i23, n20, n21, n22, n23, z1, z2, z3, z4, c1, c2, c3, c4, take_ok, and_self, true_and, and_true]
    · simp only [K_would, k_would, mrow_hit, mrow_miss, ne_eq, Nat.reduceEqDiff, not_false_eq_true, reduceCtorEq, wi_f hx1, if_neg pu_n10, if_neg pu_n20, if_pos pu_n01, q20, q21, q22, q23, i20, i21, i22, i23, n20, n21, n22, n23]
    · simp only [K_would, k_would, mrow_hit, mrow_miss, ne_eq, Nat.reduceEqDiff, not_false_eq_true, reduceCtorEq, wi_f hx1, if_neg pu_n10, if_neg pu_n20, if_pos pu_n01, q20, q21, q22, q23, i20, i21, i22, i23, n20, n21, n22, n23]
    · simp only [K_would, mrow_hit, mrow_miss, ne_eq, Nat.reduceEqDiff, not_false_eq_true, reduceCtorEq]
    · intro c hc
      simp only [K_would]
      rw [mrow_miss _ _ (scr_ne hc rfl), mrow_miss _ _ (scr_ne hc rfl), mrow_miss _ _ (scr_ne hc rfl), mrow_miss _ _ (scr_ne hc rfl), mrow_miss _ _ (scr_ne hc rfl)]
