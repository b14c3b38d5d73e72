/-! a call -/
theorem op_pins {np nr nt nf : Nat} {M : Mem} (h : IV np nr nt nf M) (x1 x2 x3 x4 : Int32) : EO_pins M x1 x2 x3 x4 ∧ AgL 1 (e_pins M x1 x2 x3 x4) (fun N => KO_pins N x1 x2 x3 x4) (fun N => K_pins N x1 x2 x3 x4) := by
  obtain ⟨⟨z1, z2, z3, z4⟩, ⟨s1, s2, s3, s4⟩, ⟨c1, c2, c3, c4⟩, ⟨t1, t2, t3⟩, hL, hDd, hH, hI, hTP, ⟨b1, b2, b3, b4, b5⟩, hBK⟩ := id h
  obtain ⟨hD, -⟩ := id hDd
  have hd := DR_take (s := M.1 72) hD z3 z4
  have q20 : upd (M.1 54) 0 (nI 0) 20 = nI np := by rw [pk_un (by decide)]; exact c1
  have q21 : upd (M.1 54) 0 (nI 0) 21 = nI nr := by rw [pk_un (by decide)]; exact c2
  have q22 : upd (M.1 54) 0 (nI 0) 22 = nI nt := by rw [pk_un (by decide)]; exact c3
  have q23 : upd (M.1 54) 0 (nI 0) 23 = nI nf := by rw [pk_un (by decide)]; exact c4
  have i20 : ix (nI np) = np := pu_ix (by omega)
  have i21 : ix (nI nr) = nr := pu_ix (by omega)
  have i22 : ix (nI nt) = nt := pu_ix (by omega)
  have i23 : ix (nI nf) = nf := pu_ix (by omega)
  have n20 : isN (nI np) := pu_isN (by omega)
  have n21 : isN (nI nr) := pu_isN (by omega)
  have n22 : isN (nI nt) := pu_isN (by omega)
  have n23 : isN (nI nf) := pu_isN (by omega)
  have hz : SZ np nr nt nf := ⟨z1, z2, z3, z4⟩
  by_cases hx1 : ¬ x1 < nI 0 ∧ x1 ≤ nI 20
  · skip
    by_cases hx2 : ¬ x2 < nI 0 ∧ x2 ≤ x1
    · skip
      by_cases hx3 : ¬ x3 < nI 0 ∧ x3 ≤ x1
      · skip
        by_cases hx4 : ¬ x4 < nI 0 ∧ x4 ≤ nI 1
        · skip
          obtain ⟨n, hn, rfl⟩ := pu_le2 (n := 20) (by omega) (by rw [← nI_0]; exact hx1.1) hx1.2
          obtain ⟨m, hm, rfl⟩ := pu_le2 (n := n) (by omega) (by rw [← nI_0]; exact hx2.1) hx2.2
          obtain ⟨k, hk, rfl⟩ := pu_le2 (n := n) (by omega) (by rw [← nI_0]; exact hx3.1) hx3.2
          obtain ⟨p, hp, rfl⟩ := pu_le2 (n := 1) (by omega) (by rw [← nI_0]; exact hx4.1) hx4.2
          obtain ⟨g1, ⟨g2, g3, g4⟩, g5⟩ := pn_eq (p := p) hn hm hk
          refine ⟨by simp only [EO_pins, e_pins_ok, ↓if_pos hx1, ↓if_pos hx2, ↓if_pos hx3, ↓if_pos hx4, g1, and_self], ?_⟩
          refine Or.inl ⟨_, M, by simp only [e_pins, ↓if_pos hx1, ↓if_pos hx2, ↓if_pos hx3, ↓if_pos hx4, g5]; rfl, ?_, ?_, ?_, np, nr, nt, nf, h.good ?_ ?_ ?_ ?_⟩
          · simp only [KO_pins, k_pins_ok, wi_t hx1, wi_t hx2, wi_t hx3, wi_t hx4, if_neg pu_n10, g2, g3, g4, and_self]
          · simp only [K_pins, k_pins, wi_t hx1, wi_t hx2, wi_t hx3, wi_t hx4, if_neg pu_n10]; exact g5
          · simp only [K_pins, k_pins, mrow_hit, mrow_miss, ne_eq, Nat.reduceEqDiff, not_false_eq_true, reduceCtorEq, wi_t hx1, wi_t hx2, wi_t hx3, wi_t hx4, if_neg pu_n10, pk_us]
          · intro c hc
            simp only [K_pins]
            rw [mrow_miss _ _ (scr_ne hc rfl), mrow_miss _ _ (scr_ne hc rfl)]
          · simp only [K_pins, k_pins, mrow_hit, mrow_miss, ne_eq, Nat.reduceEqDiff, not_false_eq_true, reduceCtorEq, wi_t hx1, wi_t hx2, wi_t hx3, wi_t hx4, if_neg pu_n10]
          · simp only [K_pins, k_pins, mrow_hit, mrow_miss, ne_eq, Nat.reduceEqDiff, not_false_eq_true, reduceCtorEq, wi_t hx1, wi_t hx2, wi_t hx3, wi_t hx4, if_neg pu_n10]
          · simp only [K_pins, mrow_hit, mrow_miss, ne_eq, Nat.reduceEqDiff, not_false_eq_true, reduceCtorEq]
        · refine ⟨by simp only [EO_pins, e_pins_ok, if_pos hx1, if_pos hx2, if_pos hx3, if_neg hx4], ?_⟩
          refine AgL.bad1 h (by decide) _ (by simp only [e_pins, if_pos hx1, if_pos hx2, if_pos hx3, if_neg hx4]) ?_ ?_ ?_ ?_ ?_
          · simp only [KO_pins, k_pins_ok, mrow_hit, mrow_miss, ne_eq, Nat.reduceEqDiff, not_false_eq_true, reduceCtorEq, wi_t hx1, wi_t hx2, wi_t hx3, wi_f hx4, if_neg pu_n10, if_neg pu_n20, if_pos pu_n01, q20, q21, q22, q23, i20, i21, i22, i23, n20, n21, n22, n23, z1, z2, z3, z4, c1, c2, c3, c4, take_ok, and_self, true_and, and_true]
          · simp only [K_pins, k_pins, mrow_hit, mrow_miss, ne_eq, Nat.reduceEqDiff, not_false_eq_true, reduceCtorEq, wi_t hx1, wi_t hx2, wi_t hx3, wi_f hx4, if_neg pu_n10, if_neg pu_n20, if_pos pu_n01, q20, q21, q22, q23, i20, i21, i22, i23, n20, n21, n22, n23]
          · simp only [K_pins, k_pins, mrow_hit, mrow_miss, ne_eq, Nat.reduceEqDiff, not_false_eq_true, reduceCtorEq, wi_t hx1, wi_t hx2, wi_t hx3, wi_f hx4, if_neg pu_n10, if_neg pu_n20, if_pos pu_n01, q20, q21, q22, q23, i20, i21, i22, i23, n20, n21, n22, n23]
          · simp only [K_pins, mrow_hit, mrow_miss, ne_eq, Nat.reduceEqDiff, not_false_eq_true, reduceCtorEq]
          · intro c hc
            simp only [K_pins]
            rw [mrow_miss _ _ (scr_ne hc rfl), mrow_miss _ _ (scr_ne hc rfl), mrow_miss _ _ (scr_ne hc rfl)]
      · refine ⟨by simp only [EO_pins, e_pins_ok, if_pos hx1, if_pos hx2, if_neg hx3], ?_⟩
        refine AgL.bad1 h (by decide) _ (by simp only [e_pins, if_pos hx1, if_pos hx2, if_neg hx3]) ?_ ?_ ?_ ?_ ?_
        · simp only [KO_pins, k_pins_ok, mrow_hit, mrow_miss, ne_eq, Nat.reduceEqDiff, not_false_eq_true, reduceCtorEq, wi_t hx1, wi_t hx2, wi_f hx3, if_neg pu_n10, if_neg pu_n20, if_pos pu_n01, q20, q21, q22, q23, i20, i21, i22, i23, n20, n21, n22, n23, z1, z2, z3, z4, c1, c2, c3, c4, take_ok, and_self, true_and, and_true]
        · simp only [K_pins, k_pins, mrow_hit, mrow_miss, ne_eq, Nat.reduceEqDiff, not_false_eq_true, reduceCtorEq, wi_t hx1, wi_t hx2, wi_f hx3, if_neg pu_n10, if_neg pu_n20, if_pos pu_n01, q20, q21, q22, q23, i20, i21, i22, i23, n20, n21, n22, n23]
        · simp only [K_pins, k_pins, mrow_hit, mrow_miss, ne_eq, Nat.reduceEqDiff, not_false_eq_true, reduceCtorEq, wi_t hx1, wi_t hx2, wi_f hx3, if_neg pu_n10, if_neg pu_n20, if_pos pu_n01, q20, q21, q22, q23, i20, i21, i22, i23, n20, n21, n22, n23]
        · simp only [K_pins, mrow_hit, mrow_miss, ne_eq, Nat.reduceEqDiff, not_false_eq_true, reduceCtorEq]
        · intro c hc
          simp only [K_pins]
          rw [mrow_miss _ _ (scr_ne hc rfl), mrow_miss _ _ (scr_ne hc rfl), mrow_miss _ _ (scr_ne hc rfl)]
    · refine ⟨by simp only [EO_pins, e_pins_ok, if_pos hx1, if_neg hx2], ?_⟩
      refine AgL.bad1 h (by decide) _ (by simp only [e_pins, if_pos hx1, if_neg hx2]) ?_ ?_ ?_ ?_ ?_
      · simp only [KO_pins, k_pins_ok, mrow_hit, mrow_miss, ne_eq, Nat.reduceEqDiff, not_false_eq_true, reduceCtorEq, wi_t hx1, wi_f hx2, if_neg pu_n10, if_neg pu_n20, if_pos pu_n01, q20, q21, q22, q23, i20, i21, i22, i23, n20, n21, n22, n23, z1, z2, z3, z4, c1, c2, c3, c4, take_ok, and_self, true_and, and_true]
      · simp only [K_pins, k_pins, mrow_hit, mrow_miss, ne_eq, Nat.reduceEqDiff, not_false_eq_true, reduceCtorEq, wi_t hx1, wi_f hx2, if_neg pu_n10, if_neg pu_n20, if_pos pu_n01, q20, q21, q22, q23, i20, i21, i22, i23, n20, n21, n22, n23]
      · simp only [K_pins, k_pins, mrow_hit, mrow_miss, ne_eq, Nat.reduceEqDiff, not_false_eq_true, reduceCtorEq, wi_t hx1, wi_f hx2, if_neg pu_n10, if_neg pu_n20, if_pos pu_n01, q20, q21, q22, q23, i20, i21, i22, i23, n20, n21, n22, n23]
      · simp only [K_pins, mrow_hit, mrow_miss, ne_eq, Nat.reduceEqDiff, not_false_eq_true, reduceCtorEq]
      · intro c hc
        simp only [K_pins]
        rw [mrow_miss _ _ (scr_ne hc rfl), mrow_miss _ _ (scr_ne hc rfl), mrow_miss _ _ (scr_ne hc rfl)]
  · refine ⟨by simp only [EO_pins, e_pins_ok, if_neg hx1], ?_⟩
    refine AgL.bad1 h (by decide) _ (by simp only [e_pins, if_neg hx1]) ?_ ?_ ?_ ?_ ?_
    · simp only [KO_pins, k_pins_ok, mrow_hit, mrow_miss, ne_eq, Nat.reduceEqDiff, not_false_eq_true, reduceCtorEq, wi_f hx1, if_neg pu_n10, if_neg pu_n20, if_pos pu_n01, q20, q21, q22, q23, i20, i21, i22, i23, n20, n21, n22, n23, z1, z2, z3, z4, c1, c2, c3, c4, take_ok, and_self, true_and, and_true]
    · simp only [K_pins, k_pins, mrow_hit, mrow_miss, ne_eq, Nat.reduceEqDiff, not_false_eq_true, reduceCtorEq, wi_f hx1, if_neg pu_n10, if_neg pu_n20, if_pos pu_n01, q20, q21, q22, q23, i20, i21, i22, i23, n20, n21, n22, n23]
    · simp only [K_pins, k_pins, mrow_hit, mrow_miss, ne_eq, Nat.reduceEqDiff, not_false_eq_true, reduceCtorEq, wi_f hx1, if_neg pu_n10, if_neg pu_n20, if_pos pu_n01, q20, q21, q22, q23, i20, i21, i22, i23, n20, n21, n22, n23]
    · simp only [K_pins, mrow_hit, mrow_miss, ne_eq, Nat.reduceEqDiff, not_false_eq_true, reduceCtorEq]
    · intro c hc
      simp only [K_pins]
      rw [mrow_miss _ _ (scr_ne hc rfl), mrow_miss _ _ (scr_ne hc rfl), mrow_miss _ _ (scr_ne hc rfl)]
