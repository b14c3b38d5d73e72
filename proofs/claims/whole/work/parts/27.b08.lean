/-! a call -/
theorem op_ahead {np nr nt nf : Nat} {M : Mem} (h : IV np nr nt nf M) (x1 x2 : Int32) : EO_ahead M nt nf x1 x2 ∧ Ag 1 0 (e_ahead M nt nf x1 x2) (fun N => KO_ahead N nt nf x1 x2) (fun N => K_ahead N nt nf x1 x2) := by
  obtain ⟨⟨z1, z2, z3, z4⟩, ⟨s1, s2, s3, s4⟩, ⟨c1, c2, c3, c4⟩, ⟨t1, t2, t3⟩, hL, hDd, hH, hI, hTP, ⟨b1, b2, b3, b4, b5⟩, hBK⟩ := id h
  obtain ⟨hD, -⟩ := id hDd
  have hd := DR_take (s := M.1 72) hD z3 z4
  have q20 : upd (M.1 54) 0 (nI 0) 20 = nI np := by rw [pk_un (by decide)]; exact c1
  have q21 : upd (M.1 54) 0 (nI 0) 21 = nI nr := by rw [pk_un (by decide)]; exact c2
  have q22 : upd (M.1 54) 0 (nI 0) 22 = nI nt := by rw [pk_un (by decide)]; exact c3
  have q23 : upd (M.1 54) 0 (nI 0) 23 = nI nf := by rw [pk_un (by decide)]; exact c4
  have i20 : ix (nI np) = np := pu_ix (by omega)
  have i21 : ix (nI nr) = nr := pu_ix (by omega)
  have i22 : ix (nI nt) = nt := pu_ix (by omega)
  have i23 : ix (nI nf) = nf := pu_ix (by omega)
  have n20 : isN (nI np) := pu_isN (by omega)
  have n21 : isN (nI nr) := pu_isN (by omega)
  have n22 : isN (nI nt) := pu_isN (by omega)
  have n23 : isN (nI nf) := pu_isN (by omega)
  have hz : SZ np nr nt nf := ⟨z1, z2, z3, z4⟩
  by_cases hx1 : ¬ x1 < nI 0 ∧ x1 ≤ nI 99
  · skip
    by_cases hx2 : ¬ x2 < nI 0 ∧ x2 ≤ nI 2
    · skip
      obtain ⟨n, hn, rfl⟩ := pu_le2 (n := 99) (by omega) (by rw [← nI_0]; exact hx1.1) hx1.2
      obtain ⟨k, hk, rfl⟩ := pu_le2 (n := 2) (by omega) (by rw [← nI_0]; exact hx2.1) hx2.2
      have hk9 : k = 0 ∨ k = 1 ∨ k = 2 := by omega
      have n01 : ∀ {a b : Nat}, a < 100 → b < 100 → (nI a = nI b) = (a = b) := fun ha hb => propext (pu_eqi (by omega) (by omega))
      have n02 : ∀ {a b : Nat}, a < 100 → b < 100 → (nI a ≤ nI b) = (a ≤ b) := fun ha hb => propext (pu_lei (by omega) (by omega))
      have n03 : ∀ {a : Nat}, a < 100 → (nI a = 0) = (a = 0) := fun ha => propext (by rw [← nI_0]; exact pu_eqi (by omega) (by omega))
      have hd2 : DR np nt nf (d_take (M.1 38) (M.1 41)).2 (k_take (M.1 71) (M.1 72)).2 := DR_cg hD z3 z4 (fun j hj => (pk_cpy_in (f := M.1 38) (g := M.1 41) (sp := 0) (dp := 0) (n := 51) (j := j) (by omega) (by omega)).trans (by rw [Nat.zero_add, Nat.sub_zero])) (fun j hj => take_at _ _ hj)
      obtain ⟨a1, a2, a3⟩ := ah_lp t1 hz hn (nI k) FU FU 0 (d_take (M.1 38) (M.1 41)).2 (k_take (M.1 71) (M.1 72)).2 (by rw [FU_eq]; omega) (by rw [FU_eq]; omega) (by omega) hd2
      refine ⟨⟨z3, s3, z4, s4, by simp only [e_ahead_ok, if_pos hx1, if_pos hx2, a1, and_self]⟩, ?_⟩
      rcases y1 : e_ahead_28 (M.1 7) nt nf (nI n) (nI k) FU (nI 0) (d_take (M.1 38) (M.1 41)).2 with ⟨w1, r1⟩
      rcases y2 : k_ahead_46 (M.1 61) nt nf (nI n) (nI k) FU (nI 0) (k_take (M.1 71) (M.1 72)).2 with ⟨w2, r2⟩
      rw [y1, y2] at a3
      simp only at a3
      have hko : KO_ahead (mrow M 41 r1) nt nf (nI n) (nI k) := by
        simp only [KO_ahead, k_ahead_ok, mrow_hit, mrow_miss, ne_eq, Nat.reduceEqDiff, not_false_eq_true, reduceCtorEq, wi_t hx1, wi_t hx2, if_neg pu_n10, z1, z2, z3, z4, c1, c2, c3, c4, take_ok, a2, true_and, and_true, and_self]
      have key : ∀ (v : Int32), e_ahead M nt nf (nI n) (nI k) = .inl (some (.int v), mrow M 41 r1) → (K_ahead (mrow M 41 r1) nt nf (nI n) (nI k)).1 = v → Ag 1 0 (e_ahead M nt nf (nI n) (nI k)) (fun N => KO_ahead N nt nf (nI n) (nI k)) (fun N => K_ahead N nt nf (nI n) (nI k)) := by
        intro v e1 e2
        refine Ag.good h _ (mrow M 41 r1) v e1 hko e2 ?_ ?_ ?_ ?_
        · simp only [K_ahead, k_ahead, mrow_hit, mrow_miss, ne_eq, Nat.reduceEqDiff, not_false_eq_true, reduceCtorEq, wi_t hx1, wi_t hx2, if_neg pu_n10]
          repeat' split
          all_goals rfl
        · simp only [K_ahead, k_ahead, mrow_hit, mrow_miss, ne_eq, Nat.reduceEqDiff, not_false_eq_true, reduceCtorEq, wi_t hx1, wi_t hx2, if_neg pu_n10]
          repeat' split
          all_goals rfl
        · simp only [K_ahead, mrow_hit, mrow_miss, ne_eq, Nat.reduceEqDiff, not_false_eq_true, reduceCtorEq]
        · intro c hc
          simp only [K_ahead]
          rw [mrow_miss _ _ (scr_ne hc rfl), mrow_miss _ _ (scr_ne hc rfl), mrow_miss _ _ (scr_ne hc rfl), mrow_miss _ _ (scr_ne hc rfl)]
      rcases hk9 with rfl | rfl | rfl
      · exact key _ (by simp only [e_ahead, if_pos hx1, if_pos hx2, y1, if_pos pu_n01]; rfl) (by simp only [K_ahead, k_ahead, mrow_hit, mrow_miss, ne_eq, Nat.reduceEqDiff, not_false_eq_true, reduceCtorEq, wi_t hx1, wi_t hx2, if_neg pu_n10, y2, if_pos pu_n01]; exact ah_eq a3)
      · exact key _ (by simp only [e_ahead, if_pos hx1, if_pos hx2, y1, if_neg pu_n10, ↓reduceIte]; rfl) (by simp only [K_ahead, k_ahead, mrow_hit, mrow_miss, ne_eq, Nat.reduceEqDiff, not_false_eq_true, reduceCtorEq, wi_t hx1, wi_t hx2, if_neg pu_n10, y2, ↓reduceIte]; exact sh_eq nf (fun a ha => (a3.2.1 a ha).2.2.2.2))
      · exact key _ (by simp only [e_ahead, if_pos hx1, if_pos hx2, y1, if_neg pu_n20, if_neg (show ¬ nI 2 = nI 1 by decide)]; rfl) (by simp only [K_ahead, k_ahead, mrow_hit, mrow_miss, ne_eq, Nat.reduceEqDiff, not_false_eq_true, reduceCtorEq, wi_t hx1, wi_t hx2, if_neg pu_n10, y2, if_neg pu_n20, if_neg (show ¬ nI 2 = nI 1 by decide)]; exact lw_eq a3 t1)
    · refine ⟨⟨z3, s3, z4, s4, by simp only [e_ahead_ok, if_pos hx1, if_neg hx2]⟩, ?_⟩
      refine Ag.bad1 h (by decide) _ (by simp only [e_ahead, if_pos hx1, if_neg hx2]) ?_ ?_ ?_ ?_ ?_
      · simp only [KO_ahead, k_ahead_ok, mrow_hit, mrow_miss, ne_eq, Nat.reduceEqDiff, not_false_eq_true, reduceCtorEq, wi_t hx1, wi_f hx2, if_neg pu_n10, if_neg pu_n20, if_pos pu_n01, q20, q21, q22, q23, i20, i21, i22, i23, n20, n21, n22, n23, z1, z2, z3, z4, c1, c2, c3, c4, take_ok, and_self, true_and, and_true]
      · simp only [K_ahead, k_ahead, mrow_hit, mrow_miss, ne_eq, Nat.reduceEqDiff, not_false_eq_true, reduceCtorEq, wi_t hx1, wi_f hx2, if_neg pu_n10, if_neg pu_n20, if_pos pu_n01, q20, q21, q22, q23, i20, i21, i22, i23, n20, n21, n22, n23]
      · simp only [K_ahead, k_ahead, mrow_hit, mrow_miss, ne_eq, Nat.reduceEqDiff, not_false_eq_true, reduceCtorEq, wi_t hx1, wi_f hx2, if_neg pu_n10, if_neg pu_n20, if_pos pu_n01, q20, q21, q22, q23, i20, i21, i22, i23, n20, n21, n22, n23]
      · simp only [K_ahead, mrow_hit, mrow_miss, ne_eq, Nat.reduceEqDiff, not_false_eq_true, reduceCtorEq]
      · intro c hc
        simp only [K_ahead]
        rw [mrow_miss _ _ (scr_ne hc rfl), mrow_miss _ _ (scr_ne hc rfl), mrow_miss _ _ (scr_ne hc rfl), mrow_miss _ _ (scr_ne hc rfl)]
  · refine ⟨⟨z3, s3, z4, s4, by simp only [e_ahead_ok, if_neg hx1]⟩, ?_⟩
    refine Ag.bad1 h (by decide) _ (by simp only [e_ahead, if_neg hx1]) ?_ ?_ ?_ ?_ ?_
    · simp only [KO_ahead, k_ahead_ok, mrow_hit, mrow_miss, ne_eq, Nat.reduceEqDiff, not_false_eq_true, reduceCtorEq, wi_f hx1, if_neg pu_n10, if_neg pu_n20, if_pos pu_n01, q20, q21, q22, q23, i20, i21, i22, i23, n20, n21, n22, n23, z1, z2, z3, z4, c1, c2, c3, c4, take_ok, and_self, true_and, and_true]
    · simp only [K_ahead, k_ahead, mrow_hit, mrow_miss, ne_eq, Nat.reduceEqDiff, not_false_eq_true, reduceCtorEq, wi_f hx1, if_neg pu_n10, if_neg pu_n20, if_pos pu_n01, q20, q21, q22, q23, i20, i21, i22, i23, n20, n21, n22, n23]
    · simp only [K_ahead, k_ahead, mrow_hit, mrow_miss, ne_eq, Nat.reduceEqDiff, not_false_eq_true, reduceCtorEq, wi_f hx1, if_neg pu_n10, if_neg pu_n20, if_pos pu_n01, q20, q21, q22, q23, i20, i21, i22, i23, n20, n21, n22, n23]
    · simp only [K_ahead, mrow_hit, mrow_miss, ne_eq, Nat.reduceEqDiff, not_false_eq_true, reduceCtorEq]
    · intro c hc
      simp only [K_ahead]
      rw [mrow_miss _ _ (scr_ne hc rfl), mrow_miss _ _ (scr_ne hc rfl), mrow_miss _ _ (scr_ne hc rfl), mrow_miss _ _ (scr_ne hc rfl)]
