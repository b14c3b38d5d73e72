/-! a call -/
theorem op_greatest {np nr nt nf : Nat} {M : Mem} (h : IV np nr nt nf M) (x1 : Int32) : EO_greatest M nt x1 ∧ Ag 1 0 (e_greatest M nt x1) (fun N => KO_greatest N x1) (fun N => K_greatest N x1) := by
  obtain ⟨⟨z1, z2, z3, z4⟩, ⟨s1, s2, s3, s4⟩, ⟨c1, c2, c3, c4⟩, ⟨t1, t2, t3⟩, hL, hDd, hH, hI, hTP, ⟨b1, b2, b3, b4, b5⟩, hBK⟩ := id h
  obtain ⟨hD, -⟩ := id hDd
  have hd := DR_take (s := M.1 72) hD z3 z4
  have q20 : upd (M.1 54) 0 (nI 0) 20 = nI np := by rw [pk_un (by decide)]; exact c1
  have q21 : upd (M.1 54) 0 (nI 0) 21 = nI nr := by rw [pk_un (by decide)]; exact c2
  have q22 : upd (M.1 54) 0 (nI 0) 22 = nI nt := by rw [pk_un (by decide)]; exact c3
  have q23 : upd (M.1 54) 0 (nI 0) 23 = nI nf := by rw [pk_un (by decide)]; exact c4
  have i20 : ix (nI np) = np := pu_ix (by omega)
  have i21 : ix (nI nr) = nr := pu_ix (by omega)
  have i22 : ix (nI nt) = nt := pu_ix (by omega)
  have i23 : ix (nI nf) = nf := pu_ix (by omega)
  have n20 : isN (nI np) := pu_isN (by omega)
  have n21 : isN (nI nr) := pu_isN (by omega)
  have n22 : isN (nI nt) := pu_isN (by omega)
  have n23 : isN (nI nf) := pu_isN (by omega)
  have hz : SZ np nr nt nf := ⟨z1, z2, z3, z4⟩
  by_cases hx1 : ¬ x1 < nI 0 ∧ x1 ≤ nI 1
  · skip
    obtain ⟨k, hk, rfl⟩ := pu_le2 (n := 1) (by omega) (by rw [← nI_0]; exact hx1.1) hx1.2
    have hk9 : k = 0 ∨ k = 1 := by omega
    have n01 : ∀ {a b : Nat}, a < 100 → b < 100 → (nI a = nI b) = (a = b) := fun ha hb => propext (pu_eqi (by omega) (by omega))
    have n02 : ∀ {a b : Nat}, a < 100 → b < 100 → (nI a ≤ nI b) = (a ≤ b) := fun ha hb => propext (pu_lei (by omega) (by omega))
    have n03 : ∀ {a : Nat}, a < 100 → (nI a = 0) = (a = 0) := fun ha => propext (by rw [← nI_0]; exact pu_eqi (by omega) (by omega))
    obtain ⟨g1, g2, g3⟩ := gr_eq t1 (fun t ht => hD.2.2.2.1 t ht) z3 (nI k) nt (Nat.le_refl _)
    have hD4 : d_greatestLying_4 (M.1 7) (M.1 38) nt = d_greatestLying (M.1 7) (M.1 38) nt := rfl
    rw [hD4] at g1 g2
    have hko : KO_greatest M (nI k) := by
      simp only [KO_greatest, k_greatest_ok, mrow_hit, mrow_miss, ne_eq, Nat.reduceEqDiff, not_false_eq_true, reduceCtorEq, wi_t hx1, may1_t (t0 _), if_neg pu_n10, q20, q21, q22, q23, i20, i21, i22, i23, n20, n21, n22, n23, z1, z2, z3, z4, c1, c2, c3, c4, take_ok, true_and]
      refine ⟨fun i hi => (g3 i hi).2, ?_⟩
      rw [g1]
      split
      · trivial
      · rcases g2 with e | ⟨t, ht, e⟩
        · rw [if_pos e]; trivial
        · rw [e, if_neg (pu_nm (by omega)), pu_ix (by omega)]
          exact ⟨pu_isN (by omega), by omega, trivial⟩
    refine ⟨⟨z3, s3, ?_⟩, ?_⟩
    · simp only [e_greatest_ok, if_pos hx1, d_greatestLying_ok]
      refine ⟨⟨fun i hi => (g3 i hi).1, trivial⟩, ?_⟩
      split
      · trivial
      · rcases g2 with e | ⟨t, ht, e⟩
        · rw [if_pos e]; trivial
        · rw [e, if_neg (pu_nm (by omega)), pu_ix (by omega)]
          exact ⟨pu_isN (by omega), by omega, trivial⟩
    have key : ∀ (v : Int32), e_greatest M nt (nI k) = .inl (some (.int v), M) → KO_greatest (M) (nI k) → (K_greatest (M) (nI k)).1 = v → Ag 1 0 (e_greatest M nt (nI k)) (fun N => KO_greatest N (nI k)) (fun N => K_greatest N (nI k)) := by
      intro v e1 e0 e2
      refine Ag.good h _ (M) v e1 e0 e2 ?_ ?_ ?_ ?_
      · simp only [K_greatest, k_greatest, mrow_hit, mrow_miss, ne_eq, Nat.reduceEqDiff, not_false_eq_true, reduceCtorEq, wi_t hx1, may1_t (t0 _), if_neg pu_n10, if_neg pu_n20, q20, q21, q22, q23, i20, i21, i22, i23, n20, n21, n22, n23]
        repeat' split
        all_goals rfl
      · simp only [K_greatest, k_greatest, mrow_hit, mrow_miss, ne_eq, Nat.reduceEqDiff, not_false_eq_true, reduceCtorEq, wi_t hx1, may1_t (t0 _), if_neg pu_n10, if_neg pu_n20, q20, q21, q22, q23, i20, i21, i22, i23, n20, n21, n22, n23]
        repeat' split
        all_goals rfl
      · simp only [K_greatest, mrow_hit, mrow_miss, ne_eq, Nat.reduceEqDiff, not_false_eq_true, reduceCtorEq]
      · intro c hc
        simp only [K_greatest]
        rw [mrow_miss _ _ (scr_ne hc rfl), mrow_miss _ _ (scr_ne hc rfl)]
    rcases hk9 with rfl | rfl
    · exact key _ (by simp only [e_greatest, if_pos hx1, if_pos pu_n01]; rfl) hko (by simp only [K_greatest, k_greatest, mrow_hit, mrow_miss, ne_eq, Nat.reduceEqDiff, not_false_eq_true, reduceCtorEq, wi_t hx1, may1_t (t0 _), if_neg pu_n10, q20, q21, q22, q23, i20, i21, i22, i23, n20, n21, n22, n23, if_pos pu_n01]; exact g1)
    · rcases g2 with e | ⟨t, ht, e⟩
      · exact key _ (by simp only [e_greatest, if_pos hx1, if_neg pu_n10, if_pos e]; rfl) hko (by simp only [K_greatest, k_greatest, mrow_hit, mrow_miss, ne_eq, Nat.reduceEqDiff, not_false_eq_true, reduceCtorEq, wi_t hx1, may1_t (t0 _), if_neg pu_n10, q20, q21, q22, q23, i20, i21, i22, i23, n20, n21, n22, n23, g1, if_pos e])
      · have en : ¬ d_greatestLying (M.1 7) (M.1 38) nt = -1 := by rw [e]; exact pu_nm (by omega)
        exact key _ (by simp only [e_greatest, if_pos hx1, if_neg pu_n10, e, if_neg (show ¬ nI t = -1 from pu_nm (by omega)), pu_ix (show t < 2147483648 by omega)]; rfl) hko (by simp only [K_greatest, k_greatest, mrow_hit, mrow_miss, ne_eq, Nat.reduceEqDiff, not_false_eq_true, reduceCtorEq, wi_t hx1, may1_t (t0 _), if_neg pu_n10, q20, q21, q22, q23, i20, i21, i22, i23, n20, n21, n22, n23, g1, e, if_neg (show ¬ nI t = -1 from pu_nm (by omega)), pu_ix (show t < 2147483648 by omega)]; exact (t1 t ht).1)
  · refine ⟨⟨z3, s3, by simp only [e_greatest_ok, if_neg hx1]⟩, ?_⟩
    refine Ag.bad1 h (by decide) _ (by simp only [e_greatest, if_neg hx1]) ?_ ?_ ?_ ?_ ?_
    · simp only [KO_greatest, k_greatest_ok, mrow_hit, mrow_miss, ne_eq, Nat.reduceEqDiff, not_false_eq_true, reduceCtorEq, wi_f hx1, may1_f (t0 _) pu_n10, if_neg pu_n10, if_neg pu_n20, if_pos pu_n01, q20, q21, q22, q23, i20, i21, i22, i23, n20, n21, n22, n23, z1, z2, z3, z4, c1, c2, c3, c4, take_ok, and_self, true_and, and_true]
    · simp only [K_greatest, k_greatest, mrow_hit, mrow_miss, ne_eq, Nat.reduceEqDiff, not_false_eq_true, reduceCtorEq, wi_f hx1, may1_f (t0 _) pu_n10, if_neg pu_n10, if_neg pu_n20, if_pos pu_n01, q20, q21, q22, q23, i20, i21, i22, i23, n20, n21, n22, n23]
    · simp only [K_greatest, k_greatest, mrow_hit, mrow_miss, ne_eq, Nat.reduceEqDiff, not_false_eq_true, reduceCtorEq, wi_f hx1, may1_f (t0 _) pu_n10, if_neg pu_n10, if_neg pu_n20, if_pos pu_n01, q20, q21, q22, q23, i20, i21, i22, i23, n20, n21, n22, n23]
    · simp only [K_greatest, mrow_hit, mrow_miss, ne_eq, Nat.reduceEqDiff, not_false_eq_true, reduceCtorEq]
    · intro c hc
      simp only [K_greatest]
      rw [mrow_miss _ _ (scr_ne hc rfl), mrow_miss _ _ (scr_ne hc rfl), mrow_miss _ _ (scr_ne hc rfl)]
