/-! a call -/
theorem op_takes {np nr nt nf : Nat} {M : Mem} (h : IV np nr nt nf M) (x1 x2 x3 : Int32) : EO_takes M x1 x2 x3 ∧ Ag 1 0 (e_takes M x1 x2 x3) (fun N => KO_takes N x1 x2 x3) (fun N => K_takes N x1 x2 x3) := by
  obtain ⟨⟨z1, z2, z3, z4⟩, ⟨s1, s2, s3, s4⟩, ⟨c1, c2, c3, c4⟩, ⟨t1, t2, t3⟩, hL, hDd, hH, hI, hTP, ⟨b1, b2, b3, b4, b5⟩, hBK⟩ := id h
  obtain ⟨hD, -⟩ := id hDd
  have hd := DR_take (s := M.1 72) hD z3 z4
  have q20 : upd (M.1 54) 0 (nI 0) 20 = nI np := by rw [pk_un (by decide)]; exact c1
  have q21 : upd (M.1 54) 0 (nI 0) 21 = nI nr := by rw [pk_un (by decide)]; exact c2
  have q22 : upd (M.1 54) 0 (nI 0) 22 = nI nt := by rw [pk_un (by decide)]; exact c3
  have q23 : upd (M.1 54) 0 (nI 0) 23 = nI nf := by rw [pk_un (by decide)]; exact c4
  have i20 : ix (nI np) = np := pu_ix (by omega)
  have i21 : ix (nI nr) = nr := pu_ix (by omega)
  have i22 : ix (nI nt) = nt := pu_ix (by omega)
  have i23 : ix (nI nf) = nf := pu_ix (by omega)
  have n20 : isN (nI np) := pu_isN (by omega)
  have n21 : isN (nI nr) := pu_isN (by omega)
  have n22 : isN (nI nt) := pu_isN (by omega)
  have n23 : isN (nI nf) := pu_isN (by omega)
  have hz : SZ np nr nt nf := ⟨z1, z2, z3, z4⟩
  by_cases hx1 : ¬ x1 < nI 0 ∧ x1 ≤ nI 99
  · skip
    by_cases hx2 : ¬ x2 < nI 0 ∧ x2 ≤ nI 99
    · skip
      by_cases hx3 : ¬ x3 < nI 0 ∧ x3 ≤ nI 2
      · skip
        obtain ⟨k, hk, rfl⟩ := pu_le2 (n := 2) (by omega) (by rw [← nI_0]; exact hx3.1) hx3.2
        have hk9 : k = 0 ∨ k = 1 ∨ k = 2 := by omega
        obtain ⟨g1, g2, g3, g4⟩ := tk_eq x1 x2 (nI k)
        refine ⟨by simp only [EO_takes, e_takes_ok, ↓if_pos hx1, ↓if_pos hx2, ↓if_pos hx3, g1, g2, ite_self, and_self], ?_⟩
        have key : ∀ (v : Int32), e_takes M x1 x2 (nI k) = .inl (some (.int v), M) → KO_takes (M) x1 x2 (nI k) → (K_takes (M) x1 x2 (nI k)).1 = v → Ag 1 0 (e_takes M x1 x2 (nI k)) (fun N => KO_takes N x1 x2 (nI k)) (fun N => K_takes N x1 x2 (nI k)) := by
          intro v e1 e0 e2
          refine Ag.good h _ (M) v e1 e0 e2 ?_ ?_ ?_ ?_
          · simp only [K_takes, k_takes, mrow_hit, mrow_miss, ne_eq, Nat.reduceEqDiff, not_false_eq_true, reduceCtorEq, wi_t hx1, wi_t hx2, wi_t hx3, if_neg pu_n10, if_neg pu_n20, q20, q21, q22, q23, i20, i21, i22, i23, n20, n21, n22, n23]
            repeat' split
            all_goals rfl
          · simp only [K_takes, k_takes, mrow_hit, mrow_miss, ne_eq, Nat.reduceEqDiff, not_false_eq_true, reduceCtorEq, wi_t hx1, wi_t hx2, wi_t hx3, if_neg pu_n10, if_neg pu_n20, q20, q21, q22, q23, i20, i21, i22, i23, n20, n21, n22, n23]
            repeat' split
            all_goals rfl
          · simp only [K_takes, mrow_hit, mrow_miss, ne_eq, Nat.reduceEqDiff, not_false_eq_true, reduceCtorEq]
          · intro c hc
            simp only [K_takes]
            rw [mrow_miss _ _ (scr_ne hc rfl), mrow_miss _ _ (scr_ne hc rfl)]
        rcases hk9 with rfl | rfl | rfl
        · exact key _ (by simp only [e_takes, ↓if_pos hx1, ↓if_pos hx2, ↓if_pos hx3, if_pos pu_n01]; rfl) trivial (by simp only [K_takes, k_takes, mrow_hit, mrow_miss, ne_eq, Nat.reduceEqDiff, not_false_eq_true, reduceCtorEq, wi_t hx1, wi_t hx2, wi_t hx3, if_neg pu_n10, if_pos pu_n01]; exact g3)
        · exact key _ (by simp only [e_takes, ↓if_pos hx1, ↓if_pos hx2, ↓if_pos hx3, if_neg pu_n10, ↓reduceIte]; rfl) trivial (by simp only [K_takes, k_takes, mrow_hit, mrow_miss, ne_eq, Nat.reduceEqDiff, not_false_eq_true, reduceCtorEq, wi_t hx1, wi_t hx2, wi_t hx3, if_neg pu_n10, ↓reduceIte]; exact g4)
        · have n21 : ¬ nI 2 = nI 1 := by decide
          rcases tk_f x1 x2 with e | ⟨hi, hj⟩
          · exact key _ (by simp only [e_takes, ↓if_pos hx1, ↓if_pos hx2, ↓if_pos hx3, if_neg pu_n20, if_neg n21, if_pos e]; rfl) trivial (by simp only [K_takes, k_takes, mrow_hit, mrow_miss, ne_eq, Nat.reduceEqDiff, not_false_eq_true, reduceCtorEq, wi_t hx1, wi_t hx2, wi_t hx3, if_neg pu_n10, if_neg pu_n20, if_neg n21, g4, if_pos e])
          · by_cases e : o_firstRest x1 x2 = -1
            · exact key _ (by simp only [e_takes, ↓if_pos hx1, ↓if_pos hx2, ↓if_pos hx3, if_neg pu_n20, if_neg n21, if_pos e]; rfl) trivial (by simp only [K_takes, k_takes, mrow_hit, mrow_miss, ne_eq, Nat.reduceEqDiff, not_false_eq_true, reduceCtorEq, wi_t hx1, wi_t hx2, wi_t hx3, if_neg pu_n10, if_neg pu_n20, if_neg n21, g4, if_pos e])
            · exact key _ (by simp only [e_takes, ↓if_pos hx1, ↓if_pos hx2, ↓if_pos hx3, if_neg pu_n20, if_neg n21, if_neg e]; rfl) trivial (by simp only [K_takes, k_takes, mrow_hit, mrow_miss, ne_eq, Nat.reduceEqDiff, not_false_eq_true, reduceCtorEq, wi_t hx1, wi_t hx2, wi_t hx3, if_neg pu_n10, if_neg pu_n20, if_neg n21, g4, if_neg e, o_bothHave, tk_has hi, tk_has hj])
      · refine ⟨by simp only [EO_takes, e_takes_ok, if_pos hx1, if_pos hx2, if_neg hx3], ?_⟩
        refine Ag.bad1 h (by decide) _ (by simp only [e_takes, if_pos hx1, if_pos hx2, if_neg hx3]) ?_ ?_ ?_ ?_ ?_
        · trivial
        · simp only [K_takes, k_takes, mrow_hit, mrow_miss, ne_eq, Nat.reduceEqDiff, not_false_eq_true, reduceCtorEq, wi_t hx1, wi_t hx2, wi_f hx3, if_neg pu_n10, if_neg pu_n20, if_pos pu_n01, q20, q21, q22, q23, i20, i21, i22, i23, n20, n21, n22, n23]
        · simp only [K_takes, k_takes, mrow_hit, mrow_miss, ne_eq, Nat.reduceEqDiff, not_false_eq_true, reduceCtorEq, wi_t hx1, wi_t hx2, wi_f hx3, if_neg pu_n10, if_neg pu_n20, if_pos pu_n01, q20, q21, q22, q23, i20, i21, i22, i23, n20, n21, n22, n23]
        · simp only [K_takes, mrow_hit, mrow_miss, ne_eq, Nat.reduceEqDiff, not_false_eq_true, reduceCtorEq]
        · intro c hc
          simp only [K_takes]
          rw [mrow_miss _ _ (scr_ne hc rfl), mrow_miss _ _ (scr_ne hc rfl), mrow_miss _ _ (scr_ne hc rfl)]
    · refine ⟨by simp only [EO_takes, e_takes_ok, if_pos hx1, if_neg hx2], ?_⟩
      refine Ag.bad1 h (by decide) _ (by simp only [e_takes, if_pos hx1, if_neg hx2]) ?_ ?_ ?_ ?_ ?_
      · trivial
      · simp only [K_takes, k_takes, mrow_hit, mrow_miss, ne_eq, Nat.reduceEqDiff, not_false_eq_true, reduceCtorEq, wi_t hx1, wi_f hx2, if_neg pu_n10, if_neg pu_n20, if_pos pu_n01, q20, q21, q22, q23, i20, i21, i22, i23, n20, n21, n22, n23]
      · simp only [K_takes, k_takes, mrow_hit, mrow_miss, ne_eq, Nat.reduceEqDiff, not_false_eq_true, reduceCtorEq, wi_t hx1, wi_f hx2, if_neg pu_n10, if_neg pu_n20, if_pos pu_n01, q20, q21, q22, q23, i20, i21, i22, i23, n20, n21, n22, n23]
      · simp only [K_takes, mrow_hit, mrow_miss, ne_eq, Nat.reduceEqDiff, not_false_eq_true, reduceCtorEq]
      · intro c hc
        simp only [K_takes]
        rw [mrow_miss _ _ (scr_ne hc rfl), mrow_miss _ _ (scr_ne hc rfl), mrow_miss _ _ (scr_ne hc rfl)]
  · refine ⟨by simp only [EO_takes, e_takes_ok, if_neg hx1], ?_⟩
    refine Ag.bad1 h (by decide) _ (by simp only [e_takes, if_neg hx1]) ?_ ?_ ?_ ?_ ?_
    · trivial
    · simp only [K_takes, k_takes, mrow_hit, mrow_miss, ne_eq, Nat.reduceEqDiff, not_false_eq_true, reduceCtorEq, wi_f hx1, if_neg pu_n10, if_neg pu_n20, if_pos pu_n01, q20, q21, q22, q23, i20, i21, i22, i23, n20, n21, n22, n23]
    · simp only [K_takes, k_takes, mrow_hit, mrow_miss, ne_eq, Nat.reduceEqDiff, not_false_eq_true, reduceCtorEq, wi_f hx1, if_neg pu_n10, if_neg pu_n20, if_pos pu_n01, q20, q21, q22, q23, i20, i21, i22, i23, n20, n21, n22, n23]
    · simp only [K_takes, mrow_hit, mrow_miss, ne_eq, Nat.reduceEqDiff, not_false_eq_true, reduceCtorEq]
    · intro c hc
      simp only [K_takes]
      rw [mrow_miss _ _ (scr_ne hc rfl), mrow_miss _ _ (scr_ne hc rfl), mrow_miss _ _ (scr_ne hc rfl)]
theorem AgL.bad1 {np nr nt nf ci : Nat} {M : Mem} {KO : Mem → Prop} {K : Mem → Int64 × Mem} (h : IV np nr nt nf M) (hci : ci ≠ 0) (r : Rs) (hr : r = .inr (iaeN, mrow M 0 (upd (M.1 0) 16 (M.1 0 16 + nI 1)))) (hk : KO (mrow M 0 (upd (M.1 0) 16 (M.1 0 16 + nI 1))))
    (h1 : (K (mrow M 0 (upd (M.1 0) 16 (M.1 0 16 + nI 1)))).2.1 54 = upd (upd (M.1 54) 0 (nI 0)) 0 (nI ci)) (h2 : (K (mrow M 0 (upd (M.1 0) 16 (M.1 0 16 + nI 1)))).2.1 55 = upd (M.1 55) 1 (M.1 55 1 + nI 1)) (h3 : (K (mrow M 0 (upd (M.1 0) 16 (M.1 0 16 + nI 1)))).2.1 0 = upd (M.1 0) 16 (M.1 0 16 + nI 1)) (h4 : ∀ k, scr k = false → (K (mrow M 0 (upd (M.1 0) 16 (M.1 0 16 + nI 1)))).2.1 k = M.1 k) : AgL ci r KO K :=
  Or.inr ⟨_, hr, hci, hk, by rw [h1, pk_us], np, nr, nt, nf, h.bad1 h4 h1 h2 h3⟩
