/-! years by seeds -/
theorem op_span {np nr nt nf : Nat} {M : Mem} (h : IV np nr nt nf M) (x1 x2 x3 x4 x5 x6 : Int32) : EO_span M nr nt nf x1 x2 x3 x4 x5 x6 ∧ Ag 1 0 (e_span M nr nt nf x1 x2 x3 x4 x5 x6) (fun N => KO_span N nf x1 x2 x3 x4 x5 x6) (fun N => K_span N nf x1 x2 x3 x4 x5 x6) := by
  obtain ⟨⟨z1, z2, z3, z4⟩, ⟨s1, s2, s3, s4⟩, ⟨c1, c2, c3, c4⟩, ⟨t1, t2, t3⟩, hL, hDd, hH, hI, hTP, ⟨b1, b2, b3, b4, b5⟩, hBK⟩ := id h
  obtain ⟨hD, -⟩ := id hDd
  have q21 : upd (M.1 54) 0 (nI 0) 21 = nI nr := by rw [pk_un (by decide)]; exact c2
  have q22 : upd (M.1 54) 0 (nI 0) 22 = nI nt := by rw [pk_un (by decide)]; exact c3
  have q23 : upd (M.1 54) 0 (nI 0) 23 = nI nf := by rw [pk_un (by decide)]; exact c4
  have hz : SZ np nr nt nf := ⟨z1, z2, z3, z4⟩
  by_cases hh : (¬ x2 < nI 1 ∧ x2 ≤ nI 20) ∧ (¬ x3 < nI 0 ∧ x3 ≤ nI 16) ∧ (¬ x4 < nI 1 ∧ x4 ≤ nI 96) ∧ (¬ x5 < nI 0 ∧ x5 ≤ nI 2) ∧ (¬ x6 < nI 0 ∧ x6 ≤ nI nf - nI 1)
  · obtain ⟨hx2, hx3, hx4, hx5, hx6⟩ := hh
    have up : ∀ {x : Int32}, ¬ x < nI 1 → ¬ x < 0 := fun hx z => hx (by
      rw [pu_lt] at z ⊢
      rw [pu_z] at z
      rw [pu_nI (by omega)]
      omega)
    obtain ⟨n, hn, en⟩ := pu_le2 (n := 20) (by omega) (up hx2.1) hx2.2
    have hn1 : 0 < n := by
      have hz2 := hx2.1
      rw [en] at hz2
      refine Nat.pos_of_ne_zero (fun e0 => hz2 ?_)
      rw [e0]
      exact (pu_lti (by omega) (by omega)).mpr (by omega)
    obtain ⟨D, hD9, eD⟩ := pu_le2 (n := 96) (by omega) (up hx4.1) hx4.2
    obtain ⟨k, hk, ek⟩ := pu_le2 (n := 2) (by omega) (by rw [← nI_0]; exact hx5.1) hx5.2
    have hx6' := (nse_iff (x := x6) (n := nf) (by omega)).mpr hx6
    obtain ⟨a, ha, ea⟩ := pu_in (n := nf) (by omega) hx6'.1 hx6'.2
    obtain ⟨g1, g2, v7, v7', v8, v9, v10, G', Vs', R', Y', v10', md', St', Fa', S', g3, g4, g5, g6⟩ := sp_lp (m0 := upd (M.1 54) 0 (nI 0)) t2 t1 hz hD hD9 hn ha q21 q22 q23 (LWr_cg hL (pk_un (by decide) : upd (M.1 54) 0 (nI 0) 30 = M.1 54 30)) x1 x3 x5 FU 0 (nI 1000000) (-1) (nI 0) (nI 0) (M.1 22) (M.1 24) (M.1 41) (M.1 53) (upd (M.1 54) 0 (nI 0)) (M.1 67) (M.1 68) (M.1 72) (by omega) (by rw [FU_eq]; omega) (fun _ _ => rfl) (Or.inl ⟨rfl, rfl, rfl⟩)
    have e7 := g5 hn1
    subst e7
    rw [← en, ← eD, ← ea] at g1 g2 g3 g4
    have m0 : md' 0 = nI 0 := by rw [g6 0 (by decide), pk_us]
    have kg : k_span (M.1 54) (M.1 55) (M.1 60) (M.1 61) (M.1 65) (M.1 66) (M.1 67) (M.1 68) (M.1 71) (M.1 72) nf x1 x2 x3 x4 x5 x6 = (if x5 = 0 then v7' else if x5 = nI 1 then v8 else v9, md', M.1 55, St', Fa', S') := by
      simp only [k_span, wi_t hx2, iy_t hx3 hx4, wi_t hx5, wi_t hx6, if_neg pu_n10, g4]
      by_cases a1 : x5 = 0
      · rw [if_pos a1, if_pos a1]
      · rw [if_neg a1, if_neg a1]
        by_cases a3 : x5 = nI 1
        · rw [if_pos a3, if_pos a3]
        · rw [if_neg a3, if_neg a3]
    have kgo : k_span_ok (M.1 54) (M.1 55) (M.1 60) (M.1 61) (M.1 65) (M.1 66) (M.1 67) (M.1 68) (M.1 71) (M.1 72) nf x1 x2 x3 x4 x5 x6 := by
      simp only [k_span_ok, wi_t hx2, iy_t hx3 hx4, wi_t hx5, wi_t hx6, if_neg pu_n10, g2, and_self]
    have ego : e_span_ok M nr nt nf x1 x2 x3 x4 x5 x6 := by
      simp only [e_span_ok, if_pos hx2, if_pos hx3, if_pos hx4, if_pos hx5, if_pos hx6, g1, and_self]
    have eg : e_span M nr nt nf x1 x2 x3 x4 x5 x6 = .inl (some (.int (if x5 = 0 then v7' else if x5 = nI 1 then v8 else v9)), mrow (mrow (mrow (mrow M 22 G') 24 Vs') 41 R') 53 Y') := by
      simp only [e_span, if_pos hx2, if_pos hx3, if_pos hx4, if_pos hx5, if_pos hx6, g3]
      by_cases a1 : x5 = 0
      · rw [if_pos a1, if_pos a1]
      · rw [if_neg a1, if_neg a1]
        by_cases a3 : x5 = nI 1
        · rw [if_pos a3, if_pos a3]
        · rw [if_neg a3, if_neg a3]
    refine ⟨⟨z2, s2, z3, s3, z4, s4, ego⟩, ?_⟩
    refine Or.inl ⟨_, _, eg, ?_, ?_, ?_, np, nr, nt, nf, h.keep ?_ ?_ ?_ ?_ ?_⟩
    · simp only [KO_span, mrow_hit, mrow_miss, ne_eq, Nat.reduceEqDiff, not_false_eq_true, reduceCtorEq, kgo, z4, c4, and_self]
    · simp only [K_span, mrow_hit, mrow_miss, ne_eq, Nat.reduceEqDiff, not_false_eq_true, reduceCtorEq, kg]
    · simp only [K_span, mrow_hit, mrow_miss, ne_eq, Nat.reduceEqDiff, not_false_eq_true, reduceCtorEq, kg]
      exact m0
    · intro c hc
      simp only [K_span]
      rw [mrow_miss _ _ (scr_ne hc rfl), mrow_miss _ _ (scr_ne hc rfl), mrow_miss _ _ (scr_ne hc rfl), mrow_miss _ _ (scr_ne hc rfl), mrow_miss _ _ (scr_ne hc rfl), mrow_miss _ _ (scr_ne hc rfl), mrow_miss _ _ (scr_ne hc rfl), mrow_miss _ _ (scr_ne hc rfl), mrow_miss _ _ (scr_ne hc rfl)]
    · intro j j0 j49
      simp only [K_span, mrow_hit, mrow_miss, ne_eq, Nat.reduceEqDiff, not_false_eq_true, reduceCtorEq, kg]
      rw [g6 j j49, pk_un j0]
    · simp only [K_span, mrow_hit, mrow_miss, ne_eq, Nat.reduceEqDiff, not_false_eq_true, reduceCtorEq]
    · simp only [K_span, mrow_hit, mrow_miss, ne_eq, Nat.reduceEqDiff, not_false_eq_true, reduceCtorEq, kg]
      exact b4
    · simp only [K_span, mrow_hit, mrow_miss, ne_eq, Nat.reduceEqDiff, not_false_eq_true, reduceCtorEq, kg]
      exact b5
  · have kb : k_span (M.1 54) (M.1 55) (M.1 60) (M.1 61) (M.1 65) (M.1 66) (M.1 67) (M.1 68) (M.1 71) (M.1 72) nf x1 x2 x3 x4 x5 x6 = (nI 0, upd (upd (M.1 54) 0 (nI 0)) 0 (nI 1), upd (M.1 55) 1 (M.1 55 1 + nI 1), M.1 67, M.1 68, M.1 72) ∧ k_span_ok (M.1 54) (M.1 55) (M.1 60) (M.1 61) (M.1 65) (M.1 66) (M.1 67) (M.1 68) (M.1 71) (M.1 72) nf x1 x2 x3 x4 x5 x6 := by
      by_cases g1 : ¬ x2 < nI 1 ∧ x2 ≤ nI 20
      · by_cases g : (¬ x3 < nI 0 ∧ x3 ≤ nI 16) ∧ ¬ x4 < nI 1 ∧ x4 ≤ nI 96
        · by_cases g4 : ¬ x5 < nI 0 ∧ x5 ≤ nI 2
          · have g5 : ¬ (¬ x6 < nI 0 ∧ x6 ≤ nI nf - nI 1) := fun z => hh ⟨g1, g.1, g.2, g4, z⟩
            simp only [k_span, k_span_ok, wi_t g1, iy_t g.1 g.2, wi_t g4, if_neg pu_n10, wi_f g5, if_pos pu_n01, and_self]
          · simp only [k_span, k_span_ok, wi_t g1, iy_t g.1 g.2, if_neg pu_n10, wi_f g4, if_pos pu_n01, and_self]
        · simp only [k_span, k_span_ok, wi_t g1, iy_f g, if_neg pu_n10, if_pos pu_n01, and_self]
      · simp only [k_span, k_span_ok, wi_f g1, if_pos pu_n01, and_self]
    have eb : e_span M nr nt nf x1 x2 x3 x4 x5 x6 = .inr ("java/lang/IllegalArgumentException", mrow M 0 (upd (M.1 0) 16 ((M.1 0 16) + nI 1))) ∧ e_span_ok M nr nt nf x1 x2 x3 x4 x5 x6 := by
      by_cases g1 : ¬ x2 < nI 1 ∧ x2 ≤ nI 20
      · by_cases g2 : ¬ x3 < nI 0 ∧ x3 ≤ nI 16
        · by_cases g3 : ¬ x4 < nI 1 ∧ x4 ≤ nI 96
          · by_cases g4 : ¬ x5 < nI 0 ∧ x5 ≤ nI 2
            · have g5 : ¬ (¬ x6 < nI 0 ∧ x6 ≤ nI nf - nI 1) := fun z => hh ⟨g1, g2, g3, g4, z⟩
              simp only [e_span, e_span_ok, if_pos g1, if_pos g2, if_pos g3, if_pos g4, if_neg g5, and_self]
            · simp only [e_span, e_span_ok, if_pos g1, if_pos g2, if_pos g3, if_neg g4, and_self]
          · simp only [e_span, e_span_ok, if_pos g1, if_pos g2, if_neg g3, and_self]
        · simp only [e_span, e_span_ok, if_pos g1, if_neg g2, and_self]
      · simp only [e_span, e_span_ok, if_neg g1, and_self]
    refine ⟨⟨z2, s2, z3, s3, z4, s4, eb.2⟩, Ag.bad1 h (by decide) _ eb.1 ?_ ?_ ?_ ?_ ?_⟩
    · simp only [KO_span, mrow_hit, mrow_miss, ne_eq, Nat.reduceEqDiff, not_false_eq_true, reduceCtorEq, kb.2, z4, c4, and_self]
    · simp only [K_span, mrow_hit, mrow_miss, ne_eq, Nat.reduceEqDiff, not_false_eq_true, reduceCtorEq, kb.1]
    · simp only [K_span, mrow_hit, mrow_miss, ne_eq, Nat.reduceEqDiff, not_false_eq_true, reduceCtorEq, kb.1]
    · simp only [K_span, mrow_hit, mrow_miss, ne_eq, Nat.reduceEqDiff, not_false_eq_true, reduceCtorEq]
    · intro c hc
      simp only [K_span]
      rw [mrow_miss _ _ (scr_ne hc rfl), mrow_miss _ _ (scr_ne hc rfl), mrow_miss _ _ (scr_ne hc rfl), mrow_miss _ _ (scr_ne hc rfl), mrow_miss _ _ (scr_ne hc rfl), mrow_miss _ _ (scr_ne hc rfl)]
