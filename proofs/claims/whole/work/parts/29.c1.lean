/-! a year -/
theorem op_year {np nr nt nf : Nat} {M : Mem} (h : IV np nr nt nf M) (x1 x2 x3 x4 : Int32) : EO_year M nr nt nf x1 x2 x3 x4 ∧ Ag 1 0 (e_year M nr nt nf x1 x2 x3 x4) (fun N => KO_year N nr nt nf x1 x2 x3 x4) (fun N => K_year N nr nt nf x1 x2 x3 x4) := by
  obtain ⟨⟨z1, z2, z3, z4⟩, ⟨s1, s2, s3, s4⟩, ⟨c1, c2, c3, c4⟩, ⟨t1, t2, t3⟩, hL, hDd, hH, hI, hTP, ⟨b1, b2, b3, b4, b5⟩, hBK⟩ := id h
  obtain ⟨hD, -⟩ := id hDd
  have q21 : upd (M.1 54) 0 (nI 0) 21 = nI nr := by rw [pk_un (by decide)]; exact c2
  have q22 : upd (M.1 54) 0 (nI 0) 22 = nI nt := by rw [pk_un (by decide)]; exact c3
  have q23 : upd (M.1 54) 0 (nI 0) 23 = nI nf := by rw [pk_un (by decide)]; exact c4
  have i22 : ix (nI nt) = nt := pu_ix (by omega)
  have i23 : ix (nI nf) = nf := pu_ix (by omega)
  have n22 : isN (nI nt) := pu_isN (by omega)
  have n23 : isN (nI nf) := pu_isN (by omega)
  have hz : SZ np nr nt nf := ⟨z1, z2, z3, z4⟩
  by_cases hh : (¬ x2 < nI 0 ∧ x2 ≤ nI 16) ∧ (¬ x3 < nI 1 ∧ x3 ≤ nI 96) ∧ (¬ x4 < nI 0 ∧ x4 ≤ nI 3)
  · obtain ⟨hx2, hx3, hx4⟩ := hh
    have h30 : ¬ x3 < 0 := fun z => hx3.1 (by
      rw [pu_lt] at z ⊢
      rw [pu_z] at z
      rw [pu_nI (by omega)]
      omega)
    obtain ⟨D, hD9, eD⟩ := pu_le2 (n := 96) (by omega) h30 hx3.2
    obtain ⟨k, hk, ek⟩ := pu_le2 (n := 3) (by omega) (by rw [← nI_0]; exact hx4.1) hx4.2
    obtain ⟨g1, g2, G', Vs', R', Y', md', St', Fa', S', g3, g4, g5, g6, g7, -⟩ := yg_eq t2 t1 hz (LWr_cg hL (pk_un (by decide) : upd (M.1 54) 0 (nI 0) 30 = M.1 54 30)) hD hD9 q21 q22 q23 x1 x2 (M.1 22) (M.1 24) (M.1 41) (M.1 53) (M.1 67) (M.1 68) (M.1 72)
    rw [← eD] at g1 g2 g3 g4
    have m0 : md' 0 = nI 0 := by rw [g6 0 (by decide), pk_us]
    have m22 : md' 22 = nI nt := by rw [g6 22 (by decide)]; exact q22
    have m23 : md' 23 = nI nf := by rw [g6 23 (by decide)]; exact q23
    have kg : k_year (M.1 54) (M.1 55) (M.1 60) (M.1 61) (M.1 65) (M.1 66) (M.1 67) (M.1 68) (M.1 71) (M.1 72) nr nt nf x1 x2 x3 x4 = (if x4 = nI 1 then k_allHeld S' nt else if x4 = nI 3 then k_owing S' nf (nI 0) else if x4 = 0 then k_foundMore (M.1 71) S' nf else k_sumOf_44 S' nf - k_year_83 (M.1 71) x4 nf, md', M.1 55, St', Fa', S') := by
      simp only [k_year, iy_t hx2 hx3, if_neg pu_n10, wi_t hx4, g4, m22, m23, i22, i23]
      by_cases a1 : x4 = nI 1
      · rw [if_pos a1, if_pos a1]
      · rw [if_neg a1, if_neg a1]
        by_cases a3 : x4 = nI 3
        · rw [if_pos a3, if_pos a3]
        · rw [if_neg a3, if_neg a3]
          by_cases a0 : x4 = 0
          · rw [if_pos a0, if_pos a0]
          · rw [if_neg a0, if_neg a0]
    have kgo : k_year_ok (M.1 54) (M.1 55) (M.1 60) (M.1 61) (M.1 65) (M.1 66) (M.1 67) (M.1 68) (M.1 71) (M.1 72) nr nt nf x1 x2 x3 x4 := by
      simp only [k_year_ok, iy_t hx2 hx3, if_neg pu_n10, wi_t hx4, g2, g4, m22, m23, i22, i23, n22, n23, z3, z4, and_self, ite_self]
    have ego : e_year_ok M nr nt nf x1 x2 x3 x4 := by
      simp only [e_year_ok, if_pos hx2, if_pos hx3, if_pos hx4, g1, and_self]
    refine ⟨⟨z2, s2, z3, s3, z4, s4, ego⟩, ?_⟩
    have key : ∀ (v : Int32), e_year M nr nt nf x1 x2 x3 x4 = .inl (some (.int v), mrow (mrow (mrow (mrow M 22 G') 24 Vs') 41 R') 53 Y') → (if x4 = nI 1 then k_allHeld S' nt else if x4 = nI 3 then k_owing S' nf (nI 0) else if x4 = 0 then k_foundMore (M.1 71) S' nf else k_sumOf_44 S' nf - k_year_83 (M.1 71) x4 nf) = v → Ag 1 0 (e_year M nr nt nf x1 x2 x3 x4) (fun N => KO_year N nr nt nf x1 x2 x3 x4) (fun N => K_year N nr nt nf x1 x2 x3 x4) := by
      intro v e1 e2
      refine Or.inl ⟨v, _, e1, ?_, ?_, ?_, np, nr, nt, nf, h.keep ?_ ?_ ?_ ?_ ?_⟩
      · simp only [KO_year, mrow_hit, mrow_miss, ne_eq, Nat.reduceEqDiff, not_false_eq_true, reduceCtorEq, kgo, z2, z3, z4, c2, c3, c4, and_self]
      · simp only [K_year, mrow_hit, mrow_miss, ne_eq, Nat.reduceEqDiff, not_false_eq_true, reduceCtorEq, kg]
        exact e2
      · simp only [K_year, mrow_hit, mrow_miss, ne_eq, Nat.reduceEqDiff, not_false_eq_true, reduceCtorEq, kg]
        exact m0
      · intro c hc
        simp only [K_year]
        rw [mrow_miss _ _ (scr_ne hc rfl), mrow_miss _ _ (scr_ne hc rfl), mrow_miss _ _ (scr_ne hc rfl), mrow_miss _ _ (scr_ne hc rfl), mrow_miss _ _ (scr_ne hc rfl), mrow_miss _ _ (scr_ne hc rfl), mrow_miss _ _ (scr_ne hc rfl), mrow_miss _ _ (scr_ne hc rfl), mrow_miss _ _ (scr_ne hc rfl)]
      · intro j j0 j49
        simp only [K_year, mrow_hit, mrow_miss, ne_eq, Nat.reduceEqDiff, not_false_eq_true, reduceCtorEq, kg]
        rw [g6 j j49, pk_un j0]
      · simp only [K_year, mrow_hit, mrow_miss, ne_eq, Nat.reduceEqDiff, not_false_eq_true, reduceCtorEq]
      · simp only [K_year, mrow_hit, mrow_miss, ne_eq, Nat.reduceEqDiff, not_false_eq_true, reduceCtorEq, kg]
        exact b4
      · simp only [K_year, mrow_hit, mrow_miss, ne_eq, Nat.reduceEqDiff, not_false_eq_true, reduceCtorEq, kg]
        exact b5
    have n0 : ∀ {a b : Nat}, a < 100 → b < 100 → a ≠ b → ¬ nI a = nI b := fun ha hb hn z => hn (pu_inj (by omega) (by omega) z)
    have hk9 : k = 0 ∨ k = 1 ∨ k = 2 ∨ k = 3 := by omega
    rcases hk9 with rfl | rfl | rfl | rfl
    · refine key (Y' 0) ?_ ?_
      · simp only [e_year, if_pos hx2, if_pos hx3, if_pos hx4, g3]
        rw [if_pos ek]
      · rw [if_neg (fun z => n0 (show 0 < 100 by omega) (show 1 < 100 by omega) (by decide) (ek.symm.trans z)), if_neg (fun z => n0 (show 0 < 100 by omega) (show 3 < 100 by omega) (by decide) (ek.symm.trans z)), if_pos (ek.trans nI_0)]
        exact g7.symm
    · refine key (d_heldByAll R' nt) ?_ ?_
      · simp only [e_year, if_pos hx2, if_pos hx3, if_pos hx4, g3]
        rw [if_neg (fun z => n0 (show 1 < 100 by omega) (show 0 < 100 by omega) (by decide) (ek.symm.trans z)), if_pos ek]
      · rw [if_pos ek]
        exact ah_eq g5
    · refine key (d_shames R' nf - d_shames (M.1 38) nf) ?_ ?_
      · simp only [e_year, if_pos hx2, if_pos hx3, if_pos hx4, g3]
        rw [if_neg (fun z => n0 (show 2 < 100 by omega) (show 0 < 100 by omega) (by decide) (ek.symm.trans z)), if_neg (fun z => n0 (show 2 < 100 by omega) (show 1 < 100 by omega) (by decide) (ek.symm.trans z)), if_pos ek]
      · rw [if_neg (fun z => n0 (show 2 < 100 by omega) (show 1 < 100 by omega) (by decide) (ek.symm.trans z)), if_neg (fun z => n0 (show 2 < 100 by omega) (show 3 < 100 by omega) (by decide) (ek.symm.trans z)), if_neg (fun z => n0 (show 2 < 100 by omega) (show 0 < 100 by omega) (by decide) (ek.symm.trans (z.trans nI_0.symm)))]
        simp only [k_sumOf_44, d_shames]
        rw [y83_eq hD x4 nf (Nat.le_refl _), sh_eq nf (fun a ha => (g5.2.1 a ha).2.2.2.2)]
    · refine key (d_even R' nf) ?_ ?_
      · simp only [e_year, if_pos hx2, if_pos hx3, if_pos hx4, g3]
        rw [if_neg (fun z => n0 (show 3 < 100 by omega) (show 0 < 100 by omega) (by decide) (ek.symm.trans z)), if_neg (fun z => n0 (show 3 < 100 by omega) (show 1 < 100 by omega) (by decide) (ek.symm.trans z)), if_neg (fun z => n0 (show 3 < 100 by omega) (show 2 < 100 by omega) (by decide) (ek.symm.trans z))]
      · rw [if_neg (fun z => n0 (show 3 < 100 by omega) (show 1 < 100 by omega) (by decide) (ek.symm.trans z)), if_pos ek]
        simp only [k_owing, d_even]
        rw [nI_0]
        exact ev_eq nf (fun a ha => (g5.2.1 a ha).2.1)
  · have kb : k_year (M.1 54) (M.1 55) (M.1 60) (M.1 61) (M.1 65) (M.1 66) (M.1 67) (M.1 68) (M.1 71) (M.1 72) nr nt nf x1 x2 x3 x4 = (nI 0, upd (upd (M.1 54) 0 (nI 0)) 0 (nI 1), upd (M.1 55) 1 (M.1 55 1 + nI 1), M.1 67, M.1 68, M.1 72) ∧ k_year_ok (M.1 54) (M.1 55) (M.1 60) (M.1 61) (M.1 65) (M.1 66) (M.1 67) (M.1 68) (M.1 71) (M.1 72) nr nt nf x1 x2 x3 x4 := by
      by_cases g : (¬ x2 < nI 0 ∧ x2 ≤ nI 16) ∧ ¬ x3 < nI 1 ∧ x3 ≤ nI 96
      · have g4 : ¬ (¬ x4 < nI 0 ∧ x4 ≤ nI 3) := fun z => hh ⟨g.1, g.2, z⟩
        simp only [k_year, k_year_ok, iy_t g.1 g.2, if_neg pu_n10, wi_f g4, if_pos pu_n01, and_self]
      · simp only [k_year, k_year_ok, iy_f g, if_pos pu_n01, and_self]
    have eb : e_year M nr nt nf x1 x2 x3 x4 = .inr ("java/lang/IllegalArgumentException", mrow M 0 (upd (M.1 0) 16 ((M.1 0 16) + nI 1))) ∧ e_year_ok M nr nt nf x1 x2 x3 x4 := by
      by_cases g1 : ¬ x2 < nI 0 ∧ x2 ≤ nI 16
      · by_cases g2 : ¬ x3 < nI 1 ∧ x3 ≤ nI 96
        · have g4 : ¬ (¬ x4 < nI 0 ∧ x4 ≤ nI 3) := fun z => hh ⟨g1, g2, z⟩
          simp only [e_year, e_year_ok, if_pos g1, if_pos g2, if_neg g4, and_self]
        · simp only [e_year, e_year_ok, if_pos g1, if_neg g2, and_self]
      · simp only [e_year, e_year_ok, if_neg g1, and_self]
    refine ⟨⟨z2, s2, z3, s3, z4, s4, eb.2⟩, Ag.bad1 h (by decide) _ eb.1 ?_ ?_ ?_ ?_ ?_⟩
    · simp only [KO_year, mrow_hit, mrow_miss, ne_eq, Nat.reduceEqDiff, not_false_eq_true, reduceCtorEq, kb.2, z2, z3, z4, c2, c3, c4, and_self]
    · simp only [K_year, mrow_hit, mrow_miss, ne_eq, Nat.reduceEqDiff, not_false_eq_true, reduceCtorEq, kb.1]
    · simp only [K_year, mrow_hit, mrow_miss, ne_eq, Nat.reduceEqDiff, not_false_eq_true, reduceCtorEq, kb.1]
    · simp only [K_year, mrow_hit, mrow_miss, ne_eq, Nat.reduceEqDiff, not_false_eq_true, reduceCtorEq]
    · intro c hc
      simp only [K_year]
      rw [mrow_miss _ _ (scr_ne hc rfl), mrow_miss _ _ (scr_ne hc rfl), mrow_miss _ _ (scr_ne hc rfl), mrow_miss _ _ (scr_ne hc rfl), mrow_miss _ _ (scr_ne hc rfl), mrow_miss _ _ (scr_ne hc rfl)]
