/-! a call -/
theorem op_way {np nr nt nf : Nat} {M : Mem} (h : IV np nr nt nf M) (x1 x2 : Int32) : EO_way M nt nf x1 x2 ∧ Ag 0 1 (e_way M nt nf x1 x2) (fun N => KO_way N nf x1 x2) (fun N => K_way N nf x1 x2) := by
  obtain ⟨⟨z1, z2, z3, z4⟩, ⟨s1, s2, s3, s4⟩, ⟨c1, c2, c3, c4⟩, ⟨t1, t2, t3⟩, hL, hDd, hH, hI, hTP, ⟨b1, b2, b3, b4, b5⟩, hBK⟩ := id h
  obtain ⟨hD, -⟩ := id hDd
  have hd := DR_take (s := M.1 72) hD z3 z4
  have q20 : upd (M.1 54) 0 (nI 0) 20 = nI np := by rw [pk_un (by decide)]; exact c1
  have q21 : upd (M.1 54) 0 (nI 0) 21 = nI nr := by rw [pk_un (by decide)]; exact c2
  have q22 : upd (M.1 54) 0 (nI 0) 22 = nI nt := by rw [pk_un (by decide)]; exact c3
  have q23 : upd (M.1 54) 0 (nI 0) 23 = nI nf := by rw [pk_un (by decide)]; exact c4
  have i20 : ix (nI np) = np := pu_ix (by omega)
  have i21 : ix (nI nr) = nr := pu_ix (by omega)
  have i22 : ix (nI nt) = nt := pu_ix (by omega)
  have i23 : ix (nI nf) = nf := pu_ix (by omega)
  have n20 : isN (nI np) := pu_isN (by omega)
  have n21 : isN (nI nr) := pu_isN (by omega)
  have n22 : isN (nI nt) := pu_isN (by omega)
  have n23 : isN (nI nf) := pu_isN (by omega)
  have hz : SZ np nr nt nf := ⟨z1, z2, z3, z4⟩
  by_cases hx1 : ¬ x1 < 0 ∧ x1 < nI nf
  · skip
    by_cases hx2 : ¬ x2 < 0 ∧ x2 < nI nt
    · skip
      obtain ⟨a, ha, rfl⟩ := pu_in (n := nf) (by omega) hx1.1 hx1.2
      have ia : ix (nI a) = a := pu_ix (by omega)
      have ya : isN (nI a) := pu_isN (by omega)
      obtain ⟨t, ht, rfl⟩ := pu_in (n := nt) (by omega) hx2.1 hx2.2
      have it : ix (nI t) = t := pu_ix (by omega)
      have yt : isN (nI t) := pu_isN (by omega)
      have n01 : ∀ {a b : Nat}, a < 100 → b < 100 → (nI a = nI b) = (a = b) := fun ha hb => propext (pu_eqi (by omega) (by omega))
      have n02 : ∀ {a b : Nat}, a < 100 → b < 100 → (nI a ≤ nI b) = (a ≤ b) := fun ha hb => propext (pu_lei (by omega) (by omega))
      have n03 : ∀ {a : Nat}, a < 100 → (nI a = 0) = (a = 0) := fun ha => propext (by rw [← nI_0]; exact pu_eqi (by omega) (by omega))
      have hfr : ∀ p q, p < np → q < np → v_farFrom (M.1 11) p q = k_orNone (M.1 76 (8 * p + q)) := by
        intro p q hp hq
        simp only [v_farFrom, k_orNone]
        rcases t3 p q hp hq with ⟨d, hd1, g1, g2⟩ | ⟨g1, g2⟩
        · rw [g1, g2, if_neg (fun z => by have := (pu_lei (by omega) (by omega)).mp z; omega), if_pos ((pu_lti (by omega) (by omega)).mpr (by omega))]
        · rw [g1, g2, if_pos (Int32.le_refl _), if_neg (fun z => by have := (pu_lti (by omega) (by omega)).mp z; omega)]
      have hwy : ∀ a t, a < nf → t < nt → w_wayTo_ok (M.1 11) (M.1 38) a t ∧ w_wayTo (M.1 11) (M.1 38) a t = (if M.1 71 (10 + t) = -1 then k_orNone (M.1 76 (8 * ix (M.1 71 (20 + a)) + ix (M.1 71 (0 + t)))) else -1) ∧ isN (M.1 71 (20 + a)) ∧ isN (M.1 71 (0 + t)) ∧ 8 * ix (M.1 71 (20 + a)) + ix (M.1 71 (0 + t)) < 64 := by
        intro a t ha ht
        obtain ⟨p, hp, ep⟩ := hD.2.2.1 a ha
        have e1 : M.1 71 (20 + a) = nI p := (hD.2.1 a ha).1.trans ep
        have e4 := hD.2.2.2.1 t ht
        simp only [w_wayTo, w_wayTo_ok, e1, e4, ep, Nat.zero_add]
        rcases hD.2.2.2.2.1 t ht with ⟨g1, g2, q, hq, eq⟩ | ⟨b, hb, g1, g2, g3⟩
        · have gn : ¬ nI q = -1 := pu_nm (by omega)
          rw [g1, if_pos rfl, g2, eq, if_neg gn, if_neg gn, pu_ix (show p < 2147483648 by omega), pu_ix (show q < 2147483648 by omega)]
          exact ⟨⟨pu_isN (by omega), by omega, pu_isN (by omega), by omega, trivial⟩, hfr p q hp hq, pu_isN (by omega), pu_isN (by omega), by omega⟩
        · obtain ⟨q, hq, eq⟩ := hD.2.2.1 b hb
          have gn : ¬ nI b = -1 := pu_nm (by omega)
          rw [g1, g2, g3, eq, if_pos rfl, if_pos rfl, if_neg gn, pu_ix (show p < 2147483648 by omega), pu_ix (show q < 2147483648 by omega)]
          exact ⟨trivial, rfl, pu_isN (by omega), pu_isN (by omega), by omega⟩
      obtain ⟨u1, u2, u3, u4, u5⟩ := hwy a t ha ht
      refine ⟨⟨z3, s3, z4, s4, by simp (disch := omega) only [e_way_ok, ↓if_pos hx1, ↓if_pos hx2, ia, ya, it, yt, show a < 6 by omega, show t < 10 by omega, u1, and_self]⟩, ?_⟩
      have key : ∀ (v : Int32), e_way M nt nf (nI a) (nI t) = .inl (some (.int v), M) → KO_way (M) nf (nI a) (nI t) → (K_way (M) nf (nI a) (nI t)).1 = v → Ag 0 1 (e_way M nt nf (nI a) (nI t)) (fun N => KO_way N nf (nI a) (nI t)) (fun N => K_way N nf (nI a) (nI t)) := by
        intro v e1 e0 e2
        refine Ag.good h _ (M) v e1 e0 e2 ?_ ?_ ?_ ?_
        · simp only [K_way, k_way, mrow_hit, mrow_miss, ne_eq, Nat.reduceEqDiff, not_false_eq_true, reduceCtorEq, isF_t (show nf ≤ 100 by omega) (t0 _) hx1, isT_t (show nt ≤ 100 by omega) (t0 _) hx2, if_neg pu_n10, if_neg pu_n20, q20, q21, q22, q23, i20, i21, i22, i23, n20, n21, n22, n23]
          repeat' split
          all_goals rfl
        · simp only [K_way, k_way, mrow_hit, mrow_miss, ne_eq, Nat.reduceEqDiff, not_false_eq_true, reduceCtorEq, isF_t (show nf ≤ 100 by omega) (t0 _) hx1, isT_t (show nt ≤ 100 by omega) (t0 _) hx2, if_neg pu_n10, if_neg pu_n20, q20, q21, q22, q23, i20, i21, i22, i23, n20, n21, n22, n23]
          repeat' split
          all_goals rfl
        · simp only [K_way, mrow_hit, mrow_miss, ne_eq, Nat.reduceEqDiff, not_false_eq_true, reduceCtorEq]
        · intro c hc
          simp only [K_way]
          rw [mrow_miss _ _ (scr_ne hc rfl), mrow_miss _ _ (scr_ne hc rfl)]
      have hko : KO_way M nf (nI a) (nI t) := by
        simp (disch := omega) only [KO_way, k_way_ok, mrow_hit, mrow_miss, ne_eq, Nat.reduceEqDiff, not_false_eq_true, reduceCtorEq, isF_t (show nf ≤ 100 by omega) (t0 _) hx1, isT_t (show nt ≤ 100 by omega) (t0 _) hx2, if_neg pu_n10, if_neg pu_n20, q20, q21, q22, q23, i20, i21, i22, i23, n20, n21, n22, n23, z1, z2, z3, z4, c1, c2, c3, c4, take_ok, true_and, and_true, and_self, ia, ya, it, yt, show 20 + a < 51 by omega, show 10 + t < 51 by omega, show 0 + t < 51 by omega, u3, u4, u5, ite_self]
      refine key _ (by simp only [e_way, ↓if_pos hx1, ↓if_pos hx2, ia, it]; rfl) hko ?_
      rw [u2]
      simp only [K_way, k_way, mrow_hit, mrow_miss, ne_eq, Nat.reduceEqDiff, not_false_eq_true, reduceCtorEq, isF_t (show nf ≤ 100 by omega) (t0 _) hx1, isT_t (show nt ≤ 100 by omega) (t0 _) hx2, if_neg pu_n10, q20, q21, q22, q23, i20, i21, i22, i23, n20, n21, n22, n23, ia, it]
      split <;> rfl
    · refine ⟨⟨z3, s3, z4, s4, by simp only [e_way_ok, if_pos hx1, if_neg hx2]⟩, ?_⟩
      refine Ag.bad0 h (by decide) _ (by simp only [e_way, if_pos hx1, if_neg hx2]) ?_ ?_ ?_ ?_ ?_
      · simp only [KO_way, k_way_ok, mrow_hit, mrow_miss, ne_eq, Nat.reduceEqDiff, not_false_eq_true, reduceCtorEq, isF_t (show nf ≤ 100 by omega) (t0 _) hx1, isT_f (show nt ≤ 100 by omega) (t0 _) pu_n10 hx2, if_neg pu_n10, if_neg pu_n20, if_pos pu_n01, q20, q21, q22, q23, i20, i21, i22, i23, n20, n21, n22, n23, z1, z2, z3, z4, c1, c2, c3, c4, take_ok, and_self, true_and, and_true]
      · simp only [K_way, k_way, mrow_hit, mrow_miss, ne_eq, Nat.reduceEqDiff, not_false_eq_true, reduceCtorEq, isF_t (show nf ≤ 100 by omega) (t0 _) hx1, isT_f (show nt ≤ 100 by omega) (t0 _) pu_n10 hx2, if_neg pu_n10, if_neg pu_n20, if_pos pu_n01, q20, q21, q22, q23, i20, i21, i22, i23, n20, n21, n22, n23]
      · simp only [K_way, k_way, mrow_hit, mrow_miss, ne_eq, Nat.reduceEqDiff, not_false_eq_true, reduceCtorEq, isF_t (show nf ≤ 100 by omega) (t0 _) hx1, isT_f (show nt ≤ 100 by omega) (t0 _) pu_n10 hx2, if_neg pu_n10, if_neg pu_n20, if_pos pu_n01, q20, q21, q22, q23, i20, i21, i22, i23, n20, n21, n22, n23]
      · simp only [K_way, mrow_hit, mrow_miss, ne_eq, Nat.reduceEqDiff, not_false_eq_true, reduceCtorEq]
      · intro c hc
        simp only [K_way]
        rw [mrow_miss _ _ (scr_ne hc rfl), mrow_miss _ _ (scr_ne hc rfl), mrow_miss _ _ (scr_ne hc rfl)]
  · refine ⟨⟨z3, s3, z4, s4, by simp only [e_way_ok, if_neg hx1]⟩, ?_⟩
    refine Ag.bad0 h (by decide) _ (by simp only [e_way, if_neg hx1]) ?_ ?_ ?_ ?_ ?_
    · simp only [KO_way, k_way_ok, mrow_hit, mrow_miss, ne_eq, Nat.reduceEqDiff, not_false_eq_true, reduceCtorEq, isF_f (show nf ≤ 100 by omega) (t0 _) pu_n10 hx1, if_neg pu_n10, if_neg pu_n20, if_pos pu_n01, q20, q21, q22, q23, i20, i21, i22, i23, n20, n21, n22, n23, z1, z2, z3, z4, c1, c2, c3, c4, take_ok, and_self, true_and, and_true]
    · simp only [K_way, k_way, mrow_hit, mrow_miss, ne_eq, Nat.reduceEqDiff, not_false_eq_true, reduceCtorEq, isF_f (show nf ≤ 100 by omega) (t0 _) pu_n10 hx1, if_neg pu_n10, if_neg pu_n20, if_pos pu_n01, q20, q21, q22, q23, i20, i21, i22, i23, n20, n21, n22, n23]
    · simp only [K_way, k_way, mrow_hit, mrow_miss, ne_eq, Nat.reduceEqDiff, not_false_eq_true, reduceCtorEq, isF_f (show nf ≤ 100 by omega) (t0 _) pu_n10 hx1, if_neg pu_n10, if_neg pu_n20, if_pos pu_n01, q20, q21, q22, q23, i20, i21, i22, i23, n20, n21, n22, n23]
    · simp only [K_way, mrow_hit, mrow_miss, ne_eq, Nat.reduceEqDiff, not_false_eq_true, reduceCtorEq]
    · intro c hc
      simp only [K_way]
      rw [mrow_miss _ _ (scr_ne hc rfl), mrow_miss _ _ (scr_ne hc rfl), mrow_miss _ _ (scr_ne hc rfl)]
