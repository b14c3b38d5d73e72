/-! sixpence in the pound -/
theorem op_sixpence {np nr nt nf : Nat} {M : Mem} (h : IV np nr nt nf M) (x1 x2 x3 : Int32) : EO_sixpence M nt nf x1 x2 x3 ∧ Ag 2 1 (e_sixpence M nt nf x1 x2 x3) (fun N => KO_sixpence N nf x1 x2 x3) (fun N => K_sixpence N nf x1 x2 x3) := by
  obtain ⟨⟨z1, z2, z3, z4⟩, ⟨s1, s2, s3, s4⟩, ⟨c1, c2, c3, c4⟩, ⟨t1, t2, t3⟩, hL, hDd, -⟩ := id h
  obtain ⟨hD, -⟩ := id hDd
  have hd := DR_take (s := M.1 72) hD z3 z4
  have q22 : upd (M.1 54) 0 (nI 0) 22 = nI nt := by rw [pk_un (by decide)]; exact c3
  have q23 : upd (M.1 54) 0 (nI 0) 23 = nI nf := by rw [pk_un (by decide)]; exact c4
  have i22 : ix (nI nt) = nt := pu_ix (by omega)
  have i23 : ix (nI nf) = nf := pu_ix (by omega)
  have n22 : isN (nI nt) := pu_isN (by omega)
  have n23 : isN (nI nf) := pu_isN (by omega)
  by_cases hx1 : ¬ x1 < 0 ∧ x1 < nI nf
  · have e1 : k_isFinder (upd (M.1 54) 0 (nI 0)) (M.1 55) nf x1 (nI 1) = (nI 1, upd (M.1 54) 0 (nI 0), M.1 55) := isF_t (show nf ≤ 100 by omega) (t0 _) hx1
    have hp : nf ≤ 6 := z4
    have h64 : (2 : Nat) ^ nf ≤ 2 ^ 6 := Nat.pow_le_pow_right (by omega) hp
    have h01 : 0 < (2 : Nat) ^ nf := Nat.two_pow_pos nf
    have sl : nI 1 <<< (nI nf &&& 31) = nI (2 ^ nf) := pu_sl nf (by omega)
    have bad : ¬ ((¬ x2 < nI 0 ∧ x2 ≤ (((nI 1) <<< ((nI nf) &&& 31)) - (nI 1))) ∧ ¬ x3 < nI 0 ∧ x3 ≤ nI 999) → k_sixpence (M.1 54) (M.1 55) (M.1 61) (M.1 71) (M.1 72) nf x1 x2 x3 = (nI 0, upd (upd (M.1 54) 0 (nI 0)) 0 (nI 2), upd (M.1 55) 1 (M.1 55 1 + nI 1), M.1 72) ∧ k_sixpence_ok (M.1 54) (M.1 55) (M.1 61) (M.1 71) (M.1 72) nf x1 x2 x3 := by
      intro hh
      by_cases g1 : x2 < 0
      · simp only [k_sixpence, k_sixpence_ok, e1, if_neg pu_n10, if_pos g1, may1_f (t0 _) pu_n20, if_pos pu_n01, and_self]
      · by_cases g2 : nI (2 ^ nf) ≤ x2
        · simp only [k_sixpence, k_sixpence_ok, e1, if_neg pu_n10, if_neg g1, q23, sl, if_pos g2, may1_f (t0 _) pu_n20, if_pos pu_n01, and_self]
        · by_cases g3 : ¬ x3 < nI 0 ∧ x3 ≤ nI 999
          · refine absurd ⟨⟨by rw [nI_0]; exact g1, ?_⟩, g3⟩ hh
            rw [sl, pk_sub (by omega)]
            rw [pu_le] at g2 ⊢
            rw [nI_toInt (show 2 ^ nf < 2 ^ 31 by omega)] at g2
            rw [nI_toInt (show 2 ^ nf - 1 < 2 ^ 31 by omega)]
            omega
          · simp only [k_sixpence, k_sixpence_ok, e1, if_neg pu_n10, if_neg g1, q23, sl, if_neg g2, wi_f g3, may1_f (t0 _) pu_n20, if_pos pu_n01, and_self]
    have badE : ¬ ((¬ x2 < nI 0 ∧ x2 ≤ (((nI 1) <<< ((nI nf) &&& 31)) - (nI 1))) ∧ ¬ x3 < nI 0 ∧ x3 ≤ nI 999) → e_sixpence M nt nf x1 x2 x3 = .inr ("java/lang/IllegalArgumentException", mrow M 0 (upd (M.1 0) 16 ((M.1 0 16) + nI 1))) ∧ e_sixpence_ok M nt nf x1 x2 x3 := by
      intro hh
      by_cases g1 : (¬ x2 < nI 0 ∧ x2 ≤ (((nI 1) <<< ((nI nf) &&& 31)) - (nI 1)))
      · have g2 : ¬ (¬ x3 < nI 0 ∧ x3 ≤ nI 999) := fun z => hh ⟨g1, z⟩
        simp only [e_sixpence, e_sixpence_ok, if_pos hx1, if_pos g1, if_neg g2, and_self]
      · simp only [e_sixpence, e_sixpence_ok, if_pos hx1, if_neg g1, and_self]
    by_cases hx2 : (¬ x2 < nI 0 ∧ x2 ≤ (((nI 1) <<< ((nI nf) &&& 31)) - (nI 1))) ∧ ¬ x3 < nI 0 ∧ x3 ≤ nI 999
    · obtain ⟨a, ha, ea⟩ := pu_in (n := nf) (by omega) hx1.1 hx1.2
      obtain ⟨n, hn, en⟩ := pu_le2 (n := 999) (by omega) (by rw [← nI_0]; exact hx2.2.1) hx2.2.2
      have ia : ix (nI a) = a := pu_ix (by omega)
      have ya : isN (nI a) := pu_isN (by omega)
      have g1 : ¬ x2 < 0 := by rw [← nI_0]; exact hx2.1.1
      have g2 : ¬ nI (2 ^ nf) ≤ x2 := by
        have e := hx2.1.2
        rw [sl, pk_sub (by omega)] at e
        rw [pu_le] at e ⊢
        rw [nI_toInt (show 2 ^ nf - 1 < 2 ^ 31 by omega)] at e
        rw [nI_toInt (show 2 ^ nf < 2 ^ 31 by omega)]
        omega
      obtain ⟨c, hcd⟩ : ∃ c : Nat → Nat, ∀ i, c i = ix (if (x2 >>> (nI i &&& 31)) &&& nI 1 = 0 then nI 0 else v_worthOf (M.1 7) nt (d_heldBy (M.1 38) nt (nI i))) := ⟨_, fun _ => rfl⟩
      have hc : ∀ i, i < nf → (if (x2 >>> (nI i &&& 31)) &&& nI 1 = 0 then nI 0 else v_worthOf (M.1 7) nt (d_heldBy (M.1 38) nt (nI i))) = nI (c i) ∧ c i ≤ 600 := fun i hi => by
        rw [hcd i]
        split
        · rw [pu_ix (show 0 < 2147483648 by omega)]; exact ⟨rfl, by omega⟩
        · obtain ⟨w, hw, ew⟩ := wo_bd t1 (d_heldBy (M.1 38) nt (nI i)) nt (Nat.le_refl _)
          have ew' : v_worthOf (M.1 7) nt (d_heldBy (M.1 38) nt (nI i)) = nI w := ew
          rw [ew', pu_ix (show w < 2147483648 by omega)]
          exact ⟨rfl, by omega⟩
      obtain ⟨B, hB, hB1, hB2⟩ := gs_best c nf n
      have hP : ∀ i, i < nf → d_levelled_13 (M.1 7) (M.1 38) (M.1 39) nt a x2 (nI n) nf i = nI (c i) ∧ c i ≤ 600 := fun i hi => by
        rw [lv_13 a x2 (nI n) nf i hi]; exact hc i hi
      obtain ⟨l1, l2⟩ := lv_lp z4 hP hn a hB hB1 (fun hlt => hB2 (B + 1) (by omega) (by omega)) FU 0 (by omega) (by rw [FU_eq]; omega)
      have hby : ∀ b, b ≤ 600 → k_sixpenceBy (M.1 61) (k_take (M.1 71) (M.1 72)).2 nt nf x2 (nI b) = nI (gsn c b nf) := fun b hb => sx_by hd t1 z3 z4 x2 hc hb nf (Nat.le_refl _)
      obtain ⟨l3, l4⟩ := sx_lp (nI a) x2 z4 hn hby hB hB1 hB2 FU 600 hB (by omega) (by rw [FU_eq]; omega)
      have pa := (hP a ha).1
      have hwor : k_worthOf (M.1 61) nt (k_heldBy (k_take (M.1 71) (M.1 72)).2 nt (nI a)) = v_worthOf (M.1 7) nt (d_heldBy (M.1 38) nt (nI a)) := by
        simp only [k_heldBy, k_worthOf, v_worthOf, d_heldBy]
        rw [hb_eq _ nt (fun t ht => hd.2.2.2.1 t ht)]
        exact wo_eq t1 _ nt (Nat.le_refl _)
      rcases y6 : k_take (M.1 71) (M.1 72) with ⟨u6, r6⟩
      rw [y6] at l3 l4 hwor
      simp only at l3 l4 hwor
      have kg : k_sixpence (M.1 54) (M.1 55) (M.1 61) (M.1 71) (M.1 72) nf x1 x2 x3 = (if ((x2 >>> (nI a &&& 31)) &&& nI 1) = 0 then nI 0 else k_bounded (M.1 61) r6 nt (nI a) (nI B), upd (M.1 54) 0 (nI 0), M.1 55, r6) := by
        rw [← ea] at l4 ⊢
        rw [← en] at l4
        simp only [k_sixpence, e1, if_neg pu_n10, if_neg g1, q22, q23, sl, if_neg g2, wi_t hx2.2, may1_t (t0 _), y6, i22, i23, l4]
        split
        · rfl
        · rfl
      have kgo : k_sixpence_ok (M.1 54) (M.1 55) (M.1 61) (M.1 71) (M.1 72) nf x1 x2 x3 := by
        rw [← ea] at l3
        rw [← en] at l3
        simp only [k_sixpence_ok, e1, if_neg pu_n10, if_neg g1, q22, q23, sl, if_neg g2, wi_t hx2.2, may1_t (t0 _), y6, i22, i23, n22, n23, l3, take_ok, z3, z4, and_self, ite_self]
      have hlo : d_levelled_ok (M.1 7) (M.1 38) (M.1 39) nt nf a x2 (nI n) := by
        simp only [d_levelled_ok, l1, and_self, ite_self]
      rcases y7 : d_levelled (M.1 7) (M.1 38) (M.1 39) nt nf a x2 (nI n) with ⟨v, r15⟩
      have hv : v = (if ((x2 >>> (nI a &&& 31)) &&& nI 1) = 0 then nI 0 else k_bounded (M.1 61) r6 nt (nI a) (nI B)) := by
        have := congrArg (fun p => p.1) y7
        simp only at this
        rw [← this]
        simp only [d_levelled, l2, pa, k_bounded, hwor]
        by_cases g : ((x2 >>> (nI a &&& 31)) &&& nI 1) = 0
        · rw [if_pos g, if_pos g]
        · rw [if_neg g, if_neg g]
          have hca := (hc a ha).1
          rw [if_neg g] at hca
          rw [hca]
          have hca6 := (hc a ha).2
          by_cases d : B ≤ c a
          · rw [if_pos ((pu_lei (by omega) (by omega)).mpr d), if_neg (fun z => by have := (pu_lti (by omega) (by omega)).mp z; omega)]
          · rw [if_neg (fun z => d ((pu_lei (by omega) (by omega)).mp z)), if_pos ((pu_lti (by omega) (by omega)).mpr (by omega))]
      refine ⟨⟨z3, s3, z4, s4, ?_⟩, Ag.good h _ (mrow M 39 r15) v ?_ ?_ ?_ ?_ ?_ ?_ ?_⟩
      · simp only [e_sixpence_ok, if_pos hx1, if_pos hx2.1, if_pos hx2.2]
        rw [ea, en, ia]
        exact ⟨ya, by omega, hlo, trivial⟩
      · simp only [e_sixpence, if_pos hx1, if_pos hx2.1, if_pos hx2.2]
        rw [ea, en, ia, y7]
      · simp only [KO_sixpence, mrow_hit, mrow_miss, ne_eq, Nat.reduceEqDiff, not_false_eq_true, reduceCtorEq, kgo, z4, c4, and_self]
      · simp only [K_sixpence, mrow_hit, mrow_miss, ne_eq, Nat.reduceEqDiff, not_false_eq_true, reduceCtorEq, kg]
        exact hv.symm
      · simp only [K_sixpence, mrow_hit, mrow_miss, ne_eq, Nat.reduceEqDiff, not_false_eq_true, reduceCtorEq, kg]
      · simp only [K_sixpence, mrow_hit, mrow_miss, ne_eq, Nat.reduceEqDiff, not_false_eq_true, reduceCtorEq, kg]
      · simp only [K_sixpence, mrow_hit, mrow_miss, ne_eq, Nat.reduceEqDiff, not_false_eq_true, reduceCtorEq]
      · intro c hc
        simp only [K_sixpence]
        rw [mrow_miss _ _ (scr_ne hc rfl), mrow_miss _ _ (scr_ne hc rfl), mrow_miss _ _ (scr_ne hc rfl), mrow_miss _ _ (scr_ne hc rfl)]
    · obtain ⟨kb, kbo⟩ := bad hx2
      obtain ⟨eb, ebo⟩ := badE hx2
      refine ⟨⟨z3, s3, z4, s4, ebo⟩, Ag.bad1 h (by decide) _ eb ?_ ?_ ?_ ?_ ?_⟩
      · simp only [KO_sixpence, mrow_hit, mrow_miss, ne_eq, Nat.reduceEqDiff, not_false_eq_true, reduceCtorEq, kbo, z4, c4, and_self]
      · simp only [K_sixpence, mrow_hit, mrow_miss, ne_eq, Nat.reduceEqDiff, not_false_eq_true, reduceCtorEq, kb]
      · simp only [K_sixpence, mrow_hit, mrow_miss, ne_eq, Nat.reduceEqDiff, not_false_eq_true, reduceCtorEq, kb]
      · simp only [K_sixpence, mrow_hit, mrow_miss, ne_eq, Nat.reduceEqDiff, not_false_eq_true, reduceCtorEq]
      · intro c hc
        simp only [K_sixpence]
        rw [mrow_miss _ _ (scr_ne hc rfl), mrow_miss _ _ (scr_ne hc rfl), mrow_miss _ _ (scr_ne hc rfl), mrow_miss _ _ (scr_ne hc rfl)]
  · have e1 : k_isFinder (upd (M.1 54) 0 (nI 0)) (M.1 55) nf x1 (nI 1) = (nI 0, upd (upd (M.1 54) 0 (nI 0)) 0 (nI 1), upd (M.1 55) 0 (M.1 55 0 + nI 1)) := isF_f (show nf ≤ 100 by omega) (t0 _) pu_n10 hx1
    refine ⟨⟨z3, s3, z4, s4, by simp only [e_sixpence_ok, if_neg hx1]⟩, Ag.bad0 h (by decide) _ (by simp only [e_sixpence, if_neg hx1]) ?_ ?_ ?_ ?_ ?_⟩
    · simp only [KO_sixpence, k_sixpence_ok, mrow_hit, mrow_miss, ne_eq, Nat.reduceEqDiff, not_false_eq_true, reduceCtorEq, e1, if_pos pu_n01, z4, c4, and_self]
    · simp only [K_sixpence, k_sixpence, mrow_hit, mrow_miss, ne_eq, Nat.reduceEqDiff, not_false_eq_true, reduceCtorEq, e1, if_pos pu_n01]
    · simp only [K_sixpence, k_sixpence, mrow_hit, mrow_miss, ne_eq, Nat.reduceEqDiff, not_false_eq_true, reduceCtorEq, e1, if_pos pu_n01]
    · simp only [K_sixpence, mrow_hit, mrow_miss, ne_eq, Nat.reduceEqDiff, not_false_eq_true, reduceCtorEq]
    · intro c hc
      simp only [K_sixpence]
      rw [mrow_miss _ _ (scr_ne hc rfl), mrow_miss _ _ (scr_ne hc rfl), mrow_miss _ _ (scr_ne hc rfl), mrow_miss _ _ (scr_ne hc rfl)]
