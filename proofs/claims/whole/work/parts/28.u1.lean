/-! taking back, keeping, restoring -/
theorem op_undo {np nr nt nf : Nat} {M : Mem} (h : IV np nr nt nf M) : EO_undo M ∧ Ag 0 0 (e_undo M) (fun N => KO_undo N) (fun N => K_undo N) := by
  obtain ⟨⟨z1, z2, z3, z4⟩, hs, hcc, ht, hL, hD, hH, hI, hTP, ⟨b1, b2, b3, b4, b5⟩, hBK⟩ := id h
  obtain ⟨n, n1, n2, n3, n4⟩ := id hH
  obtain ⟨m, m1, m2, m3, m4⟩ := id hI
  rcases Nat.eq_zero_or_pos n with e0 | hp
  · rw [e0] at n2 n3
    have f : ¬ (0 : Int32) < M.1 43 0 := by rw [n2]; decide
    have g : M.1 54 35 = 0 := by rw [n3]; exact nI_0
    refine ⟨⟨by simp only [h_takeWorkBack_ok, if_neg f], trivial⟩, Or.inl ⟨-1, mrow (mrow M 38 (M.1 38)) 43 (M.1 43), ?_, ?_, ?_, ?_, np, nr, nt, nf, ?_⟩⟩
    · simp only [e_undo, h_takeWorkBack, if_neg f, if_pos pu_n01]
    · simp only [KO_undo, k_undo_ok, mrow_hit, mrow_miss, ne_eq, Nat.reduceEqDiff, not_false_eq_true, reduceCtorEq, if_pos g]
    · simp only [K_undo, k_undo, mrow_hit, mrow_miss, ne_eq, Nat.reduceEqDiff, not_false_eq_true, reduceCtorEq, if_pos g]
    · simp only [K_undo, k_undo, mrow_hit, mrow_miss, ne_eq, Nat.reduceEqDiff, not_false_eq_true, reduceCtorEq, if_pos g, pk_us]
    · skip
      refine h.put (N := _) (fun c hc => ?_) (fun j hj => ?_) ?_ ?_ ?_ ?_ ?_ ?_
      · simp only [K_undo]
        rw [mrow_miss _ _ (tw_ne hc rfl), mrow_miss _ _ (tw_ne hc rfl), mrow_miss _ _ (tw_ne hc rfl), mrow_miss _ _ (tw_ne hc rfl)]
      · simp only [K_undo, k_undo, if_pos g, mrow_hit, mrow_miss, ne_eq, Nat.reduceEqDiff, not_false_eq_true, reduceCtorEq]
        rw [pk_un (t54_ne hj rfl)]
      · simp only [K_undo, k_undo, if_pos g, mrow_hit, mrow_miss, ne_eq, Nat.reduceEqDiff, not_false_eq_true, reduceCtorEq, pk_us, pk_un]
        exact hD
      · simp only [K_undo, k_undo, if_pos g, mrow_hit, mrow_miss, ne_eq, Nat.reduceEqDiff, not_false_eq_true, reduceCtorEq, pk_us, pk_un]
        exact hH
      · simp only [K_undo, k_undo, if_pos g, mrow_hit, mrow_miss, ne_eq, Nat.reduceEqDiff, not_false_eq_true, reduceCtorEq, pk_us, pk_un]
        exact hI
      · simp only [K_undo, k_undo, if_pos g, mrow_hit, mrow_miss, ne_eq, Nat.reduceEqDiff, not_false_eq_true, reduceCtorEq, pk_us, pk_un]
        exact hTP
      · simp only [K_undo, k_undo, if_pos g, mrow_hit, mrow_miss, ne_eq, Nat.reduceEqDiff, not_false_eq_true, reduceCtorEq, pk_us, pk_un]
        exact ⟨b1, b2, b3, b4, b5⟩
      · simp only [K_undo, k_undo, if_pos g, mrow_hit, mrow_miss, ne_eq, Nat.reduceEqDiff, not_false_eq_true, reduceCtorEq, pk_us, pk_un]
        exact hBK
  · obtain ⟨k, rfl⟩ : ∃ k, n = k + 1 := ⟨n - 1, by omega⟩
    have f : (0 : Int32) < nI (k + 1) := by rw [← nI_0]; exact (pu_lti (by omega) (by omega)).mpr (by omega)
    have g : ¬ nI (k + 1) = 0 := by rw [← nI_0, pu_eqi (by omega) (by omega)]; omega
    have s1 : nI (k + 1) - nI 1 = nI k := pk_sub (by omega)
    have ik : ix (nI k) = k := pu_ix (by omega)
    have yk : isN (nI k) := pu_isN (by omega)
    have hn := n4 k (by omega)
    refine ⟨⟨by simp only [h_takeWorkBack_ok, if_pos f, n2, s1, ik]; exact ⟨yk, by omega, trivial⟩, trivial⟩, Or.inl ⟨nI k, mrow (mrow (mrow M 0 (upd (M.1 0) 14 (nI 0))) 38 (va_cpy (M.1 44) (M.1 38) (k * 51) 0 51)) 43 (upd (M.1 43) 0 (nI k)), ?_, ?_, ?_, ?_, np, nr, nt, nf, ?_⟩⟩
    · simp only [e_undo, h_takeWorkBack, if_pos f, if_neg pu_n10, n2, s1, ik, pk_us]
    · simp only [KO_undo, k_undo_ok, mrow_hit, mrow_miss, ne_eq, Nat.reduceEqDiff, not_false_eq_true, reduceCtorEq, if_neg g, n3, s1]
      refine ⟨fun i hi => ?_, trivial⟩
      rw [cN_eq] at hi
      simp only [k_undo_26_ok, pk_us, n3, s1, ik]
      exact ⟨yk, by omega, trivial⟩
    · simp only [K_undo, k_undo, mrow_hit, mrow_miss, ne_eq, Nat.reduceEqDiff, not_false_eq_true, reduceCtorEq, if_neg g, n3, s1]
    · simp only [K_undo, k_undo, mrow_hit, mrow_miss, ne_eq, Nat.reduceEqDiff, not_false_eq_true, reduceCtorEq, pk_us, pk_un, if_neg g, n3, s1]
    · skip
      refine h.put (N := _) (fun c hc => ?_) (fun j hj => ?_) ?_ ?_ ?_ ?_ ?_ ?_
      · simp only [K_undo]
        rw [mrow_miss _ _ (tw_ne hc rfl), mrow_miss _ _ (tw_ne hc rfl), mrow_miss _ _ (tw_ne hc rfl), mrow_miss _ _ (tw_ne hc rfl), mrow_miss _ _ (tw_ne hc rfl)]
      · simp only [K_undo, k_undo, if_neg g, n3, s1, mrow_hit, mrow_miss, ne_eq, Nat.reduceEqDiff, not_false_eq_true, reduceCtorEq]
        rw [pk_un (t54_ne hj rfl), pk_un (t54_ne hj rfl), pk_un (t54_ne hj rfl)]
      · simp only [K_undo, k_undo, if_neg g, n3, s1, mrow_hit, mrow_miss, ne_eq, Nat.reduceEqDiff, not_false_eq_true, reduceCtorEq, pk_us, pk_un]
        refine DRd_cg hn z3 z4 (fun j hj => ?_) (fun j hj => ?_)
        · show _ = M.1 44 (k * 51 + j)
          rw [pk_cpy_in (show 0 ≤ j by omega) (show j < 0 + 51 by omega), Nat.sub_zero]
        · show _ = M.1 73 (51 * k + j)
          rw [cN_eq, un26 _ _ _ 51 j hj, pk_us, ik]
      · simp only [K_undo, k_undo, if_neg g, n3, s1, mrow_hit, mrow_miss, ne_eq, Nat.reduceEqDiff, not_false_eq_true, reduceCtorEq, pk_us, pk_un]
        exact ⟨k, by omega, rfl, rfl, fun w hw => n4 w (by omega)⟩
      · simp only [K_undo, k_undo, if_neg g, n3, s1, mrow_hit, mrow_miss, ne_eq, Nat.reduceEqDiff, not_false_eq_true, reduceCtorEq, pk_us, pk_un]
        exact hI
      · simp only [K_undo, k_undo, if_neg g, n3, s1, mrow_hit, mrow_miss, ne_eq, Nat.reduceEqDiff, not_false_eq_true, reduceCtorEq, pk_us, pk_un]
        exact hTP
      · simp only [K_undo, k_undo, if_neg g, n3, s1, mrow_hit, mrow_miss, ne_eq, Nat.reduceEqDiff, not_false_eq_true, reduceCtorEq, pk_us, pk_un]
        exact ⟨b1, b2, trivial, b4, b5⟩
      · simp only [K_undo, k_undo, if_neg g, n3, s1, mrow_hit, mrow_miss, ne_eq, Nat.reduceEqDiff, not_false_eq_true, reduceCtorEq, pk_us, pk_un]
        exact hBK
