/-! taking back, keeping, restoring -/
theorem op_restore {np nr nt nf : Nat} {M : Mem} (h : IV np nr nt nf M) : EO_restore M ∧ Ag 0 0 (e_restore M) (fun N => KO_restore N) (fun N => K_restore N) := by
  obtain ⟨⟨z1, z2, z3, z4⟩, hs, hcc, ht, hL, hD, hH, hI, hTP, ⟨b1, b2, b3, b4, b5⟩, hBK⟩ := id h
  obtain ⟨n, n1, n2, n3, n4⟩ := id hH
  obtain ⟨m, m1, m2, m3, m4⟩ := id hI
  rcases Nat.eq_zero_or_pos m with e0 | hp
  · rw [e0] at m2 m3
    have f : ¬ (0 : Int32) < M.1 43 1 := by rw [m2]; decide
    have g : M.1 54 51 = 0 := by rw [m3]; exact nI_0
    refine ⟨⟨by simp only [h_takeImageBack_ok, if_neg f], trivial⟩, Or.inl ⟨-1, mrow (mrow (mrow M 38 (M.1 38)) 43 (M.1 43)) 44 (M.1 44), ?_, ?_, ?_, ?_, np, nr, nt, nf, ?_⟩⟩
    · simp only [e_restore, h_takeImageBack, if_neg f, if_pos pu_n01]
    · simp only [KO_restore, k_restore_ok, mrow_hit, mrow_miss, ne_eq, Nat.reduceEqDiff, not_false_eq_true, reduceCtorEq, if_pos g]
    · simp only [K_restore, k_restore, mrow_hit, mrow_miss, ne_eq, Nat.reduceEqDiff, not_false_eq_true, reduceCtorEq, if_pos g]
    · simp only [K_restore, k_restore, mrow_hit, mrow_miss, ne_eq, Nat.reduceEqDiff, not_false_eq_true, reduceCtorEq, if_pos g, pk_us]
    · skip
      refine h.put (N := _) (fun c hc => ?_) (fun j hj => ?_) ?_ ?_ ?_ ?_ ?_ ?_
      · simp only [K_restore]
        rw [mrow_miss _ _ (tw_ne hc rfl), mrow_miss _ _ (tw_ne hc rfl), mrow_miss _ _ (tw_ne hc rfl), mrow_miss _ _ (tw_ne hc rfl), mrow_miss _ _ (tw_ne hc rfl), mrow_miss _ _ (tw_ne hc rfl), mrow_miss _ _ (tw_ne hc rfl)]
      · simp only [K_restore, k_restore, if_pos g, mrow_hit, mrow_miss, ne_eq, Nat.reduceEqDiff, not_false_eq_true, reduceCtorEq]
        rw [pk_un (t54_ne hj rfl)]
      · simp only [K_restore, k_restore, if_pos g, mrow_hit, mrow_miss, ne_eq, Nat.reduceEqDiff, not_false_eq_true, reduceCtorEq, pk_us, pk_un]
        exact hD
      · simp only [K_restore, k_restore, if_pos g, mrow_hit, mrow_miss, ne_eq, Nat.reduceEqDiff, not_false_eq_true, reduceCtorEq, pk_us, pk_un]
        exact hH
      · simp only [K_restore, k_restore, if_pos g, mrow_hit, mrow_miss, ne_eq, Nat.reduceEqDiff, not_false_eq_true, reduceCtorEq, pk_us, pk_un]
        exact hI
      · simp only [K_restore, k_restore, if_pos g, mrow_hit, mrow_miss, ne_eq, Nat.reduceEqDiff, not_false_eq_true, reduceCtorEq, pk_us, pk_un]
        exact hTP
      · simp only [K_restore, k_restore, if_pos g, mrow_hit, mrow_miss, ne_eq, Nat.reduceEqDiff, not_false_eq_true, reduceCtorEq, pk_us, pk_un]
        exact ⟨b1, b2, b3, b4, b5⟩
      · simp only [K_restore, k_restore, if_pos g, mrow_hit, mrow_miss, ne_eq, Nat.reduceEqDiff, not_false_eq_true, reduceCtorEq, pk_us, pk_un]
        exact hBK
  · obtain ⟨k, rfl⟩ : ∃ k, m = k + 1 := ⟨m - 1, by omega⟩
    have f : (0 : Int32) < nI (k + 1) := by rw [← nI_0]; exact (pu_lti (by omega) (by omega)).mpr (by omega)
    have g : ¬ nI (k + 1) = 0 := by rw [← nI_0, pu_eqi (by omega) (by omega)]; omega
    have s1 : nI (k + 1) - nI 1 = nI k := pk_sub (by omega)
    have ik : ix (nI k) = k := pu_ix (by omega)
    have yk : isN (nI k) := pu_isN (by omega)
    obtain ⟨p1, q, p2, p3, p4, p5⟩ := m4 k (by omega)
    have iq : ix (nI q) = q := pu_ix (by omega)
    have yq : isN (nI q) := pu_isN (by omega)
    obtain ⟨k1, N, P, k2, k3, k4⟩ := ka0 (upd (upd (M.1 54) 0 (nI 0)) 51 (nI k)) (M.1 71) (M.1 73) (M.1 79) (show k < 3 by omega)
    rw [p4] at k2
    refine ⟨⟨by simp only [h_takeImageBack_ok, if_pos f, m2, s1, ik, p3, iq]; exact ⟨yk, by omega, by omega, yq, by omega, by omega, trivial⟩, trivial⟩, Or.inl ⟨nI k, mrow (mrow (mrow (mrow M 0 (upd (M.1 0) 14 (nI 0))) 38 (va_cpy (M.1 45) (M.1 38) (k * 867) 0 51)) 43 (upd (upd (M.1 43) 1 (nI k)) 0 (nI q))) 44 (va_cpy (M.1 45) (M.1 44) (k * 867 + 51) 0 (q * 51)), ?_, ?_, ?_, ?_, np, nr, nt, nf, ?_⟩⟩
    · simp only [e_restore, h_takeImageBack, if_pos f, if_neg pu_n10, m2, s1, ik, p3, iq, mrow_hit, mrow_miss, ne_eq, Nat.reduceEqDiff, not_false_eq_true, reduceCtorEq, pk_us, pk_un]
    · simp only [KO_restore, k_restore_ok, mrow_hit, mrow_miss, ne_eq, Nat.reduceEqDiff, not_false_eq_true, reduceCtorEq, if_neg g, m3, s1, ik]
      exact ⟨yk, by omega, k1, trivial⟩
    · simp only [K_restore, k_restore, mrow_hit, mrow_miss, ne_eq, Nat.reduceEqDiff, not_false_eq_true, reduceCtorEq, pk_us, pk_un, if_neg g, m3, s1, ik, k2]
    · simp only [K_restore, k_restore, mrow_hit, mrow_miss, ne_eq, Nat.reduceEqDiff, not_false_eq_true, reduceCtorEq, pk_us, pk_un, if_neg g, m3, s1, ik, k2]
    · skip
      refine h.put (N := _) (fun c hc => ?_) (fun j hj => ?_) ?_ ?_ ?_ ?_ ?_ ?_
      · simp only [K_restore]
        rw [mrow_miss _ _ (tw_ne hc rfl), mrow_miss _ _ (tw_ne hc rfl), mrow_miss _ _ (tw_ne hc rfl), mrow_miss _ _ (tw_ne hc rfl), mrow_miss _ _ (tw_ne hc rfl), mrow_miss _ _ (tw_ne hc rfl), mrow_miss _ _ (tw_ne hc rfl), mrow_miss _ _ (tw_ne hc rfl)]
      · simp only [K_restore, k_restore, if_neg g, m3, s1, ik, k2, mrow_hit, mrow_miss, ne_eq, Nat.reduceEqDiff, not_false_eq_true, reduceCtorEq]
        rw [pk_un (t54_ne hj rfl), pk_un (t54_ne hj rfl), pk_un (t54_ne hj rfl), pk_un (t54_ne hj rfl)]
      · simp only [K_restore, k_restore, if_neg g, m3, s1, ik, k2, mrow_hit, mrow_miss, ne_eq, Nat.reduceEqDiff, not_false_eq_true, reduceCtorEq, pk_us, pk_un]
        refine DRd_cg p1 z3 z4 (fun j hj => ?_) (fun j hj => k3 j hj)
        show _ = M.1 45 (k * 867 + j)
        rw [pk_cpy_in (show 0 ≤ j by omega) (show j < 0 + 51 by omega), Nat.sub_zero]
      · simp only [K_restore, k_restore, if_neg g, m3, s1, ik, k2, mrow_hit, mrow_miss, ne_eq, Nat.reduceEqDiff, not_false_eq_true, reduceCtorEq, pk_us, pk_un]
        refine ⟨q, p2, rfl, rfl, fun w hw => DRd_cg (p5 w hw) z3 z4 (fun j hj => ?_) (fun j hj => ?_)⟩
        · show va_cpy (M.1 45) (M.1 44) (k * 867 + 51) 0 (q * 51) (w * 51 + j) = M.1 45 (k * 867 + 51 + (w * 51 + j))
          rw [pk_cpy_in (show 0 ≤ w * 51 + j by omega) (show w * 51 + j < 0 + q * 51 by omega), Nat.sub_zero]
        · exact k4 _ (by omega)
      · simp only [K_restore, k_restore, if_neg g, m3, s1, ik, k2, mrow_hit, mrow_miss, ne_eq, Nat.reduceEqDiff, not_false_eq_true, reduceCtorEq, pk_us, pk_un]
        exact ⟨k, by omega, rfl, rfl, fun w hw => m4 w (by omega)⟩
      · simp only [K_restore, k_restore, if_neg g, m3, s1, ik, k2, mrow_hit, mrow_miss, ne_eq, Nat.reduceEqDiff, not_false_eq_true, reduceCtorEq, pk_us, pk_un]
        exact hTP
      · simp only [K_restore, k_restore, if_neg g, m3, s1, ik, k2, mrow_hit, mrow_miss, ne_eq, Nat.reduceEqDiff, not_false_eq_true, reduceCtorEq, pk_us, pk_un]
        exact ⟨b1, b2, trivial, b4, b5⟩
      · simp only [K_restore, k_restore, if_neg g, m3, s1, ik, k2, mrow_hit, mrow_miss, ne_eq, Nat.reduceEqDiff, not_false_eq_true, reduceCtorEq, pk_us, pk_un]
        exact hBK
