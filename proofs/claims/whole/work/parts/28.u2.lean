/-! taking back, keeping, restoring -/
theorem op_image {np nr nt nf : Nat} {M : Mem} (h : IV np nr nt nf M) : EO_image M ∧ Ag 0 0 (e_image M) (fun N => KO_image N) (fun N => K_image N) := by
  obtain ⟨⟨z1, z2, z3, z4⟩, hs, hcc, ht, hL, hD, hH, hI, hTP, ⟨b1, b2, b3, b4, b5⟩, hBK⟩ := id h
  obtain ⟨n, n1, n2, n3, n4⟩ := id hH
  obtain ⟨m, m1, m2, m3, m4⟩ := id hI
  have im : ix (nI m) = m := pu_ix (by omega)
  have ym : isN (nI m) := pu_isN (by omega)
  have i0 : ix (nI n) = n := pu_ix (by omega)
  have y0 : isN (nI n) := pu_isN (by omega)
  by_cases c : m = 3
  · have f : ¬ M.1 43 1 < nI 3 := by rw [m2, c]; decide
    have g : M.1 54 51 = nI 3 := by rw [m3, c]
    refine ⟨⟨by simp only [h_keepImage_ok, if_neg f], trivial⟩, Or.inl ⟨-1, mrow (mrow (mrow M 43 (M.1 43)) 45 (M.1 45)) 46 (M.1 46), ?_, ?_, ?_, ?_, np, nr, nt, nf, ?_⟩⟩
    · simp only [e_image, h_keepImage, if_neg f, if_pos pu_n01]
    · simp only [KO_image, k_image_ok, mrow_hit, mrow_miss, ne_eq, Nat.reduceEqDiff, not_false_eq_true, reduceCtorEq, if_pos g]
    · simp only [K_image, k_image, mrow_hit, mrow_miss, ne_eq, Nat.reduceEqDiff, not_false_eq_true, reduceCtorEq, if_pos g]
    · simp only [K_image, k_image, mrow_hit, mrow_miss, ne_eq, Nat.reduceEqDiff, not_false_eq_true, reduceCtorEq, if_pos g, pk_us]
    · skip
      refine h.put (N := _) (fun c hc => ?_) (fun j hj => ?_) ?_ ?_ ?_ ?_ ?_ ?_
      · simp only [K_image]
        rw [mrow_miss _ _ (tw_ne hc rfl), mrow_miss _ _ (tw_ne hc rfl), mrow_miss _ _ (tw_ne hc rfl), mrow_miss _ _ (tw_ne hc rfl), mrow_miss _ _ (tw_ne hc rfl), mrow_miss _ _ (tw_ne hc rfl), mrow_miss _ _ (tw_ne hc rfl)]
      · simp only [K_image, k_image, if_pos g, mrow_hit, mrow_miss, ne_eq, Nat.reduceEqDiff, not_false_eq_true, reduceCtorEq]
        rw [pk_un (t54_ne hj rfl)]
      · simp only [K_image, k_image, if_pos g, mrow_hit, mrow_miss, ne_eq, Nat.reduceEqDiff, not_false_eq_true, reduceCtorEq, pk_us, pk_un]
        exact hD
      · simp only [K_image, k_image, if_pos g, mrow_hit, mrow_miss, ne_eq, Nat.reduceEqDiff, not_false_eq_true, reduceCtorEq, pk_us, pk_un]
        exact hH
      · simp only [K_image, k_image, if_pos g, mrow_hit, mrow_miss, ne_eq, Nat.reduceEqDiff, not_false_eq_true, reduceCtorEq, pk_us, pk_un]
        exact hI
      · simp only [K_image, k_image, if_pos g, mrow_hit, mrow_miss, ne_eq, Nat.reduceEqDiff, not_false_eq_true, reduceCtorEq, pk_us, pk_un]
        exact hTP
      · simp only [K_image, k_image, if_pos g, mrow_hit, mrow_miss, ne_eq, Nat.reduceEqDiff, not_false_eq_true, reduceCtorEq, pk_us, pk_un]
        exact ⟨b1, b2, b3, b4, b5⟩
      · simp only [K_image, k_image, if_pos g, mrow_hit, mrow_miss, ne_eq, Nat.reduceEqDiff, not_false_eq_true, reduceCtorEq, pk_us, pk_un]
        exact hBK
  · have f : nI m < nI 3 := by exact (pu_lti (by omega) (by omega)).mpr (by omega)
    have g : ¬ nI m = nI 3 := by rw [pu_eqi (by omega) (by omega)]; exact c
    obtain ⟨k1, Z, k2, k3, k4, k5, k6⟩ := ka1 (upd (M.1 54) 0 (nI 0)) (M.1 71) (M.1 73) (M.1 79) (show m < 3 by omega)
    rw [pk_un (by decide), n3] at k5
    refine ⟨⟨by simp only [h_keepImage_ok, if_pos f, m2, n2, im, i0]; exact ⟨ym, by omega, y0, by omega, by omega, by omega, trivial⟩, trivial⟩, Or.inl ⟨nI (m + 1), mrow (mrow (mrow M 43 (upd (M.1 43) 1 (nI (m + 1)))) 45 (va_cpy (M.1 44) (va_cpy (M.1 38) (M.1 45) 0 (m * 867) 51) 0 (m * 867 + 51) (n * 51))) 46 (upd (M.1 46) m (nI n)), ?_, ?_, ?_, ?_, np, nr, nt, nf, ?_⟩⟩
    · simp only [e_image, h_keepImage, if_pos f, if_neg pu_n10, m2, n2, im, i0, nI_add, pk_us]
    · simp only [KO_image, k_image_ok, mrow_hit, mrow_miss, ne_eq, Nat.reduceEqDiff, not_false_eq_true, reduceCtorEq, if_neg g, m3, im]
      exact ⟨ym, by omega, k1, trivial⟩
    · simp only [K_image, k_image, mrow_hit, mrow_miss, ne_eq, Nat.reduceEqDiff, not_false_eq_true, reduceCtorEq, pk_us, pk_un, if_neg g, m3, im, k2, nI_add]
    · simp only [K_image, k_image, mrow_hit, mrow_miss, ne_eq, Nat.reduceEqDiff, not_false_eq_true, reduceCtorEq, pk_us, pk_un, if_neg g, m3, im, k2, nI_add]
    · skip
      refine h.put (N := _) (fun c hc => ?_) (fun j hj => ?_) ?_ ?_ ?_ ?_ ?_ ?_
      · simp only [K_image]
        rw [mrow_miss _ _ (tw_ne hc rfl), mrow_miss _ _ (tw_ne hc rfl), mrow_miss _ _ (tw_ne hc rfl), mrow_miss _ _ (tw_ne hc rfl), mrow_miss _ _ (tw_ne hc rfl), mrow_miss _ _ (tw_ne hc rfl), mrow_miss _ _ (tw_ne hc rfl)]
      · simp only [K_image, k_image, if_neg g, m3, im, k2, nI_add, mrow_hit, mrow_miss, ne_eq, Nat.reduceEqDiff, not_false_eq_true, reduceCtorEq]
        rw [pk_un (t54_ne hj rfl), pk_un (t54_ne hj rfl)]
      · simp only [K_image, k_image, if_neg g, m3, im, k2, nI_add, mrow_hit, mrow_miss, ne_eq, Nat.reduceEqDiff, not_false_eq_true, reduceCtorEq, pk_us, pk_un]
        exact hD
      · simp only [K_image, k_image, if_neg g, m3, im, k2, nI_add, mrow_hit, mrow_miss, ne_eq, Nat.reduceEqDiff, not_false_eq_true, reduceCtorEq, pk_us, pk_un]
        exact hH
      · simp only [K_image, k_image, if_neg g, m3, im, k2, nI_add, mrow_hit, mrow_miss, ne_eq, Nat.reduceEqDiff, not_false_eq_true, reduceCtorEq, pk_us, pk_un]
        refine ⟨m + 1, by omega, rfl, rfl, fun w hw => ?_⟩
        by_cases e : w = m
        · rw [e, pk_us, k5]
          refine ⟨DRd_cg hD z3 z4 (fun j hj => ?_) (fun j hj => k3 j hj), n, n1, rfl, rfl, fun w hw => DRd_cg (n4 w hw) z3 z4 (fun j hj => ?_) (fun j hj => ?_)⟩
          · show va_cpy (M.1 44) (va_cpy (M.1 38) (M.1 45) 0 (m * 867) 51) 0 (m * 867 + 51) (n * 51) (m * 867 + j) = _
            rw [pk_cpy_out (show m * 867 + j < m * 867 + 51 ∨ m * 867 + 51 + n * 51 ≤ m * 867 + j by omega), pk_cpy_in (show m * 867 ≤ m * 867 + j by omega) (show m * 867 + j < m * 867 + 51 by omega), show 0 + (m * 867 + j - m * 867) = j by omega]
          · show va_cpy (M.1 44) (va_cpy (M.1 38) (M.1 45) 0 (m * 867) 51) 0 (m * 867 + 51) (n * 51) (m * 867 + 51 + (w * 51 + j)) = M.1 44 (w * 51 + j)
            rw [pk_cpy_in (show m * 867 + 51 ≤ m * 867 + 51 + (w * 51 + j) by omega) (show m * 867 + 51 + (w * 51 + j) < m * 867 + 51 + n * 51 by omega), show 0 + (m * 867 + 51 + (w * 51 + j) - (m * 867 + 51)) = w * 51 + j by omega]
          · show Z (868 * m + 51 + (51 * w + j)) = M.1 73 (51 * w + j)
            exact k4 _ (by omega)
        · obtain ⟨p1, q, p2, p3, p4, p5⟩ := m4 w (by omega)
          have hA : ∀ i, i < 867 → va_cpy (M.1 44) (va_cpy (M.1 38) (M.1 45) 0 (m * 867) 51) 0 (m * 867 + 51) (n * 51) (w * 867 + i) = M.1 45 (w * 867 + i) := by
            intro i hi
            rw [pk_cpy_out (show w * 867 + i < m * 867 + 51 ∨ m * 867 + 51 + n * 51 ≤ w * 867 + i by omega), pk_cpy_out (show w * 867 + i < m * 867 ∨ m * 867 + 51 ≤ w * 867 + i by omega)]
          rw [pk_un e, k6 (868 * w + 867) (by omega)]
          refine ⟨DRd_cg p1 z3 z4 (fun j hj => hA j (by omega)) (fun j hj => k6 _ (by omega)), q, p2, p3, p4, fun v hv => DRd_cg (p5 v hv) z3 z4 (fun j hj => ?_) (fun j hj => k6 _ (by omega))⟩
          show va_cpy (M.1 44) (va_cpy (M.1 38) (M.1 45) 0 (m * 867) 51) 0 (m * 867 + 51) (n * 51) (w * 867 + 51 + (v * 51 + j)) = M.1 45 (w * 867 + 51 + (v * 51 + j))
          rw [Nat.add_assoc]
          exact hA _ (by omega)
      · simp only [K_image, k_image, if_neg g, m3, im, k2, nI_add, mrow_hit, mrow_miss, ne_eq, Nat.reduceEqDiff, not_false_eq_true, reduceCtorEq, pk_us, pk_un]
        exact hTP
      · simp only [K_image, k_image, if_neg g, m3, im, k2, nI_add, mrow_hit, mrow_miss, ne_eq, Nat.reduceEqDiff, not_false_eq_true, reduceCtorEq, pk_us, pk_un]
        exact ⟨b1, b2, b3, b4, b5⟩
      · simp only [K_image, k_image, if_neg g, m3, im, k2, nI_add, mrow_hit, mrow_miss, ne_eq, Nat.reduceEqDiff, not_false_eq_true, reduceCtorEq, pk_us, pk_un]
        exact hBK
