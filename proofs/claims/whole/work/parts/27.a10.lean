/-! a call -/
theorem op_status {np nr nt nf : Nat} {M : Mem} (h : IV np nr nt nf M) (x1 : Int32) : EO_status M x1 ∧ Ag 0 0 (e_status M x1) (fun N => KO_status N x1) (fun N => K_status N x1) := by
  obtain ⟨⟨z1, z2, z3, z4⟩, ⟨s1, s2, s3, s4⟩, ⟨c1, c2, c3, c4⟩, ⟨t1, t2, t3⟩, hL, hDd, hH, hI, hTP, ⟨b1, b2, b3, b4, b5⟩, hBK⟩ := id h
  obtain ⟨hD, -⟩ := id hDd
  have hd := DR_take (s := M.1 72) hD z3 z4
  have q20 : upd (M.1 54) 0 (nI 0) 20 = nI np := by rw [pk_un (by decide)]; exact c1
  have q21 : upd (M.1 54) 0 (nI 0) 21 = nI nr := by rw [pk_un (by decide)]; exact c2
  have q22 : upd (M.1 54) 0 (nI 0) 22 = nI nt := by rw [pk_un (by decide)]; exact c3
  have q23 : upd (M.1 54) 0 (nI 0) 23 = nI nf := by rw [pk_un (by decide)]; exact c4
  have i20 : ix (nI np) = np := pu_ix (by omega)
  have i21 : ix (nI nr) = nr := pu_ix (by omega)
  have i22 : ix (nI nt) = nt := pu_ix (by omega)
  have i23 : ix (nI nf) = nf := pu_ix (by omega)
  have n20 : isN (nI np) := pu_isN (by omega)
  have n21 : isN (nI nr) := pu_isN (by omega)
  have n22 : isN (nI nt) := pu_isN (by omega)
  have n23 : isN (nI nf) := pu_isN (by omega)
  have hz : SZ np nr nt nf := ⟨z1, z2, z3, z4⟩
  refine ⟨trivial, ?_⟩
  have n01 : ∀ {a b : Nat}, a < 100 → b < 100 → (nI a = nI b) = (a = b) := fun ha hb => propext (pu_eqi (by omega) (by omega))
  have n02 : ∀ {a b : Nat}, a < 100 → b < 100 → (nI a ≤ nI b) = (a ≤ b) := fun ha hb => propext (pu_lei (by omega) (by omega))
  have n03 : ∀ {a : Nat}, a < 100 → (nI a = 0) = (a = 0) := fun ha => propext (by rw [← nI_0]; exact pu_eqi (by omega) (by omega))
  have key : ∀ (v : Int32), e_status M x1 = .inl (some (.int v), M) → KO_status (M) x1 → (K_status (M) x1).1 = v → Ag 0 0 (e_status M x1) (fun N => KO_status N x1) (fun N => K_status N x1) := by
    intro v e1 e0 e2
    refine Ag.good h _ (M) v e1 e0 e2 ?_ ?_ ?_ ?_
    · simp only [K_status, k_status, mrow_hit, mrow_miss, ne_eq, Nat.reduceEqDiff, not_false_eq_true, reduceCtorEq, if_neg pu_n10, if_neg pu_n20, q20, q21, q22, q23, i20, i21, i22, i23, n20, n21, n22, n23]
      repeat' split
      all_goals rfl
    · simp only [K_status, k_status, mrow_hit, mrow_miss, ne_eq, Nat.reduceEqDiff, not_false_eq_true, reduceCtorEq, if_neg pu_n10, if_neg pu_n20, q20, q21, q22, q23, i20, i21, i22, i23, n20, n21, n22, n23]
      repeat' split
      all_goals rfl
    · simp only [K_status, mrow_hit, mrow_miss, ne_eq, Nat.reduceEqDiff, not_false_eq_true, reduceCtorEq]
    · intro c hc
      simp only [K_status]
      rw [mrow_miss _ _ (scr_ne hc rfl)]
  by_cases hx : ¬ x1 < nI 0 ∧ x1 ≤ nI 1
  · obtain ⟨k, hk, rfl⟩ := pu_le2 (n := 1) (by omega) (by rw [← nI_0]; exact hx.1) hx.2
    have hk9 : k = 0 ∨ k = 1 := by omega
    have hko : KO_status M (nI k) := by
      simp only [KO_status, k_status_ok, wi_t hx, if_neg pu_n10, true_and, and_true]
      exact ⟨pu_isN (by omega), by rw [pu_ix (by omega)]; omega⟩
    rcases hk9 with rfl | rfl
    · exact key _ (by simp only [e_status, if_pos pu_n01]; rfl) hko (by simp only [K_status, k_status, wi_t hx, if_neg pu_n10, pu_ix (show 0 < 2147483648 by omega)]; exact b4.symm)
    · exact key _ (by simp only [e_status, if_neg pu_n10, ↓reduceIte]; rfl) hko (by simp only [K_status, k_status, wi_t hx, if_neg pu_n10, pu_ix (show 1 < 2147483648 by omega)]; exact b5.symm)
  · have g0 : ¬ x1 = 0 := fun e => hx (by rw [e]; decide)
    have g1 : ¬ x1 = nI 1 := fun e => hx (by rw [e]; decide)
    exact key _ (by simp only [e_status, if_neg g0, if_neg g1]; rfl) (by simp only [KO_status, k_status_ok, wi_f hx, if_pos pu_n01, and_self]) (by simp only [K_status, k_status, wi_f hx, if_pos pu_n01])
