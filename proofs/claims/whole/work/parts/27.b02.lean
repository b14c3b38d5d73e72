/-! a call -/
theorem op_empty {np nr nt nf : Nat} {M : Mem} (h : IV np nr nt nf M) : EO_empty M np nt nf ∧ Ag 0 0 (e_empty M np nt nf) (fun N => KO_empty N np nt nf) (fun N => K_empty N np nt nf) := by
  obtain ⟨⟨z1, z2, z3, z4⟩, ⟨s1, s2, s3, s4⟩, ⟨c1, c2, c3, c4⟩, ⟨t1, t2, t3⟩, hL, hDd, hH, hI, hTP, ⟨b1, b2, b3, b4, b5⟩, hBK⟩ := id h
  obtain ⟨hD, -⟩ := id hDd
  have hd := DR_take (s := M.1 72) hD z3 z4
  have q20 : upd (M.1 54) 0 (nI 0) 20 = nI np := by rw [pk_un (by decide)]; exact c1
  have q21 : upd (M.1 54) 0 (nI 0) 21 = nI nr := by rw [pk_un (by decide)]; exact c2
  have q22 : upd (M.1 54) 0 (nI 0) 22 = nI nt := by rw [pk_un (by decide)]; exact c3
  have q23 : upd (M.1 54) 0 (nI 0) 23 = nI nf := by rw [pk_un (by decide)]; exact c4
  have i20 : ix (nI np) = np := pu_ix (by omega)
  have i21 : ix (nI nr) = nr := pu_ix (by omega)
  have i22 : ix (nI nt) = nt := pu_ix (by omega)
  have i23 : ix (nI nf) = nf := pu_ix (by omega)
  have n20 : isN (nI np) := pu_isN (by omega)
  have n21 : isN (nI nr) := pu_isN (by omega)
  have n22 : isN (nI nt) := pu_isN (by omega)
  have n23 : isN (nI nf) := pu_isN (by omega)
  have hz : SZ np nr nt nf := ⟨z1, z2, z3, z4⟩
  refine ⟨⟨z1, s1, z3, s3, z4, s4⟩, ?_⟩
  have key : ∀ (v : Int32), e_empty M np nt nf = .inl (some (.int v), M) → KO_empty (M) np nt nf → (K_empty (M) np nt nf).1 = v → Ag 0 0 (e_empty M np nt nf) (fun N => KO_empty N np nt nf) (fun N => K_empty N np nt nf) := by
    intro v e1 e0 e2
    refine Ag.good h _ (M) v e1 e0 e2 ?_ ?_ ?_ ?_
    · simp only [K_empty, k_empty, mrow_hit, mrow_miss, ne_eq, Nat.reduceEqDiff, not_false_eq_true, reduceCtorEq, if_neg pu_n10, if_neg pu_n20, q20, q21, q22, q23, i20, i21, i22, i23, n20, n21, n22, n23]
      repeat' split
      all_goals rfl
    · simp only [K_empty, k_empty, mrow_hit, mrow_miss, ne_eq, Nat.reduceEqDiff, not_false_eq_true, reduceCtorEq, if_neg pu_n10, if_neg pu_n20, q20, q21, q22, q23, i20, i21, i22, i23, n20, n21, n22, n23]
      repeat' split
      all_goals rfl
    · simp only [K_empty, mrow_hit, mrow_miss, ne_eq, Nat.reduceEqDiff, not_false_eq_true, reduceCtorEq]
    · intro c hc
      simp only [K_empty]
      rw [mrow_miss _ _ (scr_ne hc rfl), mrow_miss _ _ (scr_ne hc rfl)]
  exact key _ rfl ⟨z1, c1, z3, c3, z4, c4, take_ok _ _, trivial⟩ (by simp only [K_empty, k_empty]; exact em_eq hd z1 z3 z4)
