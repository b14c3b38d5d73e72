/-! calls: a few more questions -/
theorem tk_f10 (v w : Int32) : ∀ k s y, o_firstRest_10 v w 4 k s = .inl y → y = 0 ∨ y = 1 ∨ y = 10 ∨ y = 11
  | 0, s, y, h => by simp only [o_firstRest_10, reduceCtorEq] at h
  | k + 1, s, y, h => by
    simp only [o_firstRest_10] at h
    split at h
    · simp only [reduceCtorEq] at h
    · split at h
      · exact tk_f10 v w k _ y h
      · have e : dds (ix s) = y := Sum.inl.inj h
        rw [← e]
        unfold dds
        split
        · exact Or.inl rfl
        · exact Or.inr (Or.inl rfl)
        · exact Or.inr (Or.inr (Or.inl rfl))
        · exact Or.inr (Or.inr (Or.inr rfl))
theorem tk_f (v w : Int32) : o_firstRest v w = -1 ∨ ((o_firstRest v w / nI 10 = nI 0 ∨ o_firstRest v w / nI 10 = nI 1) ∧ (o_firstRest v w - o_firstRest v w / nI 10 * nI 10 = nI 0 ∨ o_firstRest v w - o_firstRest v w / nI 10 * nI 10 = nI 1)) := by
  simp only [o_firstRest]
  cases h : o_firstRest_10 v w 4 FU (nI 0) with
  | inl y =>
    right
    rcases tk_f10 v w _ _ _ h with rfl | rfl | rfl | rfl <;> decide
  | inr y => exact Or.inl rfl
def AgL (ci : Nat) (r : Rs) (KO : Mem → Prop) (K : Mem → Int64 × Mem) : Prop :=
  (∃ v M1, r = .inl (some (.long v), M1) ∧ KO M1 ∧ (K M1).1 = v ∧ (K M1).2.1 54 0 = nI 0 ∧ InvM (K M1).2) ∨
  (∃ M1, r = .inr (iaeN, M1) ∧ ci ≠ 0 ∧ KO M1 ∧ (K M1).2.1 54 0 = nI ci ∧ InvM (K M1).2)
