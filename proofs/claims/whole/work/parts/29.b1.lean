/-! a year: who found how often -/
theorem fd_w (A B L R : Nat → Int32) {a b r : Nat} (ha : a < 6) (hb : b < 6) : (d_walks A B L R a r).2 (19 + b) = R (19 + b) := by
  simp only [d_walks]
  repeat' split
  all_goals first | rfl | (show upd _ _ _ (19 + b) = R (19 + b); rw [pk_un (by omega), pk_un (by omega)])
theorem fd_l (W R : Nat → Int32) {a b t : Nat} (ha : a < 6) (hb : b < 6) : (d_loses W R a t).2 (19 + b) = R (19 + b) := by
  simp only [d_loses, d_drop]
  repeat' split
  all_goals first | rfl | (show upd _ _ _ (19 + b) = R (19 + b); rw [pk_un (by omega), pk_un (by omega), pk_un (by omega)])
theorem fd_s (W R : Nat → Int32) {a b t : Nat} (ha : a < 6) (hb : b < 6) : (d_slips W R a t).2 (19 + b) = R (19 + b) := by
  simp only [d_slips, d_drop]
  repeat' split
  all_goals first | rfl | (show upd _ _ _ (19 + b) = R (19 + b); rw [pk_un (by omega), pk_un (by omega), pk_un (by omega)])
/-- how many more were found -/
theorem fm_up (N S S' : Nat → Int32) {a : Nat} (x : Int32) : ∀ n, (∀ b, b < n → S' (38 + b) = S (38 + b) + (if b = a then x else nI 0)) → k_foundMore_4 N S' n = k_foundMore_4 N S n + (if a < n then x else nI 0)
  | 0, _ => by
    rw [if_neg (Nat.not_lt_zero a)]
    simp only [k_foundMore_4]
    decide
  | n + 1, h => by
    have ih := fm_up N S S' x n (fun b hb => h b (by omega))
    simp only [k_foundMore_4, ih, h n (by omega)]
    have z : nI 0 = (0 : Int32) := nI_0
    by_cases c : n = a
    · rw [if_pos c, if_neg (show ¬ a < n by omega), if_pos (show a < n + 1 by omega), z]
      apply Int32.toBitVec_inj.mp
      simp only [Int32.toBitVec_add, Int32.toBitVec_sub]
      generalize (k_foundMore_4 N S n).toBitVec = p
      generalize (S (38 + n)).toBitVec = q
      generalize (N (38 + n)).toBitVec = r
      generalize x.toBitVec = y
      show p + 0#32 + (q + y - r) = p + (q - r) + y
      apply BitVec.eq_of_toNat_eq
      simp only [BitVec.toNat_add, BitVec.toNat_sub, BitVec.toNat_ofNat]
      have := p.isLt
      have := q.isLt
      have := r.isLt
      have := y.isLt
      omega
    · rw [if_neg c, z]
      by_cases d : a < n
      · rw [if_pos d, if_pos (show a < n + 1 by omega)]
        apply Int32.toBitVec_inj.mp
        simp only [Int32.toBitVec_add, Int32.toBitVec_sub]
        generalize (k_foundMore_4 N S n).toBitVec = p
        generalize (S (38 + n)).toBitVec = q
        generalize (N (38 + n)).toBitVec = r
        generalize x.toBitVec = y
        show p + y + (q + 0#32 - r) = p + (q - r) + y
        apply BitVec.eq_of_toNat_eq
        simp only [BitVec.toNat_add, BitVec.toNat_sub, BitVec.toNat_ofNat]
        have := p.isLt
        have := q.isLt
        have := r.isLt
        have := y.isLt
        omega
      · rw [if_neg d, if_neg (show ¬ a < n + 1 by omega)]
        apply Int32.toBitVec_inj.mp
        simp only [Int32.toBitVec_add, Int32.toBitVec_sub]
        generalize (k_foundMore_4 N S n).toBitVec = p
        generalize (S (38 + n)).toBitVec = q
        generalize (N (38 + n)).toBitVec = r
        show p + 0#32 + (q + 0#32 - r) = p + (q - r) + 0#32
        apply BitVec.eq_of_toNat_eq
        simp only [BitVec.toNat_add, BitVec.toNat_sub, BitVec.toNat_ofNat]
        have := p.isLt
        have := q.isLt
        have := r.isLt
        omega
