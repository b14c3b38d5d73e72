/-! a year: the draws -/
theorem lit15 : ∀ i, i < 32 → (¬ i < 15 → (32767#32).getLsbD i = false) := by decide +kernel
theorem sh16 (x : BitVec 32) : (x >>> 16) &&& 32767#32 = x.sshiftRight 16 &&& 32767#32 := by
  apply BitVec.eq_of_getLsbD_eq
  intro i hi
  rw [BitVec.getLsbD_and, BitVec.getLsbD_and, BitVec.getLsbD_ushiftRight, BitVec.getLsbD_sshiftRight]
  by_cases c : i < 15
  · rw [if_pos (show 16 + i < 32 by omega), decide_eq_false (show ¬ 32 ≤ i by omega), Bool.not_false, Bool.true_and]
  · rw [lit15 i hi c, Bool.and_false, Bool.and_false]
theorem dr16 (x : Int32) : ((x.toUInt32 >>> ((nI 16).toUInt32 &&& Int32.toUInt32 31)).toInt32) &&& nI 32767 = (x >>> (nI 16 &&& 31)) &&& nI 32767 := by
  apply Int32.toBitVec_inj.mp
  have h : ((nI 16).toUInt32 &&& Int32.toUInt32 31).toBitVec % 32 = 16#32 := by decide +kernel
  have h' : ((nI 16 &&& 31).toBitVec.smod 32) = 16#32 := by decide +kernel
  have e1 : (((x.toUInt32 >>> ((nI 16).toUInt32 &&& Int32.toUInt32 31)).toInt32) &&& nI 32767).toBitVec = (x.toBitVec >>> 16) &&& 32767#32 := by
    show (x.toBitVec >>> (((nI 16).toUInt32 &&& Int32.toUInt32 31).toBitVec % 32).toNat) &&& 32767#32 = _
    rw [h]; rfl
  have e2 : ((x >>> (nI 16 &&& 31)) &&& nI 32767).toBitVec = x.toBitVec.sshiftRight 16 &&& 32767#32 := by
    show (x.toBitVec.sshiftRight ((nI 16 &&& 31).toBitVec.smod 32).toNat) &&& 32767#32 = _
    rw [h']; rfl
  rw [e1, e2, sh16]
/-- a draw, in both systems -/
theorem dr_eq {Y md : Nat → Int32} (e : Y 1 = md 49) {m : Nat} (h1 : 1 ≤ m) (h2 : m ≤ 100) : y_draw_ok Y (nI m) ∧ k_draws_ok md (nI m) ∧ ∃ r s, r < m ∧ y_draw Y (nI m) = (nI r, upd Y 1 s) ∧ k_draws md (nI m) = (nI r, upd md 49 s) := by
  have f : ¬ nI m ≤ 0 := by
    rw [← nI_0]; intro z
    have := (pu_lei (by omega) (by omega)).mp z
    omega
  have g : ¬ nI m = 0 := by
    rw [← nI_0]; intro z
    have := (pu_eqi (by omega) (by omega)).mp z
    omega
  obtain ⟨b, hb, eb⟩ := pk_andE (((md 49 * nI 1103515245) + nI 12345) >>> (nI 16 &&& 31)) (m := nI 32767) 15 (by decide)
  refine ⟨by simp only [y_draw_ok, if_neg f, g, not_false_eq_true, and_self], ⟨g, trivial⟩, b % m, (md 49 * nI 1103515245) + nI 12345, Nat.mod_lt _ (by omega), ?_, ?_⟩
  · simp only [y_draw, if_neg f, e, dr16, eb]
    rw [pk_rem (show b < 2 ^ 31 by omega) (show 0 < m by omega) (show m < 2 ^ 31 by omega)]
  · simp only [k_draws, eb]
    rw [pk_rem (show b < 2 ^ 31 by omega) (show 0 < m by omega) (show m < 2 ^ 31 by omega)]
