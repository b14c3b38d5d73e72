/-! the round of the class -/
theorem an8 {g s : Nat} (hg : g < 256) (hs : s < 256) : nI g &&& (nI s ^^^ (-1)) = nI (g &&& (255 ^^^ s)) := by
  apply Int32.toBitVec_inj.mp
  apply BitVec.eq_of_toNat_eq
  have hl : g &&& (255 ^^^ s) < 2 ^ 32 := Nat.lt_of_le_of_lt Nat.and_le_left (by omega)
  have h1 : (-1 : Int32).toBitVec.toNat = 2 ^ 32 - 1 := by decide
  rw [Int32.toBitVec_and, Int32.toBitVec_xor, BitVec.toNat_and, BitVec.toNat_xor, pk_tn (show g < 2 ^ 32 by omega), pk_tn (show s < 2 ^ 32 by omega), pk_tn hl, h1]
  apply Nat.eq_of_testBit_eq
  intro i
  rw [Nat.testBit_and, Nat.testBit_and, Nat.testBit_xor, Nat.testBit_xor, Nat.testBit_two_pow_sub_one, show (255 : Nat) = 2 ^ 8 - 1 from rfl, Nat.testBit_two_pow_sub_one]
  by_cases c : i < 8
  · rw [decide_eq_true (show i < 32 by omega), decide_eq_true c, Bool.xor_comm]
  · have hgi : g.testBit i = false := Nat.testBit_lt_two_pow (Nat.lt_of_lt_of_le hg (Nat.pow_le_pow_right (n := 2) (by omega) (show 8 ≤ i by omega)))
    rw [hgi, Bool.false_and, Bool.false_and]
theorem an_bit (g s : Nat) {i : Nat} (hi : i < 8) : (g &&& (255 ^^^ s)).testBit i = (g.testBit i && !(s.testBit i)) := by
  rw [Nat.testBit_and, Nat.testBit_xor, show (255 : Nat) = 2 ^ 8 - 1 from rfl, Nat.testBit_two_pow_sub_one, decide_eq_true hi, Bool.true_xor]
theorem an_0 {s g : Nat} (hs : s < 256) : s &&& (255 ^^^ g) = 0 ↔ Sb s g := by
  constructor
  · intro h i hi
    by_cases c : i < 8
    · have := an_bit s g c
      rw [h, Nat.zero_testBit, hi, Bool.true_and] at this
      cases e : g.testBit i with
      | true => rfl
      | false => rw [e] at this; cases this
    · rw [Nat.testBit_lt_two_pow (Nat.lt_of_lt_of_le hs (Nat.pow_le_pow_right (n := 2) (by omega) (show 8 ≤ i by omega)))] at hi
      cases hi
  · intro h
    apply Nat.eq_of_testBit_eq
    intro i
    rw [Nat.zero_testBit]
    by_cases c : i < 8
    · rw [an_bit s g c]
      have := h i
      revert this
      generalize s.testBit i = a
      generalize g.testBit i = b
      cases a <;> cases b <;> decide
    · rw [Nat.testBit_and, Nat.testBit_lt_two_pow (Nat.lt_of_lt_of_le hs (Nat.pow_le_pow_right (n := 2) (by omega) (show 8 ≤ i by omega))), Bool.false_and]
/-- how far, in both systems, by one number -/
def FD (np : Nat) (D : Nat → Nat → Nat) (Fa Fo : Nat → Int32) : Prop := ∀ p q, p < np → q < np → (D p q < 1000 ∧ v_farFrom Fa p q = nI (D p q) ∧ Fo (8 * p + q) = nI (D p q)) ∨ (¬ D p q < 1000 ∧ v_farFrom Fa p q = -1 ∧ Fo (8 * p + q) = nI 9999)
theorem FD_of {np : Nat} {Fa Fo : Nat → Int32} (h : FR np Fa Fo) : ∃ D, FD np D Fa Fo := by
  refine ⟨fun p q => ix (Fo (8 * p + q)), fun p q hp hq => ?_⟩
  rcases fr_cases h hp hq with ⟨d, d1, d2, d3⟩ | ⟨d2, d3⟩
  · left
    simp only [d3, pu_ix (show d < 2147483648 by omega)]
    exact ⟨d1, d2, trivial⟩
  · right
    simp only [d3, pu_ix (show 9999 < 2147483648 by omega)]
    exact ⟨by omega, d2, trivial⟩
/-- lengthening -/
theorem lg31 {np g s l dd : Nat} {D : Nat → Nat → Nat} {Fa Fo T : Nat → Int32} (hF : FD np D Fa Fo) (h8 : np ≤ 8) (hg : g < 256) (hs : s < 256) (hl : l < np) : ∀ n, n ≤ np →
    (∀ o, o < n → g.testBit o = true → s.testBit o = false → D l o < 1000 → w_lengthen_31 Fa T (nI s) l (nI dd) (nI (g &&& (255 ^^^ s))) n ((s + 2 ^ o) * 8 + o) = (if nI (dd + D l o) < T ((s + 2 ^ o) * 8 + o) then nI (dd + D l o) else T ((s + 2 ^ o) * 8 + o))) ∧
    (∀ j, (∀ o, o < n → g.testBit o = true → s.testBit o = false → D l o < 1000 → j ≠ (s + 2 ^ o) * 8 + o) → w_lengthen_31 Fa T (nI s) l (nI dd) (nI (g &&& (255 ^^^ s))) n j = T j) ∧
    ∀ i, i < n → w_lengthen_31_ok Fa T (nI s) l (nI dd) (nI (g &&& (255 ^^^ s))) i
  | 0, _ => ⟨fun o ho => by omega, fun j _ => by simp only [w_lengthen_31], fun i hi => by omega⟩
  | n + 1, hn => by
    obtain ⟨i1, i2, i3⟩ := lg31 (T := T) (dd := dd) hF h8 hg hs hl n (by omega)
    have hal : g &&& (255 ^^^ s) < 1024 := Nat.lt_of_le_of_lt Nat.and_le_left (by omega)
    have hb := tb10 (g &&& (255 ^^^ s)) hal n (by omega)
    rw [an_bit g s (show n < 8 by omega)] at hb
    by_cases c : g.testBit n = true ∧ s.testBit n = false
    · obtain ⟨c1, c2⟩ := c
      rw [c1, c2, Bool.not_false, Bool.and_true, if_pos rfl] at hb
      obtain ⟨o1, o2⟩ := ma_or s hs n (by omega) c2
      have p2 : 2 ^ n < 2 ^ 31 := Nat.pow_lt_pow_right (by omega) (by omega)
      have ho : nI s ||| (nI 1 <<< (nI n &&& 31)) = nI (s + 2 ^ n) := by rw [pu_sl n (by omega), pu_or (by omega) p2, o1]
      have ixo : ix (nI (s + 2 ^ n)) = s + 2 ^ n := pu_ix (by omega)
      rcases hF l n hl (by omega) with ⟨f1, f2, -⟩ | ⟨f1, f2, -⟩
      · have fn : ¬ nI (D l n) = -1 := pu_nm (by omega)
        have old : w_lengthen_31 Fa T (nI s) l (nI dd) (nI (g &&& (255 ^^^ s))) n ((s + 2 ^ n) * 8 + n) = T ((s + 2 ^ n) * 8 + n) := i2 _ (fun o ho _ _ _ => by omega)
        refine ⟨fun o ho' g1 g2 g3 => ?_, fun j hj => ?_, fun i hi => ?_⟩
        · simp only [w_lengthen_31, hb, if_neg pu_n10, f2, if_neg fn, ho, ixo, old, nI_add]
          by_cases e : o = n
          · rw [e, pk_us]
          · rw [pk_un (by omega)]
            exact i1 o (by omega) g1 g2 g3
        · simp only [w_lengthen_31, hb, if_neg pu_n10, f2, if_neg fn, ho, ixo, old, nI_add]
          rw [pk_un (hj n (by omega) c1 c2 f1)]
          exact i2 j (fun o ho => hj o (by omega))
        · by_cases e : i = n
          · rw [e]
            simp only [w_lengthen_31_ok, hb, if_neg pu_n10, f2, if_neg fn, ho, ixo]
            exact ⟨trivial, pu_isN (by omega), by omega, trivial⟩
          · exact i3 i (by omega)
      · refine ⟨fun o ho' g1 g2 g3 => ?_, fun j hj => ?_, fun i hi => ?_⟩
        · simp only [w_lengthen_31, hb, if_neg pu_n10, f2, eq_self, if_true]
          by_cases e : o = n
          · rw [e] at g3
            exact absurd g3 f1
          · exact i1 o (by omega) g1 g2 g3
        · simp only [w_lengthen_31, hb, if_neg pu_n10, f2, eq_self, if_true]
          exact i2 j (fun o ho => hj o (by omega))
        · by_cases e : i = n
          · rw [e]
            simp only [w_lengthen_31_ok, hb, if_neg pu_n10, f2, eq_self, if_true, and_self]
          · exact i3 i (by omega)
    · have hb0 : (nI (g &&& (255 ^^^ s)) >>> (nI n &&& 31)) &&& nI 1 = 0 := by
        rw [hb]
        cases e1 : g.testBit n with
        | false => rw [Bool.false_and, if_neg Bool.false_ne_true, nI_0]
        | true =>
          cases e2 : s.testBit n with
          | true => rw [Bool.not_true, Bool.and_false, if_neg Bool.false_ne_true, nI_0]
          | false => exact absurd ⟨e1, e2⟩ c
      refine ⟨fun o ho' g1 g2 g3 => ?_, fun j hj => ?_, fun i hi => ?_⟩
      · simp only [w_lengthen_31, hb0, eq_self, if_true]
        by_cases e : o = n
        · rw [e] at g1 g2
          exact absurd ⟨g1, g2⟩ c
        · exact i1 o (by omega) g1 g2 g3
      · simp only [w_lengthen_31, hb0, eq_self, if_true]
        exact i2 j (fun o ho => hj o (by omega))
      · by_cases e : i = n
        · rw [e]
          simp only [w_lengthen_31_ok, hb0, eq_self, if_true, and_self]
        · exact i3 i (by omega)
