/-! pins picked up -/
theorem wy_12 (x y : Int32) : ∀ k s t, k_ways_12 x y k s t = o_choose_12 x y k s t ∧ (k_ways_12_ok x y k s t ↔ o_choose_12_ok x y k s t)
  | 0, s, t => ⟨rfl, Iff.rfl⟩
  | k + 1, s, t => by
    obtain ⟨h1, h2⟩ := wy_12 x y k ((s * (((x - y) + t).toInt64)) / t.toInt64) (t + nI 1)
    simp only [k_ways_12, o_choose_12, k_ways_12_ok, o_choose_12_ok, h1, h2, and_self]
theorem ls_6 (x y : Int64) (z : Int32) : ∀ k i a b, (∃ j, j ≤ k ∧ (o_commonPart_9 j i a b).2 = 0) → k_least_6_ok x y z (k + 1) a b ∧ k_least_6 x y z (k + 1) a b = o_commonPart_9 k i a b ∧ o_commonPart_9_ok k i a b
  | 0, i, a, b, h => by
    obtain ⟨j, hj, e⟩ := h
    have : j = 0 := by omega
    subst this
    simp only [o_commonPart_9] at e
    subst e
    simp only [k_least_6_ok, k_least_6, o_commonPart_9, o_commonPart_9_ok, if_pos (show lg_cmp (0 : Int64) 0 = 0 by decide), and_self]
  | k + 1, i, a, b, h => by
    by_cases hb : lg_cmp b 0 = 0
    · simp only [k_least_6_ok, k_least_6, o_commonPart_9, o_commonPart_9_ok, if_pos hb, and_self]
    · have hb0 : ¬ b = 0 := fun e => hb (by rw [e]; decide)
      obtain ⟨j, hj, e⟩ := h
      have hj1 : 1 ≤ j := by
        rcases Nat.eq_zero_or_pos j with rfl | h
        · simp only [o_commonPart_9] at e
          exact absurd e hb0
        · exact h
      obtain ⟨j', rfl⟩ : ∃ j', j = j' + 1 := ⟨j - 1, by omega⟩
      simp only [o_commonPart_9, if_neg hb] at e
      obtain ⟨h1, h2, h3⟩ := ls_6 x y z k (i + 1) b (a - a / b * b) ⟨j', by omega, e⟩
      rw [k_least_6_ok, k_least_6, o_commonPart_9, o_commonPart_9_ok, if_neg hb, if_neg hb, if_neg hb, if_neg hb]
      exact ⟨⟨hb0, h1⟩, h2, hb0, h3⟩
def chn (n k : Nat) : Nat → Nat
  | 0 => 1
  | i + 1 => chn n k i * (n - k + (i + 1)) / (i + 1)
theorem chn_b0 : ∀ n, n < 21 → ∀ k, k < 21 → ∀ i, i < 21 → (decide (n < k) || decide (k < i) || (decide (1 ≤ chn n k i) && decide (chn n k i < 1048576))) = true := by decide +kernel
theorem chn_bd (n : Nat) (hn : n < 21) (k : Nat) (hk : k < 21) (i : Nat) (hi : i < 21) (h1 : k ≤ n) (h2 : i ≤ k) : 1 ≤ chn n k i ∧ chn n k i < 1048576 := by
  have h := chn_b0 n hn k hk i hi
  simp only [Bool.or_eq_true, Bool.and_eq_true, decide_eq_true_eq] at h
  omega
theorem chn_le : ∀ n, n < 21 → ∀ m, m < 21 → ∀ k, k < 21 → (m ≤ n → k ≤ n - m → chn (n - m) k k ≤ chn n k k) := by decide +kernel
theorem ch_lp {n k : Nat} (hn : n ≤ 20) (hk : k ≤ n) : ∀ (K i : Nat), i ≤ k → k < i + K → o_choose_12_ok (nI n) (nI k) K (lN (chn n k i)) (nI (i + 1)) ∧ (o_choose_12 (nI n) (nI k) K (lN (chn n k i)) (nI (i + 1))).1 = lN (chn n k k)
  | 0, i, h1, h2 => by omega
  | K + 1, i, h1, h2 => by
    obtain ⟨-, hb⟩ := chn_bd n (by omega) k (by omega) i (by omega) hk h1
    simp only [o_choose_12_ok, o_choose_12]
    by_cases c : k < i + 1
    · have f : nI k < nI (i + 1) := (pu_lti (by omega) (by omega)).mpr c
      have e : i = k := by omega
      subst e
      simp only [if_pos f, and_self]
    · have f : ¬ nI k < nI (i + 1) := fun z => c ((pu_lti (by omega) (by omega)).mp z)
      have e1 : (nI (i + 1)).toInt64 = lN (i + 1) := nI_l (by omega)
      have e2 : ((nI n - nI k) + nI (i + 1)).toInt64 = lN (n - k + (i + 1)) := by
        rw [pk_sub hk, nI_add]; exact nI_l (by omega)
      have hm : chn n k i * (n - k + (i + 1)) ≤ 1048576 * 42 := Nat.mul_le_mul (by omega) (by omega)
      have e3 : lN (chn n k i) * lN (n - k + (i + 1)) = lN (chn n k i * (n - k + (i + 1))) := (lN_mul _ _)
      have e4 : lN (chn n k i * (n - k + (i + 1))) / lN (i + 1) = lN (chn n k (i + 1)) := by
        rw [pk_lDiv (by omega) (by omega) (by omega)]; rfl
      have e5 : ¬ lN (i + 1) = 0 := by
        have h0 : (0 : Int64) = lN 0 := rfl
        rw [h0, pk_lEQ (by omega) (by omega)]; omega
      obtain ⟨g1, g2⟩ := ch_lp hn hk K (i + 1) (by omega) (by omega)
      simp only [if_neg f, e1, e2, e3, e4, e5, not_false_eq_true, true_and, pu_p1]
      exact ⟨g1, g2⟩
theorem ch_eq {n k : Nat} (hn : n ≤ 20) (hk : k ≤ 20) : o_choose_ok (nI n) (nI k) ∧ k_ways_ok (nI n) (nI k) ∧ k_ways (nI n) (nI k) = o_choose (nI n) (nI k) ∧ o_choose (nI n) (nI k) = lN (if k ≤ n then chn n k k else 0) := by
  obtain ⟨w1, w2⟩ := wy_12 (nI n) (nI k) FU 1 (nI 1)
  simp only [o_choose_ok, k_ways_ok, k_ways, o_choose, w1, w2, and_true, true_and]
  by_cases c : k ≤ n
  · have f : nI k ≤ nI n := (pu_lei (by omega) (by omega)).mpr c
    obtain ⟨g1, g2⟩ := ch_lp hn c FU 0 (by omega) (by rw [FU_eq]; omega)
    have h1 : (1 : Int64) = lN (chn n k 0) := rfl
    simp only [if_pos f, if_pos c]
    rw [h1]
    exact ⟨g1, g1, g2⟩
  · have f : ¬ nI k ≤ nI n := fun z => c ((pu_lei (by omega) (by omega)).mp z)
    simp only [if_neg f, if_neg c, true_and]
    rfl
theorem eu_st {a b : Nat} (ha : a < 2 ^ 40) (hb : b < 2 ^ 40) (h0 : 0 < b) (k i : Nat) : o_commonPart_9 (k + 1) i (lN a) (lN b) = o_commonPart_9 k (i + 1) (lN b) (lN (a % b)) := by
  have hb0 : ¬ lN b = 0 := by
    have h0' : (0 : Int64) = lN 0 := rfl
    rw [h0', pk_lEQ (by omega) (by omega)]; omega
  have hc : ¬ lg_cmp (lN b) 0 = 0 := fun z => hb0 ((lg_cmp_eq _ _).mp z)
  simp only [o_commonPart_9, if_neg hc]
  rw [pk_lRem (by omega) h0 (by omega)]
theorem eu_end : ∀ (j a b i : Nat), a < 2 ^ 40 → b < 2 ^ 40 → b < 2 ^ j → (0 < a ∨ 0 < b) → ∃ t x, t ≤ 2 * j + 1 ∧ o_commonPart_9 t i (lN a) (lN b) = (lN x, lN 0) ∧ 0 < x ∧ x < 2 ^ 40
  | 0, a, b, i, ha, hb, h, hp => by
    have : b = 0 := by omega
    subst this
    exact ⟨0, a, by omega, rfl, by omega, ha⟩
  | j + 1, a, b, i, ha, hb, h, hp => by
    by_cases c : b = 0
    · subst c
      exact ⟨0, a, by omega, rfl, by omega, ha⟩
    · have hr := Nat.mod_lt a (show 0 < b by omega)
      by_cases c2 : a % b = 0
      · refine ⟨1, b, by omega, ?_, by omega, hb⟩
        rw [eu_st ha hb (by omega) 0 i, c2]
        rfl
      · have hr2 := Nat.mod_lt b (show 0 < a % b by omega)
        have hd := Nat.div_add_mod b (a % b)
        have hq : 1 ≤ b / (a % b) := Nat.div_pos (by omega) (by omega)
        have hm : a % b ≤ (a % b) * (b / (a % b)) := Nat.le_mul_of_pos_right _ hq
        have hp2 : (2 : Nat) ^ (j + 1) = 2 ^ j * 2 := Nat.pow_succ 2 j
        obtain ⟨t, x, h1, h2, h3, h4⟩ := eu_end j (a % b) (b % (a % b)) (i + 1 + 1) (by omega) (by omega) (by omega) (by omega)
        refine ⟨t + 1 + 1, x, by omega, ?_, h3, h4⟩
        rw [eu_st ha hb (by omega) (t + 1) i, eu_st hb (by omega) (by omega) t (i + 1)]
        exact h2
theorem eu_ge {x : Int64} : ∀ (t k i i' : Nat) (a b : Int64), t ≤ k → o_commonPart_9 t i a b = (x, 0) → o_commonPart_9 k i' a b = (x, 0)
  | 0, k, i, i', a, b, _, h => by
    simp only [o_commonPart_9, Prod.mk.injEq] at h
    obtain ⟨rfl, rfl⟩ := h
    cases k with
    | zero => rfl
    | succ k => simp only [o_commonPart_9, if_pos (show lg_cmp (0 : Int64) 0 = 0 by decide)]
  | t + 1, 0, i, i', a, b, h, _ => by omega
  | t + 1, k + 1, i, i', a, b, hk, h => by
    simp only [o_commonPart_9] at h ⊢
    by_cases c : lg_cmp b 0 = 0
    · rw [if_pos c] at h ⊢; exact h
    · rw [if_neg c] at h ⊢
      exact eu_ge t k (i + 1) (i' + 1) b _ (by omega) h
theorem pn_eq {n m k p : Nat} (hn : n ≤ 20) (hm : m ≤ n) (hk : k ≤ n) : o_bentPart_ok (nI n) (nI m) (nI k) (nI p) ∧ (k_ways_ok (nI n) (nI k) ∧ k_ways_ok (nI n - nI m) (nI k) ∧ k_least_ok (k_ways (nI n) (nI k) - k_ways (nI n - nI m) (nI k)) (k_ways (nI n) (nI k)) (nI p)) ∧ k_least (k_ways (nI n) (nI k) - k_ways (nI n - nI m) (nI k)) (k_ways (nI n) (nI k)) (nI p) = o_bentPart (nI n) (nI m) (nI k) (nI p) := by
  obtain ⟨a1, a2, a3, a4⟩ := ch_eq hn (show k ≤ 20 by omega)
  obtain ⟨b1, b2, b3, b4⟩ := ch_eq (n := n - m) (by omega) (show k ≤ 20 by omega)
  rw [← pk_sub hm] at b1 b2 b3 b4
  rw [if_pos hk] at a4
  obtain ⟨c1, c2⟩ := chn_bd n (by omega) k (by omega) k (by omega) hk (Nat.le_refl _)
  have hle : (if k ≤ n - m then chn (n - m) k k else 0) ≤ chn n k k := by
    split
    · rename_i h; exact chn_le n (by omega) m (by omega) k (by omega) hm h
    · omega
  have hsub : lN (chn n k k) - o_choose (nI n - nI m) (nI k) = lN (chn n k k - (if k ≤ n - m then chn (n - m) k k else 0)) := by
    rw [b4]; exact lN_sub hle
  obtain ⟨t, x, h1, h2, h3, h4⟩ := eu_end 20 (chn n k k - (if k ≤ n - m then chn (n - m) k k else 0)) (chn n k k) 0 (by omega) (by omega) (by omega) (Or.inr (by omega))
  have h2' : o_commonPart_9 t 0 (lN (chn n k k - (if k ≤ n - m then chn (n - m) k k else 0))) (lN (chn n k k)) = (lN x, 0) := h2
  have hx0 : ¬ lN x = 0 := by
    have h0' : (0 : Int64) = lN 0 := rfl
    rw [h0', pk_lEQ (by omega) (by omega)]; omega
  have hcx : ¬ lg_cmp (lN x) 0 = 0 := fun z => hx0 ((lg_cmp_eq _ _).mp z)
  have hcom : o_commonPart (lN (chn n k k - (if k ≤ n - m then chn (n - m) k k else 0))) (lN (chn n k k)) = lN x := by
    simp only [o_commonPart, eu_ge t (cN 100) 0 0 _ _ (by rw [cN_eq]; omega) h2']
  obtain ⟨K, hK⟩ := fu_s
  have hK5 : 4999 = K := by have := FU_eq; omega
  have e100 := eu_ge t (cN 100) 0 0 _ _ (by rw [cN_eq]; omega) h2'
  have e49 := eu_ge t K 0 0 _ _ (by omega) h2'
  obtain ⟨-, -, u3⟩ := ls_6 0 0 0 (cN 100) 0 _ _ ⟨t, by rw [cN_eq]; omega, by rw [h2']⟩
  obtain ⟨v1, v2, -⟩ := ls_6 (lN (chn n k k - (if k ≤ n - m then chn (n - m) k k else 0))) (lN (chn n k k)) (nI p) K 0 _ _ ⟨t, by omega, by rw [h2']⟩
  rw [← hK, e49] at v2
  rw [← hK] at v1
  refine ⟨?_, ⟨a2, b2, ?_⟩, ?_⟩
  · simp only [o_bentPart_ok, a1, b1, hsub, a4, hcom, if_neg hcx, hx0, o_commonPart_ok, u3, not_false_eq_true, true_and, and_true, and_self, ite_self]
  · simp only [k_least_ok, a3, b3, hsub, a4, v1, v2, hx0, not_false_eq_true, true_and, and_true, and_self, ite_self]
  · simp only [k_least, o_bentPart, a3, b3, hsub, a4, v2, hcom, if_neg hcx]
