/-! numbers on the tape -/
theorem kd_eq (x : Int32) : k_isDigit x = t_isDigit x := rfl
theorem dg_cases {b : Nat} (hb : b < 256) : (t_isDigit (nI b) = 0 ∧ ¬ (48 ≤ b ∧ b ≤ 57)) ∨ (¬ t_isDigit (nI b) = 0 ∧ 48 ≤ b ∧ b ≤ 57) := by
  simp only [t_isDigit]
  by_cases h1 : nI b < nI 48
  · rw [if_pos h1]
    rw [pu_lti (by omega) (by omega)] at h1
    exact Or.inl ⟨nI_0, by omega⟩
  · rw [if_neg h1]
    rw [pu_lti (by omega) (by omega)] at h1
    by_cases h2 : nI 57 < nI b
    · rw [if_pos h2]
      rw [pu_lti (by omega) (by omega)] at h2
      exact Or.inl ⟨nI_0, by omega⟩
    · rw [if_neg h2]
      rw [pu_lti (by omega) (by omega)] at h2
      exact Or.inr ⟨pu_n10, by omega, by omega⟩
def VR (v r : Nat) : Prop := (v = r ∧ v ≤ 9999) ∨ (v = 10000 ∧ 10000 ≤ r ∧ r ≤ 99999)
theorem num_lp {B T : Nat → Int32} {n : Nat} (hn : n ≤ 600) (hB : BY B T) (x1 x2 y1 y2 y3 : Int32) : ∀ (k a v r : Nat) (q m : Nat → Int32), q 5 = nI n → q 6 = nI a → m 3 = nI n → m 4 = nI a → a ≤ n → n - a < k → VR v r →
    t_number_16_ok B x1 x2 k (nI v) q ∧ k_readNumber_41_ok T y1 y2 y3 k (nI r) m ∧ ∃ a' v' r', a ≤ a' ∧ a' ≤ n ∧ VR v' r' ∧ t_number_16 B x1 x2 k (nI v) q = (nI v', upd q 6 (nI a')) ∧ k_readNumber_41 T y1 y2 y3 k (nI r) m = (nI r', upd m 4 (nI a')) ∧
      ((a < n ∧ ¬ t_isDigit (B a) = 0 ∧ a < a') ∨ (¬ (a < n ∧ ¬ t_isDigit (B a) = 0) ∧ a' = a)) := by
  intro k
  induction k with
  | zero => intro a v r q m _ _ _ _ _ h; omega
  | succ k ih =>
    intro a v r q m h5 h6 h3 h4 ha hk hv
    simp only [t_number_16_ok, k_readNumber_41_ok, t_number_16, k_readNumber_41, h5, h6, h3, h4, kd_eq]
    by_cases hl : a < n
    · have f1 : ¬ nI n ≤ nI a := by rw [pu_lei (by omega) (by omega)]; omega
      obtain ⟨eT, b, hb, eb⟩ := hB a (by omega)
      simp only [f1, ↓reduceIte, pu_ix (show a < 2147483648 by omega), pu_isN (show a < 2147483648 by omega), show a < 600 by omega, true_and, eT, eb]
      rcases dg_cases hb with ⟨hd, -⟩ | ⟨hd, hd1, hd2⟩
      · simp only [hd, ↓reduceIte, true_and]
        refine ⟨a, v, r, Nat.le_refl _, ha, hv, ?_, ?_, Or.inr ⟨fun q => q.2 trivial, rfl⟩⟩
        · rw [← h6, upd_self]
        · rw [← h4, upd_self]
      · simp only [hd, ↓reduceIte, pu_p1, pk_mul, nI_add, not_false_eq_true, and_true]
        have e1 : nI (v * 10 + b) - nI 48 = nI (v * 10 + b - 48) := pk_sub (by omega)
        have e2 : nI (10 * r + b) - nI 48 = nI (10 * r + b - 48) := pk_sub (by omega)
        rw [e1, e2]
        rcases hv with ⟨hv1, hv2⟩ | ⟨hv1, hv2, hv3⟩
        · subst hv1
          have f2 : nI v ≤ nI 9999 := by rw [pu_lei (by omega) (by omega)]; omega
          rw [if_pos f2, if_pos f2]
          by_cases hg : v * 10 + b - 48 ≤ 10000
          · have f3 : ¬ nI 10000 < nI (v * 10 + b - 48) := by rw [pu_lti (by omega) (by omega)]; omega
            rw [if_neg f3]
            have hv' : VR (v * 10 + b - 48) (10 * v + b - 48) := by
              unfold VR
              omega
            obtain ⟨r1, r2, a', v', r', q1, q2, q3, q4, q5, q6⟩ := ih (a + 1) _ _ (upd q 6 (nI (a + 1))) (upd m 4 (nI (a + 1))) (by rw [pk_un (by decide)]; exact h5) pk_us (by rw [pk_un (by decide)]; exact h3) pk_us (by omega) (by omega) hv'
            refine ⟨r1, r2, a', v', r', by omega, q2, q3, ?_, ?_, Or.inl (by first | exact ⟨hl, trivial, by omega⟩ | exact ⟨hl, not_false, by omega⟩)⟩
            · rw [q4, upd_twice]
            · rw [q5, upd_twice]
          · have f3 : nI 10000 < nI (v * 10 + b - 48) := by rw [pu_lti (by omega) (by omega)]; omega
            rw [if_pos f3]
            have hv' : VR 10000 (10 * v + b - 48) := by
              unfold VR
              omega
            obtain ⟨r1, r2, a', v', r', q1, q2, q3, q4, q5, q6⟩ := ih (a + 1) _ _ (upd q 6 (nI (a + 1))) (upd m 4 (nI (a + 1))) (by rw [pk_un (by decide)]; exact h5) pk_us (by rw [pk_un (by decide)]; exact h3) pk_us (by omega) (by omega) hv'
            refine ⟨r1, r2, a', v', r', by omega, q2, q3, ?_, ?_, Or.inl (by first | exact ⟨hl, trivial, by omega⟩ | exact ⟨hl, not_false, by omega⟩)⟩
            · rw [q4, upd_twice]
            · rw [q5, upd_twice]
        · subst hv1
          have f2 : ¬ nI r ≤ nI 9999 := by rw [pu_lei (by omega) (by omega)]; omega
          rw [if_neg f2, if_neg f2]
          have f3 : nI 10000 < nI (10000 * 10 + b - 48) := by rw [pu_lti (by omega) (by omega)]; omega
          rw [if_pos f3]
          have hv' : VR 10000 10000 := by
            unfold VR
            omega
          obtain ⟨r1, r2, a', v', r', q1, q2, q3, q4, q5, q6⟩ := ih (a + 1) _ _ (upd q 6 (nI (a + 1))) (upd m 4 (nI (a + 1))) (by rw [pk_un (by decide)]; exact h5) pk_us (by rw [pk_un (by decide)]; exact h3) pk_us (by omega) (by omega) hv'
          refine ⟨r1, r2, a', v', r', by omega, q2, q3, ?_, ?_, Or.inl (by first | exact ⟨hl, trivial, by omega⟩ | exact ⟨hl, not_false, by omega⟩)⟩
          · rw [q4, upd_twice]
          · rw [q5, upd_twice]
    · have f1 : nI n ≤ nI a := by rw [pu_lei (by omega) (by omega)]; omega
      simp only [f1, ↓reduceIte, true_and]
      refine ⟨a, v, r, Nat.le_refl _, ha, hv, ?_, ?_, Or.inr ⟨fun q => hl q.1, rfl⟩⟩
      · rw [← h6, upd_self]
      · rw [← h4, upd_self]
theorem MF.of {m : Nat → Int32} {n a s kd : Nat} (h3 : m 3 = nI n) (h4 : m 4 = nI a) (h5 : m 5 = -1) (ha : a ≤ n) (hs : s ≤ 600) : MF (k_wrong m (nI kd) (nI s)).2 n kd s ∧ Fm m (k_wrong m (nI kd) (nI s)).2 := by
  simp only [k_wrong, h5, ↓reduceIte]
  refine ⟨⟨?_, ?_, ?_, hs, a, ha, ?_⟩, fun j a b c => by rw [pk_un c, pk_un b]⟩ <;> simp (disch := decide) only [pk_us, pk_un, h3, h4]
theorem TF.of {q : Nat → Int32} {n a s kd : Nat} (h1 : q 1 = nI 0) (h2 : q 2 = 0) (h5 : q 5 = nI n) (h6 : q 6 = nI a) (ha : a ≤ n) (hk : 1 ≤ kd ∧ kd ≤ 3) : TF (t_fail q (nI kd) (nI s)).2 n kd s ∧ (t_fail q (nI kd) (nI s)).2 4 = q 4 := by
  simp only [t_fail, h2, ↓reduceIte]
  refine ⟨⟨?_, ⟨?_, hk⟩, ?_, ?_, a, ha, ?_⟩, ?_⟩ <;> simp (disch := decide) only [pk_us, pk_un, h1, h5, h6]
theorem rd_num {B T q m : Nat → Int32} {n a : Nat} (hn : n ≤ 600) (hB : BY B T) (hq : TS q n a) (hm : MS m n a) {lo hi : Int32} (hlo : lo.toInt ≤ 9999) (hhi : hi.toInt < 10000) :
    t_number_ok q B lo hi ∧ k_readNumber_ok m T lo hi ∧ Fm m (k_readNumber m T lo hi).2 ∧ (t_number q B lo hi).2 4 = nI (sk B n a) ∧
    ((∃ v a', v ≤ 9999 ∧ sk B n a < a' ∧ (t_number q B lo hi).1 = nI v ∧ (k_readNumber m T lo hi).1 = nI v ∧ ¬ nI v < lo ∧ nI v ≤ hi ∧ TS (t_number q B lo hi).2 n a' ∧ MS (k_readNumber m T lo hi).2 n a') ∨
      (∃ kd v, TF (t_number q B lo hi).2 n kd (sk B n a) ∧ MF (k_readNumber m T lo hi).2 n kd (sk B n a) ∧ v ≤ 10000 ∧ (t_number q B lo hi).1 = nI v)) := by
  obtain ⟨h1, h2, h3, h5, h6, ha⟩ := hq
  obtain ⟨g3, g4, g5, -⟩ := hm
  obtain ⟨r1, r2⟩ := tnx (B := B) hn h5 h6 ha
  obtain ⟨s1, s2⟩ := khr hn hB g3 g4 ha
  have hs := sk_le (B := B) ha
  have hsa := sk_ge B n a
  generalize sk B n a = s at *
  have e2 : upd (upd q 6 (nI s)) 4 (nI s) 2 = 0 := by simp (disch := decide) only [pk_un, h2]
  have e1 : upd (upd q 6 (nI s)) 4 (nI s) 1 = nI 0 := by simp (disch := decide) only [pk_un, h1]
  have e3 : upd (upd q 6 (nI s)) 4 (nI s) 3 = -1 := by simp (disch := decide) only [pk_un, h3]
  have e5 : upd (upd q 6 (nI s)) 4 (nI s) 5 = nI n := by simp (disch := decide) only [pk_un, h5]
  have e6 : upd (upd q 6 (nI s)) 4 (nI s) 6 = nI s := by simp (disch := decide) only [pk_us, pk_un]
  have e4 : upd (upd q 6 (nI s)) 4 (nI s) 4 = nI s := pk_us
  have d3 : upd m 4 (nI s) 3 = nI n := by simp (disch := decide) only [pk_un, g3]
  have d5 : upd m 4 (nI s) 5 = -1 := by simp (disch := decide) only [pk_un, g5]
  have d4 : upd m 4 (nI s) 4 = nI s := pk_us
  have dF : Fm m (upd m 4 (nI s)) := Fm.u4 m _
  simp only [t_number_ok, t_number, k_readNumber_ok, k_readNumber, r1, r2, s1, s2, k_fine_t g5, if_neg pu_n10, true_and, and_true]
  generalize upd (upd q 6 (nI s)) 4 (nI s) = q1 at *
  generalize upd m 4 (nI s) = m1 at *
  obtain ⟨k1, k2, a', v', r', q1', q2', q3', q4', q5', q6'⟩ := num_lp hn hB lo hi lo hi (nI s) FU s 0 0 q1 m1 e5 e6 d3 d4 hs (by rw [FU_eq]; omega) (Or.inl ⟨rfl, by omega⟩)
  simp only [e2, ↓reduceIte, k1, q4', d4, kd_eq, pk_us, true_and]
  have u4 : upd q1 6 (nI a') 4 = nI s := by rw [pk_un (by decide)]; exact e4
  have u1 : upd q1 6 (nI a') 1 = nI 0 := by rw [pk_un (by decide)]; exact e1
  have u2 : upd q1 6 (nI a') 2 = 0 := by rw [pk_un (by decide)]; exact e2
  have u3 : upd q1 6 (nI a') 3 = -1 := by rw [pk_un (by decide)]; exact e3
  have u5 : upd q1 6 (nI a') 5 = nI n := by rw [pk_un (by decide)]; exact e5
  have u6 : upd q1 6 (nI a') 6 = nI a' := pk_us
  have w3 : upd m1 4 (nI a') 3 = nI n := by rw [pk_un (by decide)]; exact d3
  have w5 : upd m1 4 (nI a') 5 = -1 := by rw [pk_un (by decide)]; exact d5
  have w4 : upd m1 4 (nI a') 4 = nI a' := pk_us
  have wF : Fm m (upd m1 4 (nI a')) := dF.tr (Fm.u4 m1 _)
  simp only [u4]
  have vb : v' ≤ 10000 := by rcases q3' with ⟨_, _⟩ | ⟨_, _, _⟩ <;> omega
  rcases q6' with ⟨hl, hdg, haa⟩ | ⟨hnd, haa⟩
  · have f1 : ¬ nI a' = nI s := fun e => by have := pu_inj (by omega) (by omega) e; omega
    simp only [hl, ↓reduceIte, hdg, f1, k2, q5', true_and]
    generalize upd q1 6 (nI a') = q2 at *
    generalize upd m1 4 (nI a') = m2 at *
    obtain ⟨t1, t2⟩ := TF.of (kd := 2) (s := s) u1 u2 u5 u6 q2' ⟨by omega, by omega⟩
    obtain ⟨t3, t4⟩ := MF.of (kd := 2) (s := s) w3 w4 w5 q2' (by omega)
    rcases hf : t_fail q2 (nI 2) (nI s) with ⟨x9, q9⟩
    rcases hg : k_wrong m2 (nI 2) (nI s) with ⟨y9, m9⟩
    rw [hf] at t1 t2
    rw [hg] at t3 t4
    simp only at t1 t2 t3 t4
    rw [u4] at t2
    have rb : r' ≤ 99999 := by rcases q3' with ⟨_, _⟩ | ⟨_, _, _⟩ <;> omega
    have c1e : nI v' < lo ↔ nI r' < lo := by
      rw [pu_lt, pu_lt, pu_nI (by omega), pu_nI (by omega)]
      rcases q3' with ⟨_, _⟩ | ⟨_, _, _⟩ <;> omega
    have c2e : nI v' ≤ hi ↔ nI r' ≤ hi := by
      rw [pu_le, pu_le, pu_nI (by omega), pu_nI (by omega)]
      rcases q3' with ⟨_, _⟩ | ⟨_, _, _⟩ <;> omega
    by_cases c1 : nI v' < lo
    · simp only [c1, c1e.mp c1, ↓reduceIte]
      exact ⟨wF.tr t4, t2, Or.inr ⟨2, v', t1, t3, vb, rfl⟩⟩
    · have c1' : ¬ nI r' < lo := fun q => c1 (c1e.mpr q)
      by_cases c2 : nI v' ≤ hi
      · have c2' := c2e.mp c2
        have hv9 : v' ≤ 9999 := by
          rw [pu_le, pu_nI (by omega)] at c2
          omega
        have hvr : r' = v' := by rcases q3' with ⟨_, _⟩ | ⟨_, _, _⟩ <;> omega
        subst hvr
        simp only [c1, c2, ↓reduceIte]
        exact ⟨wF, u4, Or.inl ⟨r', a', hv9, haa, rfl, rfl, c1, c2, ⟨u1, u2, u3, u5, u6, q2'⟩, w3, w4, w5, q2'⟩⟩
      · have c2' : ¬ nI r' ≤ hi := fun q => c2 (c2e.mpr q)
        simp only [c1, c1', c2, c2', ↓reduceIte]
        exact ⟨wF.tr t4, t2, Or.inr ⟨2, v', t1, t3, vb, rfl⟩⟩
  · subst haa
    obtain ⟨t1, t2⟩ := TF.of (kd := 1) (s := a') u1 u2 u5 u6 q2' ⟨by omega, by omega⟩
    obtain ⟨t3, t4⟩ := MF.of (kd := 1) (s := a') d3 d4 d5 q2' (by omega)
    have hnd' : t_isDigit (if a' < n then B a' else nI 0) = 0 := by
      by_cases hl : a' < n
      · rw [if_pos hl]
        by_cases hz : t_isDigit (B a') = 0
        · exact hz
        · exact absurd ⟨hl, hz⟩ hnd
      · rw [if_neg hl]; decide
    simp only [hnd', ↓reduceIte]
    generalize upd q1 6 (nI a') = q2 at *
    rcases hf : t_fail q2 (nI 1) (nI a') with ⟨x9, q9⟩
    rcases hg : k_wrong m1 (nI 1) (nI a') with ⟨y9, m9⟩
    rw [hf] at t1 t2
    rw [hg] at t3 t4
    simp only at t1 t2 t3 t4
    rw [u4] at t2
    exact ⟨trivial, dF.tr t4, t2, Or.inr ⟨1, v', t1, t3, vb, rfl⟩⟩
theorem TF.num {B q : Nat → Int32} {n kd pl : Nat} (hn : n ≤ 600) (h : TF q n kd pl) (lo hi : Int32) : t_number_ok q B lo hi ∧ TF (t_number q B lo hi).2 n kd pl ∧ (t_number q B lo hi).1 = nI 0 := by
  obtain ⟨r1, r2, r3⟩ := h.nx (B := B) hn
  have e : t_next q B = (-1, (t_next q B).2) := by rw [← r2]
  generalize (t_next q B).2 = q' at e r3
  simp only [t_number_ok, t_number, r1, e, if_neg r3.ne, true_and]
  exact ⟨r3, trivial⟩
theorem MF.num {T m : Nat → Int32} {n kd pl : Nat} (h : MF m n kd pl) (lo hi : Int32) : k_readNumber_ok m T lo hi ∧ k_readNumber m T lo hi = (nI 0, m) := by
  simp only [k_readNumber_ok, k_readNumber, k_fine_f h.2.1 h.2.2.2.1, if_pos pu_n01, true_and, and_self]
