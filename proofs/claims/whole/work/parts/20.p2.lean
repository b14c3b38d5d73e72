/-! what the law says -/
def opr (c o : Int32) : Prop := (c = nI 2043 ∧ o = nI 2) ∨ (c = nI 2045 ∧ o = nI 3) ∨ (c = nI 2042 ∧ o = nI 4) ∨ (c = nI 2047 ∧ o = nI 5) ∨ (c = nI 2060 ∧ o = nI 6) ∨ (c = nI 2062 ∧ o = nI 7) ∨ (c = nI 2037 ∧ o = nI 8)
def CR (c o v : Int32) : Prop := (∃ n, n ≤ 999 ∧ c = nI n ∧ o = nI 0 ∧ v = nI n) ∨ (∃ f, f < 8 ∧ c = nI (1000 + f) ∧ o = nI 1 ∧ v = nI f) ∨ opr c o
def dp (C : Nat → Int32) : Nat → Nat
  | 0 => 0
  | k + 1 => if C k < nI 2000 then dp C k + 1 else dp C k - 1
theorem dp_le (C : Nat → Int32) : ∀ k, dp C k ≤ k
  | 0 => Nat.le_refl 0
  | k + 1 => by
    have := dp_le C k
    simp only [dp]
    split <;> omega
def LWr (L C Rmd O V : Nat → Int32) : Prop := (L 3 = nI 1 ∧ C 0 = nI 1000 ∧ Rmd 30 = 0) ∨ (∃ c, 1 ≤ c ∧ c ≤ 150 ∧ L 3 = nI c ∧ Rmd 30 = nI c ∧ (∀ k, k < c → CR (C k) (O k) (V k)) ∧ (∀ k, k < c → nI 2000 ≤ C k → 2 ≤ dp C k) ∧ 1 ≤ dp C c)
theorem opr_ge {c o : Int32} (h : opr c o) : nI 2000 ≤ c ∧ ¬ c < nI 2000 ∧ nI 1 < o := by
  rcases h with ⟨rfl, rfl⟩ | ⟨rfl, rfl⟩ | ⟨rfl, rfl⟩ | ⟨rfl, rfl⟩ | ⟨rfl, rfl⟩ | ⟨rfl, rfl⟩ | ⟨rfl, rfl⟩ <;> decide
theorem mn_eq (a b : Int32) : (if b < a then b else a) = (if b ≤ a then b else a) := by
  by_cases h : b < a
  · rw [if_pos h, if_pos (Int32.le_of_lt h)]
  · by_cases h2 : b ≤ a
    · rw [if_neg h, if_pos h2]
      exact Int32.le_antisymm (Int32.not_lt.mp h) h2
    · rw [if_neg h, if_neg h2]
theorem mx_eq (a b : Int32) : (if a < b then b else a) = (if b ≤ a then a else b) := by
  by_cases h : a < b
  · rw [if_pos h, if_neg (Int32.not_le.mpr h)]
  · rw [if_neg h, if_pos (Int32.not_lt.mp h)]
theorem mx2 (a b : Int32) : (if a ≤ b then b else a) = (if b ≤ a then a else b) := by
  by_cases h : a ≤ b
  · by_cases h2 : b ≤ a
    · rw [if_pos h, if_pos h2]
      exact Int32.le_antisymm h2 h
    · rw [if_pos h, if_neg h2]
  · rw [if_neg h, if_pos (Int32.le_of_lt (Int32.not_le.mp h))]
theorem join_both {c o : Int32} (h : opr c o) (a b : Int32) : l_join (c - nI 2000) a b = k_both o a b := by
  rcases h with ⟨rfl, rfl⟩ | ⟨rfl, rfl⟩ | ⟨rfl, rfl⟩ | ⟨rfl, rfl⟩ | ⟨rfl, rfl⟩ | ⟨rfl, rfl⟩ | ⟨rfl, rfl⟩
  · simp only [l_join, k_both, show nI 2043 - nI 2000 = nI 43 by decide, show ¬ nI 43 = nI 37 by decide, show ¬ nI 43 = nI 42 by decide, ↓reduceIte]
  · simp only [l_join, k_both, show nI 2045 - nI 2000 = nI 45 by decide, show ¬ nI 45 = nI 37 by decide, show ¬ nI 45 = nI 42 by decide, show ¬ nI 45 = nI 43 by decide, show ¬ nI 3 = nI 2 by decide, ↓reduceIte]
  · simp only [l_join, k_both, show nI 2042 - nI 2000 = nI 42 by decide, show ¬ nI 42 = nI 37 by decide, show ¬ nI 4 = nI 2 by decide, show ¬ nI 4 = nI 3 by decide, ↓reduceIte]
  · simp only [l_join, k_both, show nI 2047 - nI 2000 = nI 47 by decide, show ¬ nI 47 = nI 37 by decide, show ¬ nI 47 = nI 42 by decide, show ¬ nI 47 = nI 43 by decide, show ¬ nI 47 = nI 45 by decide, show ¬ nI 5 = nI 2 by decide, show ¬ nI 5 = nI 3 by decide, show ¬ nI 5 = nI 4 by decide, ↓reduceIte]
  · simp only [l_join, k_both, show nI 2060 - nI 2000 = nI 60 by decide, show ¬ nI 60 = nI 37 by decide, show ¬ nI 60 = nI 42 by decide, show ¬ nI 60 = nI 43 by decide, show ¬ nI 60 = nI 45 by decide, show ¬ nI 60 = nI 47 by decide, show ¬ nI 6 = nI 2 by decide, show ¬ nI 6 = nI 3 by decide, show ¬ nI 6 = nI 4 by decide, show ¬ nI 6 = nI 5 by decide, show ¬ nI 6 = nI 8 by decide, ↓reduceIte]
  · simp only [l_join, k_both, show nI 2062 - nI 2000 = nI 62 by decide, show ¬ nI 62 = nI 37 by decide, show ¬ nI 62 = nI 42 by decide, show ¬ nI 62 = nI 43 by decide, show ¬ nI 62 = nI 45 by decide, show ¬ nI 62 = nI 47 by decide, show ¬ nI 62 = nI 60 by decide, show ¬ nI 7 = nI 2 by decide, show ¬ nI 7 = nI 3 by decide, show ¬ nI 7 = nI 4 by decide, show ¬ nI 7 = nI 5 by decide, show ¬ nI 7 = nI 8 by decide, show ¬ nI 7 = nI 6 by decide, ↓reduceIte]
    exact mx2 a b
  · simp only [l_join, k_both, show nI 2037 - nI 2000 = nI 37 by decide, show ¬ nI 8 = nI 2 by decide, show ¬ nI 8 = nI 3 by decide, show ¬ nI 8 = nI 4 by decide, show ¬ nI 8 = nI 5 by decide, ↓reduceIte]
theorem pu_a7 {f : Nat} (h : f < 8) : (nI (1000 + f) - nI 1000) &&& nI 7 = nI f := by
  rw [pk_sub (by omega), show 1000 + f - 1000 = f by omega, pk_andN (by omega) 3 (by decide), Nat.mod_eq_of_lt (by omega)]
theorem pu_pm (d : Nat) : nI (d + 1) + (-1) = nI d := pk_m1 d
theorem ev_lp {L G C Rmd O V F : Nat → Int32} {c : Nat} (hc : c ≤ 150) (h1 : L 3 = nI c) (h2 : Rmd 30 = nI c) (hC : ∀ k, k < c → CR (C k) (O k) (V k)) (hd : ∀ k, k < c → nI 2000 ≤ C k → 2 ≤ dp C k) (hG : ∀ f, f < 8 → G f = F f) :
    ∀ (k i : Nat) (q q' : Nat → Int32), i ≤ c → c < i + k → (∀ j, j < dp C i → q j = q' j) →
      l_comesOut_4_ok L G C k (nI (dp C i)) (nI i) q ∧ k_valueNow_4_ok Rmd O V F k (nI (dp C i)) (nI i) q' ∧
      (∀ j, j < dp C c → (l_comesOut_4 L G C k (nI (dp C i)) (nI i) q).2.2 j = (k_valueNow_4 Rmd O V F k (nI (dp C i)) (nI i) q').2.2 j) := by
  intro k
  induction k with
  | zero => intro i q q' hi hk; omega
  | succ k ih =>
    intro i q q' hi hk hq
    by_cases hic : i = c
    · subst hic
      have f1 : nI i ≤ nI i := Int32.le_refl _
      simp only [l_comesOut_4_ok, k_valueNow_4_ok, l_comesOut_4, k_valueNow_4, h1, h2, f1, ↓reduceIte, true_and]
      exact hq
    · have hl : i < c := by omega
      have hle := dp_le C i
      have f1 : ¬ nI c ≤ nI i := by rw [pu_lei (by omega) (by omega)]; omega
      have e1 : ix (nI i) = i := pu_ix (by omega)
      have e2 : ix (nI (dp C i)) = dp C i := pu_ix (by omega)
      have f5 : ¬ nI 150 ≤ nI (dp C i) := by rw [pu_lei (by omega) (by omega)]; omega
      have i1 : isN (nI i) := pu_isN (by omega)
      have i2 : isN (nI (dp C i)) := pu_isN (by omega)
      have i3 : i < 150 := by omega
      have i4 : dp C i < 150 := by omega
      rcases hC i hl with ⟨n, hn, eC, eO, eV⟩ | ⟨f, hf, eC, eO, eV⟩ | ho
      · have f2 : nI n < nI 2000 := by rw [pu_lti (by omega) (by omega)]; omega
        have f3 : ¬ nI 2000 ≤ nI n := by rw [pu_lei (by omega) (by omega)]; omega
        have f4 : ¬ nI 1000 ≤ nI n := by rw [pu_lei (by omega) (by omega)]; omega
        have f6 : ¬ nI 1 < nI 0 := by decide
        have f7 : nI 0 = 0 := nI_0
        have ed : dp C (i + 1) = dp C i + 1 := by simp only [dp, eC, f2, ↓reduceIte]
        have r := ih (i + 1) (upd q (dp C i) (nI n)) (upd q' (dp C i) (nI n)) (by omega) (by omega) (by
          intro j hj
          by_cases e : j = dp C i
          · rw [e, pk_us, pk_us]
          · rw [pk_un e, pk_un e]; exact hq j (by omega))
        rw [ed] at r
        simp only [l_comesOut_4_ok, k_valueNow_4_ok, l_comesOut_4, k_valueNow_4, h1, h2, f1, e1, e2, eC, eO, eV, f2, f3, f4, f5, f6, f7, i1, i2, i3, i4, pu_p1, ↓reduceIte, true_and]
        exact r
      · have f2 : nI (1000 + f) < nI 2000 := by rw [pu_lti (by omega) (by omega)]; omega
        have f3 : ¬ nI 2000 ≤ nI (1000 + f) := by rw [pu_lei (by omega) (by omega)]; omega
        have f4 : nI 1000 ≤ nI (1000 + f) := by rw [pu_lei (by omega) (by omega)]; omega
        have f6 : ¬ nI 1 < nI 1 := by decide
        have f7 : ¬ nI 1 = 0 := by decide
        have e3 : ix (nI f) = f := pu_ix (by omega)
        have i5 : isN (nI f) := pu_isN (by omega)
        have ed : dp C (i + 1) = dp C i + 1 := by simp only [dp, eC, f2, ↓reduceIte]
        have r := ih (i + 1) (upd q (dp C i) (G f)) (upd q' (dp C i) (F f)) (by omega) (by omega) (by
          intro j hj
          by_cases e : j = dp C i
          · rw [e, pk_us, pk_us]; exact hG f hf
          · rw [pk_un e, pk_un e]; exact hq j (by omega))
        rw [ed] at r
        simp only [l_comesOut_4_ok, k_valueNow_4_ok, l_comesOut_4, k_valueNow_4, h1, h2, f1, e1, e2, e3, eC, eO, eV, f2, f3, f4, f5, f6, f7, i1, i2, i3, i4, i5, hf, pu_a7 hf, pu_p1, ↓reduceIte, true_and]
        exact r
      · obtain ⟨g1, g2, g3⟩ := opr_ge ho
        have hdd := hd i hl g1
        obtain ⟨d, hd2⟩ : ∃ d, dp C i = d + 2 := ⟨dp C i - 2, by omega⟩
        have ed : dp C (i + 1) = d + 1 := by simp only [dp, g2, ↓reduceIte]; omega
        have f6 : ¬ nI (d + 2) < nI 2 := by rw [pu_lti (by omega) (by omega)]; omega
        have m1 : nI (d + 2) + (-1) = nI (d + 1) := pu_pm (d + 1)
        have m2 : nI (d + 1) - nI 1 = nI d := pu_s1 d
        have e3 : ix (nI d) = d := pu_ix (by omega)
        have e4 : ix (nI (d + 1)) = d + 1 := pu_ix (by omega)
        have i5 : isN (nI d) := pu_isN (by omega)
        have i6 : isN (nI (d + 1)) := pu_isN (by omega)
        have i7 : d < 150 := by omega
        have i8 : d + 1 < 150 := by omega
        have r := ih (i + 1) (upd q d (l_join (C i - nI 2000) (q d) (q (d + 1)))) (upd q' d (k_both (O i) (q' d) (q' (d + 1)))) (by omega) (by omega) (by
          intro j hj
          by_cases e : j = d
          · rw [e, pk_us, pk_us, join_both ho, hq d (by omega), hq (d + 1) (by omega)]
          · rw [pk_un e, pk_un e]; exact hq j (by omega))
        rw [ed] at r
        simp only [l_comesOut_4_ok, k_valueNow_4_ok, l_comesOut_4, k_valueNow_4, h1, h2, f1, e1, g1, g2, g3, hd2, f6, m1, m2, e3, e4, i1, i3, i5, i6, i7, i8, pu_p1, ↓reduceIte, true_and]
        exact r
theorem clamp_eq (v : Int32) : (if nI 0 < (if v < nI 99 then v else nI 99) then (if v < nI 99 then v else nI 99) else nI 0) = (if 0 ≤ v then (if v ≤ nI 99 then v else nI 99) else nI 0) := by
  have e0 : (nI 0).toInt = 0 := by decide
  have e9 : (nI 99).toInt = 99 := by decide
  by_cases h1 : v < nI 99
  · rw [if_pos h1]
    by_cases h2 : nI 0 < v
    · have a1 : (0 : Int32) ≤ v := by rw [pu_le, pu_z]; rw [pu_lt, e0] at h2; omega
      rw [if_pos h2, if_pos a1, if_pos (Int32.le_of_lt h1)]
    · rw [if_neg h2]
      by_cases h3 : (0 : Int32) ≤ v
      · rw [if_pos h3, if_pos (Int32.le_of_lt h1), pu_eq]
        rw [pu_lt] at h2
        rw [pu_le, pu_z] at h3
        omega
      · rw [if_neg h3]
  · rw [if_neg h1, if_pos (by decide)]
    have a1 : (0 : Int32) ≤ v := by rw [pu_le, pu_z]; rw [pu_lt, e9] at h1; omega
    rw [if_pos a1]
    by_cases h2 : v ≤ nI 99
    · rw [if_pos h2, pu_eq]
      rw [pu_lt] at h1
      rw [pu_le] at h2
      omega
    · rw [if_neg h2]
theorem clamp_in (v : Int32) : ∃ k, k ≤ 99 ∧ (if 0 ≤ v then (if v ≤ nI 99 then v else nI 99) else nI 0) = nI k := by
  by_cases h3 : (0 : Int32) ≤ v
  · rw [if_pos h3]
    by_cases h2 : v ≤ nI 99
    · rw [if_pos h2]
      exact pu_le2 (by omega) (Int32.not_lt.mpr h3) h2
    · rw [if_neg h2]; exact ⟨99, Nat.le_refl _, rfl⟩
  · rw [if_neg h3]; exact ⟨0, by omega, rfl⟩
theorem sm_law {L G C Vs Rmd O V St F : Nat → Int32} (h : LWr L C Rmd O V) (hG : ∀ f, f < 8 → G f = F f) :
    l_comesOut_ok L G C Vs ∧ k_dutyNow_ok Rmd O V St F ∧ (l_comesOut L G C Vs).1 = (k_dutyNow Rmd O V St F).1 ∧ ∃ v, v ≤ 99 ∧ (k_dutyNow Rmd O V St F).1 = nI v := by
  have hx : ∀ (x : Int32) (r : Nat → Int32), (if 0 ≤ x then (if x ≤ nI 99 then (x, r) else (nI 99, r)) else (nI 0, r)).1 = (if 0 ≤ x then (if x ≤ nI 99 then x else nI 99) else nI 0) := by
    intro x r
    split
    · split <;> rfl
    · rfl
  rcases h with ⟨h1, h2, h3⟩ | ⟨c, hc1, hc, h1, h2, hC, hd, hd1⟩
  · obtain ⟨m, hm⟩ : ∃ m, FU = m + 1 + 1 := ⟨4998, FU_eq⟩
    have e0 : ix (nI 0) = 0 := by decide
    have f1 : ¬ nI 1 ≤ nI 0 := by decide
    have f2 : nI 1000 < nI 2000 := by decide
    have f3 : ¬ nI 2000 ≤ nI 1000 := by decide
    have f4 : ¬ nI 150 ≤ nI 0 := by decide
    have f5 : nI 1000 ≤ nI 1000 := by decide
    have f6 : ix ((nI 1000 - nI 1000) &&& nI 7) = 0 := by decide
    have f7 : nI 1 ≤ nI 1 := by decide
    have f8 : nI 0 + nI 1 = nI 1 := by decide
    have i1 : isN (nI 0) := pu_isN (by omega)
    have i2 : isN ((nI 1000 - nI 1000) &&& nI 7) := ⟨0, by omega, by decide⟩
    simp only [l_comesOut_ok, l_comesOut, k_dutyNow_ok, k_dutyNow, hm, l_comesOut_4_ok, l_comesOut_4, h1, h2, h3, e0, f1, f2, f3, f4, f5, f6, f7, f8, i1, i2, pk_us, hx, clamp_eq, hG 0 (by omega), ↓reduceIte, true_and, and_true, show (0 < 150) = True from by simp, show (0 < 8) = True from by simp]
    exact clamp_in _
  · have h30 : ¬ Rmd 30 = 0 := by rw [h2]; exact nI_ne0 (by omega) (by omega)
    obtain ⟨r1, r2, r3⟩ := ev_lp hc h1 h2 hC hd hG FU 0 Vs St (by omega) (by rw [FU_eq]; omega) (by intro j hj; simp only [dp] at hj; omega)
    simp only [dp] at r1 r2 r3
    have r4 := r3 0 (by omega)
    simp only [l_comesOut_ok, l_comesOut, k_dutyNow_ok, k_dutyNow, h30, ↓reduceIte, and_true, k_valueNow_ok, k_valueNow, hx]
    refine ⟨r1, r2, ?_, ?_⟩
    · rw [clamp_eq, r4]
      exact (hx _ _).symm
    · obtain ⟨v, hv, ev⟩ := clamp_in ((k_valueNow_4 Rmd O V F FU (nI 0) (nI 0) St).2.2 0)
      exact ⟨v, hv, (hx _ _).trans ev⟩
