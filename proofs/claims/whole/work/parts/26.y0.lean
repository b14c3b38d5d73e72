/-! what is asked, loop by loop -/
theorem lu_eq {np nt nf : Nat} {R S : Nat → Int32} (hD : DR np nt nf R S) (hz : np ≤ 8 ∧ nf ≤ 6) : ∀ n, n ≤ nf → k_lucky_13 S nt n = e_lucky_4 R nt n
  | 0, _ => rfl
  | n + 1, h => by
    have ih := lu_eq hD hz n (by omega)
    obtain ⟨p, hp, ep⟩ := hD.2.2.1 n (by omega)
    obtain ⟨g1, g2, -⟩ := hD.2.1 n (by omega)
    have hl : k_lyingAt S nt (nI p) = d_lyingAt R nt (nI p) := la_eq hD (by omega) hz.2 nt (Nat.le_refl _)
    simp only [k_lucky_13, e_lucky_4, ih, g1, g2, ep, hl, pu_or0]
theorem tri (x : Int32) : ((x ≤ 0) = False ∧ (0 < x) = True ∧ (x = 0) = False ∧ (0 ≤ x) = True) ∨ ((x ≤ 0) = True ∧ (0 < x) = False ∧ (x = 0) = True ∧ (0 ≤ x) = True) ∨ ((x ≤ 0) = True ∧ (0 < x) = False ∧ (x = 0) = False ∧ (0 ≤ x) = False) := by
  have e1 : (x ≤ 0) ↔ x.toInt ≤ 0 := by rw [pu_le, pu_z]
  have e2 : (0 < x) ↔ 0 < x.toInt := by rw [pu_lt, pu_z]
  have e3 : (x = 0) ↔ x.toInt = 0 := by rw [pu_eq, pu_z]
  have e4 : (0 ≤ x) ↔ 0 ≤ x.toInt := by rw [pu_le, pu_z]
  rw [propext e1, propext e2, propext e3, propext e4]
  simp only [eq_iff_iff, iff_true, iff_false]
  omega
theorem so_eq {np nt nf : Nat} {R S W TH : Nat → Int32} (hD : DR np nt nf R S) (hT : TW nt W TH) {k : Nat} (hk : k ≤ 2) : ∀ n, n ≤ nf → k_sound_30 TH S nt (nI k) n = e_sound_11 W R nt (nI k) n
  | 0, _ => rfl
  | n + 1, h => by
    have ih := so_eq hD hT hk n (by omega)
    obtain ⟨g1, g2, -⟩ := hD.2.1 n (by omega)
    have hh : k_heldBy S nt (nI n) = d_heldBy R nt (nI n) := hb_eq _ nt (fun t ht => hD.2.2.2.1 t ht)
    have hw : k_worthOf TH nt (d_heldBy R nt (nI n)) = v_worthOf W nt (d_heldBy R nt (nI n)) := wo_eq hT _ nt (Nat.le_refl _)
    simp only [k_sound_30, e_sound_11, ih, g2, hh, hw, pu_or0]
    generalize v_worthOf W nt (d_heldBy R nt (nI n)) - R (7 + n) = x
    have hk3 : k = 0 ∨ k = 1 ∨ k = 2 := by omega
    have n12 : ¬ nI 1 = nI 2 := by decide
    have n21 : ¬ nI 2 = nI 1 := by decide
    have n02 : ¬ nI 0 = nI 2 := by decide
    have n20 : ¬ nI 2 = nI 0 := by decide
    have n01 : ¬ nI 0 = nI 1 := by decide
    have n10' : ¬ nI 1 = nI 0 := by decide
    rcases hk3 with rfl | rfl | rfl
    · rcases tri x with ⟨q1, q2, q3, q4⟩ | ⟨q1, q2, q3, q4⟩ | ⟨q1, q2, q3, q4⟩ <;> simp only [q1, q2, q3, q4, if_pos pu_n01, n10', n20, n01, n02, ↓reduceIte]
    · rcases tri x with ⟨q1, q2, q3, q4⟩ | ⟨q1, q2, q3, q4⟩ | ⟨q1, q2, q3, q4⟩ <;> simp only [q1, q2, q3, q4, pu_n10, n21, n12, n01, ↓reduceIte]
    · rcases tri x with ⟨q1, q2, q3, q4⟩ | ⟨q1, q2, q3, q4⟩ | ⟨q1, q2, q3, q4⟩ <;> simp only [q1, q2, q3, q4, pu_n20, n21, n12, n02, ↓reduceIte]
theorem bu_eq {np nt nf : Nat} {R S : Nat → Int32} (hD : DR np nt nf R S) (x : Int32) : ∀ n, n ≤ nf → (k_burden_29 S x n).1 = e_burden_11 R (nI 0) n ∧ (k_burden_29 S x n).2 = e_burden_11 R (nI 1) n
  | 0, _ => ⟨rfl, rfl⟩
  | n + 1, h => by
    obtain ⟨ih1, ih2⟩ := bu_eq hD x n (by omega)
    obtain ⟨g1, g2, -⟩ := hD.2.1 n (by omega)
    obtain ⟨g3, g4, -⟩ := hD.2.2.2.2.2 n (by omega)
    simp only [k_burden_29, e_burden_11, g2, if_pos pu_n01, if_neg pu_n10]
    rcases x1 : k_burden_29 S x n with ⟨a, b⟩
    rw [x1] at ih1 ih2
    simp only at ih1 ih2
    subst ih1 ih2
    generalize e_burden_11 R (nI 0) n = a
    generalize e_burden_11 R (nI 1) n = b
    generalize R (7 + n) = y at *
    have e0 : (nI 0 < y) ↔ 0 < y.toInt := by rw [pu_lt, pu_nI (by omega)]; rfl
    have e1 : (y ≤ 0) ↔ y.toInt ≤ 0 := by rw [pu_le, pu_z]
    have e2 : (0 ≤ y) ↔ 0 ≤ y.toInt := by rw [pu_le, pu_z]
    have e3 : (nI 0 < -y) ↔ 0 < -y.toInt := by rw [pu_lt, pu_nI (by omega), pu_neg (by omega) (by omega)]; rfl
    have s0 : ∀ z : Int32, z - nI 0 = z := fun z => by rw [nI_0, Int32.sub_zero]
    have s1 : ∀ z : Int32, z - y = z + -y := fun z => Int32.sub_eq_add_neg z y
    by_cases c1 : y.toInt ≤ 0
    · rw [if_pos (e1.mpr c1)]
      by_cases c2 : 0 ≤ y.toInt
      · rw [if_pos (e2.mpr c2), if_neg (fun z => by have := e0.mp z; omega), if_neg (fun z => by have := e3.mp z; omega)]
        exact ⟨rfl, by simp only [s0, pu_add0]⟩
      · rw [if_neg (fun z => c2 (e2.mp z)), if_neg (fun z => by have := e0.mp z; omega), if_pos (e3.mpr (by omega))]
        exact ⟨rfl, s1 b⟩
    · rw [if_neg (fun z => c1 (e1.mp z)), if_pos (e2.mpr (by omega)), if_pos (e0.mpr (by omega)), if_neg (fun z => by have := e3.mp z; omega)]
      exact ⟨rfl, by simp only [s0, pu_add0]⟩
theorem en_eq {np nt nf a : Nat} {R N W TH : Nat → Int32} (hD : DR np nt nf R N) (hT : TW nt W TH) (ha : a < nf) (h6 : nf ≤ 6) : ∀ k i s, i + k = nt → k_enough_20_ok TH N (nI a) k i s ∧ k_enough_20 TH N (nI a) k i s = d_eachEnough_15 W R a (R (7 + a)) k i s
  | 0, i, s, _ => ⟨trivial, rfl⟩
  | k + 1, i, s, h => by
    have e1 := (hD.2.1 a ha).2.1
    have e2 := hD.2.2.2.1 i (by omega)
    have e3 := (hT i (by omega)).1
    have i1 : ix (nI a) = a := pu_ix (by omega)
    have i2 : isN (nI a) := pu_isN (by omega)
    have ih := fun s => en_eq hD hT ha h6 k (i + 1) s (by omega)
    simp only [k_enough_20_ok, k_enough_20, d_eachEnough_15, i1, i2, e1, e2, e3, pu_or0, show 26 + a < 51 by omega, true_and, (ih _).1, (ih _).2, ite_self]
theorem gr_eq {nt : Nat} {R N W TH : Nat → Int32} (hT : TW nt W TH) (hH : ∀ t, t < nt → N (10 + t) = R (41 + t)) (h10 : nt ≤ 10) (x : Int32) : ∀ n, n ≤ nt → k_greatest_26 TH N x n = d_greatestLying_4 W R n ∧ (d_greatestLying_4 W R n = -1 ∨ ∃ t, t < n ∧ d_greatestLying_4 W R n = nI t) ∧ ∀ i, i < n → d_greatestLying_4_ok W R i ∧ k_greatest_26_ok TH N x i
  | 0, _ => ⟨rfl, Or.inl rfl, fun i hi => by omega⟩
  | n + 1, h => by
    obtain ⟨ih1, ih2, ih3⟩ := gr_eq hT hH h10 x n (by omega)
    have e1 := hH n (by omega)
    have hok : d_greatestLying_4_ok W R n ∧ k_greatest_26_ok TH N x n := by
      simp only [d_greatestLying_4_ok, k_greatest_26_ok, e1, ih1]
      rcases ih2 with e | ⟨t, ht, e⟩
      · rw [e]; simp only [↓reduceIte, ite_self, and_self]
      · rw [e, if_neg (pu_nm (by omega)), if_neg (pu_nm (by omega)), pu_ix (by omega)]
        have := pu_isN (show t < 2147483648 by omega)
        constructor <;> (split <;> first | trivial | exact ⟨this, by omega, trivial⟩)
    refine ⟨?_, ?_, fun i hi => ?_⟩
    · simp only [k_greatest_26, d_greatestLying_4, ih1, e1]
      rcases ih2 with e | ⟨t, ht, e⟩
      · rw [e]; simp only [↓reduceIte]
      · rw [e, if_neg (pu_nm (by omega)), if_neg (pu_nm (by omega)), pu_ix (by omega), (hT n (by omega)).1, (hT t (by omega)).1]
    · simp only [d_greatestLying_4]
      have hn : ∃ t, t < n + 1 ∧ nI n = nI t := ⟨n, by omega, rfl⟩
      have ho : d_greatestLying_4 W R n = -1 ∨ ∃ t, t < n + 1 ∧ d_greatestLying_4 W R n = nI t := by
        rcases ih2 with e | ⟨t, ht, e⟩
        · exact Or.inl e
        · exact Or.inr ⟨t, by omega, e⟩
      repeat' split
      all_goals first | exact ho | exact Or.inr hn
    · by_cases e : i = n
      · subst e; exact hok
      · exact ih3 i (by omega)
theorem de_eq {np nt nf : Nat} {R N : Nat → Int32} (hD : DR np nt nf R N) (h6 : nf ≤ 6) (x : Int32) : ∀ n, n ≤ nf → k_deepest_26 N x n = d_deepestOwing_4 R n ∧ (d_deepestOwing_4 R n = -1 ∨ ∃ t, t < n ∧ d_deepestOwing_4 R n = nI t) ∧ ∀ i, i < n → d_deepestOwing_4_ok R i ∧ k_deepest_26_ok N x i
  | 0, _ => ⟨rfl, Or.inl rfl, fun i hi => by omega⟩
  | n + 1, h => by
    obtain ⟨ih1, ih2, ih3⟩ := de_eq hD h6 x n (by omega)
    have hok : d_deepestOwing_4_ok R n ∧ k_deepest_26_ok N x n := by
      simp only [d_deepestOwing_4_ok, k_deepest_26_ok, ih1]
      rcases ih2 with e | ⟨t, ht, e⟩
      · rw [e]; simp only [↓reduceIte, and_self]
      · rw [e, if_neg (pu_nm (by omega)), if_neg (pu_nm (by omega)), pu_ix (by omega)]
        have := pu_isN (show t < 2147483648 by omega)
        exact ⟨⟨this, by omega, trivial⟩, this, by omega, trivial⟩
    refine ⟨?_, ?_, fun i hi => ?_⟩
    · simp only [k_deepest_26, d_deepestOwing_4, ih1]
      rcases ih2 with e | ⟨t, ht, e⟩
      · rw [e]; simp only [↓reduceIte]
      · rw [e, if_neg (pu_nm (by omega)), if_neg (pu_nm (by omega)), pu_ix (by omega), (hD.2.1 n (by omega)).2.1, (hD.2.1 t (by omega)).2.1]
    · simp only [d_deepestOwing_4]
      have hn : ∃ t, t < n + 1 ∧ nI n = nI t := ⟨n, by omega, rfl⟩
      have ho : d_deepestOwing_4 R n = -1 ∨ ∃ t, t < n + 1 ∧ d_deepestOwing_4 R n = nI t := by
        rcases ih2 with e | ⟨t, ht, e⟩
        · exact Or.inl e
        · exact Or.inr ⟨t, by omega, e⟩
      repeat' split
      all_goals first | exact ho | exact Or.inr hn
    · by_cases e : i = n
      · subst e; exact hok
      · exact ih3 i (by omega)
/-! sets of things -/
theorem pa_eq {nt : Nat} {W TH : Nat → Int32} (hT : TW nt W TH) (x : Int32) {H : Nat} (hH : H < 1024) : ∀ (k k' u : Nat) (s : Int32), H + 1 < u + k → H + 1 < u + k' → u ≤ H + 1 → d_setsWorth_12_ok W nt x (nI H) k s (nI u) ∧ k_parts_49_ok TH nt x (nI H) k' s (nI u) ∧ (k_parts_49 TH nt x (nI H) k' s (nI u)).1 = (d_setsWorth_12 W nt x (nI H) k s (nI u)).1
  | 0, k', u, s, h, _, _ => by omega
  | k + 1, 0, u, s, _, h, _ => by omega
  | k + 1, k' + 1, u, s, h1, h2, h3 => by
    have hw : k_worthOf TH nt (nI u) = v_worthOf W nt (nI u) := wo_eq hT _ nt (Nat.le_refl _)
    simp only [d_setsWorth_12_ok, d_setsWorth_12, k_parts_49_ok, k_parts_49, hw, pu_add0, pu_p1, true_and]
    by_cases c : H < u
    · have f : nI H < nI u := (pu_lti (by omega) (by omega)).mpr c
      simp only [if_pos f, and_self]
    · have f : ¬ nI H < nI u := fun z => c ((pu_lti (by omega) (by omega)).mp z)
      have ih := fun s => pa_eq hT x hH k k' (u + 1) s (by omega) (by omega) (by omega)
      simp only [if_neg f]
      split
      · split
        · exact ih _
        · exact ih _
      · exact ih _
/-! the nights that lie ahead -/
theorem ah_lp {np nr nt nf : Nat} {W TH : Nat → Int32} (hT : TW nt W TH) (hz : SZ np nr nt nf) {n : Nat} (hn : n ≤ 99) (x : Int32) : ∀ (k k' u : Nat) (R S : Nat → Int32), n < u + k → n < u + k' → u ≤ n → DR np nt nf R S → e_ahead_28_ok W nt nf (nI n) x k (nI u) R ∧ k_ahead_46_ok TH nt nf (nI n) x k' (nI u) S ∧ DR np nt nf (e_ahead_28 W nt nf (nI n) x k (nI u) R).2 (k_ahead_46 TH nt nf (nI n) x k' (nI u) S).2
  | 0, k', u, R, S, h, _, _, _ => by omega
  | k + 1, 0, u, R, S, _, h, _, _ => by omega
  | k + 1, k' + 1, u, R, S, h1, h2, h3, hD => by
    simp only [e_ahead_28_ok, e_ahead_28, k_ahead_46_ok, k_ahead_46, pu_p1]
    by_cases c : n ≤ u
    · have f : nI n ≤ nI u := (pu_lei (by omega) (by omega)).mpr c
      simp only [if_pos f, true_and]
      exact hD
    · have f : ¬ nI n ≤ nI u := fun z => c ((pu_lei (by omega) (by omega)).mp z)
      obtain ⟨g1, g2, g3, -, -⟩ := sm_night hD hT hz
      obtain ⟨i1, i2, i3⟩ := ah_lp hT hz hn x k k' (u + 1) (d_nightFalls W R nt nf).2 (k_passes TH S nt nf).2 (by omega) (by omega) (by omega) g3
      simp only [if_neg f, g1, g2, true_and]
      exact ⟨i1, i2, i3⟩
