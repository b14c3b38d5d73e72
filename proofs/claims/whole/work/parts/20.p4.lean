/-! nights -/
theorem DR_sh {np nt nf : Nat} {R S : Nat → Int32} (hD : DR np nt nf R S) (hz : np ≤ 8 ∧ nt ≤ 10 ∧ nf ≤ 6) {a : Nat} (x : Int32) (ha : a < nf) : DR np nt nf (upd R (25 + a) x) (upd S (44 + a) x) := by
  obtain ⟨hz1, hz2, hz3⟩ := hz
  obtain ⟨h1, h2, h3, h4, h5, h6⟩ := hD
  refine ⟨?_, fun b hb => ?_, fun b hb => ?_, fun u hu => ?_, fun u hu => ?_, fun b hb => ?_⟩
  · simp (disch := omega) only [pk_un, h1]
  · obtain ⟨g1, g2, g3, g4, g5⟩ := h2 b hb
    by_cases e : b = a
    · subst e
      simp (disch := omega) only [pk_us, pk_un, g1, g2, g3, g4, and_self]
    · simp (disch := omega) only [pk_un, g1, g2, g3, g4, g5, and_self]
  · obtain ⟨q, hq, eq⟩ := h3 b hb
    exact ⟨q, hq, by simp (disch := omega) only [pk_un, eq]⟩
  · simp (disch := omega) only [pk_un, h4 u hu]
  · rcases h5 u hu with ⟨g1, g2, q, hq, eq⟩ | ⟨b, hb, g1, g2, g3⟩
    · left
      exact ⟨by simp (disch := omega) only [pk_un, g1], by simp (disch := omega) only [pk_un, g2], q, hq, by simp (disch := omega) only [pk_un, eq]⟩
    · right
      exact ⟨b, hb, by simp (disch := omega) only [pk_un, g1], by simp (disch := omega) only [pk_un, g2], by simp (disch := omega) only [pk_un, g3]⟩
  · obtain ⟨g1, g2, v, hv, ev⟩ := h6 b hb
    simp (disch := omega) only [pk_un]
    exact ⟨g1, g2, v, hv, ev⟩
theorem DR_w0 {np nt nf : Nat} {R S : Nat → Int32} (hD : DR np nt nf R S) (hz : np ≤ 8 ∧ nt ≤ 10 ∧ nf ≤ 6) {a : Nat} (ha : a < nf) : DR np nt nf (upd R (13 + a) (nI 0)) (upd S (32 + a) (nI 0)) := by
  obtain ⟨hz1, hz2, hz3⟩ := hz
  obtain ⟨h1, h2, h3, h4, h5, h6⟩ := hD
  refine ⟨?_, fun b hb => ?_, fun b hb => ?_, fun u hu => ?_, fun u hu => ?_, fun b hb => ?_⟩
  · simp (disch := omega) only [pk_un, h1]
  · obtain ⟨g1, g2, g3, g4, g5⟩ := h2 b hb
    by_cases e : b = a
    · subst e
      simp (disch := omega) only [pk_us, pk_un, g1, g2, g4, g5, and_self]
    · simp (disch := omega) only [pk_un, g1, g2, g3, g4, g5, and_self]
  · obtain ⟨q, hq, eq⟩ := h3 b hb
    exact ⟨q, hq, by simp (disch := omega) only [pk_un, eq]⟩
  · simp (disch := omega) only [pk_un, h4 u hu]
  · rcases h5 u hu with ⟨g1, g2, q, hq, eq⟩ | ⟨b, hb, g1, g2, g3⟩
    · left
      exact ⟨by simp (disch := omega) only [pk_un, g1], by simp (disch := omega) only [pk_un, g2], q, hq, by simp (disch := omega) only [pk_un, eq]⟩
    · right
      exact ⟨b, hb, by simp (disch := omega) only [pk_un, g1], by simp (disch := omega) only [pk_un, g2], by simp (disch := omega) only [pk_un, g3]⟩
  · obtain ⟨g1, g2, v, hv, ev⟩ := h6 b hb
    by_cases e : b = a
    · subst e
      simp (disch := omega) only [pk_us, pk_un]
      exact ⟨g1, g2, 0, by omega, rfl⟩
    · simp (disch := omega) only [pk_un]
      exact ⟨g1, g2, v, hv, ev⟩
theorem DR_day {np nt nf : Nat} {R S : Nat → Int32} (hD : DR np nt nf R S) (hz : np ≤ 8 ∧ nt ≤ 10 ∧ nf ≤ 6) (x : Int32) : DR np nt nf (upd R 0 x) (upd S 50 x) := by
  obtain ⟨hz1, hz2, hz3⟩ := hz
  obtain ⟨h1, h2, h3, h4, h5, h6⟩ := hD
  refine ⟨?_, fun b hb => ?_, fun b hb => ?_, fun u hu => ?_, fun u hu => ?_, fun b hb => ?_⟩
  · simp (disch := omega) only [pk_us]
  · obtain ⟨g1, g2, g3, g4, g5⟩ := h2 b hb
    simp (disch := omega) only [pk_un, g1, g2, g3, g4, g5, and_self]
  · obtain ⟨q, hq, eq⟩ := h3 b hb
    exact ⟨q, hq, by simp (disch := omega) only [pk_un, eq]⟩
  · simp (disch := omega) only [pk_un, h4 u hu]
  · rcases h5 u hu with ⟨g1, g2, q, hq, eq⟩ | ⟨b, hb, g1, g2, g3⟩
    · left
      exact ⟨by simp (disch := omega) only [pk_un, g1], by simp (disch := omega) only [pk_un, g2], q, hq, by simp (disch := omega) only [pk_un, eq]⟩
    · right
      exact ⟨b, hb, by simp (disch := omega) only [pk_un, g1], by simp (disch := omega) only [pk_un, g2], by simp (disch := omega) only [pk_un, g3]⟩
  · obtain ⟨g1, g2, v, hv, ev⟩ := h6 b hb
    simp (disch := omega) only [pk_un]
    exact ⟨g1, g2, v, hv, ev⟩
theorem lh_eq {nt : Nat} {R S W TH : Nat → Int32} (hT : TW nt W TH) (hH : ∀ t, t < nt → S (10 + t) = R (41 + t)) (h10 : nt ≤ 10) (a : Nat) : ∀ n, n ≤ nt → k_passes_52 TH S a n = d_leastHeld_4 W R (nI a) n ∧ (d_leastHeld_4 W R (nI a) n = -1 ∨ ∃ t, t < n ∧ d_leastHeld_4 W R (nI a) n = nI t ∧ R (41 + t) = nI a)
  | 0, _ => ⟨rfl, Or.inl rfl⟩
  | n + 1, hn => by
    obtain ⟨ih1, ih2⟩ := lh_eq hT hH h10 a n (by omega)
    simp only [k_passes_52, d_leastHeld_4, hH n (by omega), ih1]
    by_cases h : R (41 + n) = nI a
    · rw [if_pos h, if_pos h]
      rcases ih2 with e | ⟨t, ht, e, hr⟩
      · rw [e, if_pos rfl, if_pos rfl]
        exact ⟨rfl, Or.inr ⟨n, by omega, rfl, h⟩⟩
      · rw [e, if_neg (pu_nm (by omega)), if_neg (pu_nm (by omega)), pu_ix (by omega), (hT t (by omega)).1, (hT n (by omega)).1]
        refine ⟨rfl, Or.inr ?_⟩
        by_cases h2 : W t ≤ W n
        · rw [if_pos h2]; exact ⟨t, by omega, rfl, hr⟩
        · rw [if_neg h2]; exact ⟨n, by omega, rfl, h⟩
    · rw [if_neg h, if_neg h]
      refine ⟨rfl, ?_⟩
      rcases ih2 with e | ⟨t, ht, e, hr⟩
      · exact Or.inl e
      · exact Or.inr ⟨t, by omega, e, hr⟩
theorem lh_ok {nt : Nat} {R S W TH : Nat → Int32} (hT : TW nt W TH) (hH : ∀ t, t < nt → S (10 + t) = R (41 + t)) (h10 : nt ≤ 10) (a : Nat) : d_leastHeld_ok W R nt (nI a) ∧ ∀ i, i < nt → k_passes_52_ok TH S a i := by
  refine ⟨⟨fun i hi => ?_, trivial⟩, fun i hi => ?_⟩
  · obtain ⟨-, h2⟩ := lh_eq hT hH h10 a i (by omega)
    simp only [d_leastHeld_4_ok]
    split
    · split
      · trivial
      · rcases h2 with e | ⟨t, ht, e, -⟩
        · exact absurd e ‹_›
        · rw [e]
          exact ⟨pu_isN (by omega), by rw [pu_ix (by omega)]; omega, trivial⟩
    · trivial
  · obtain ⟨h1, h2⟩ := lh_eq hT hH h10 a i (by omega)
    simp only [k_passes_52_ok, h1]
    split
    · split
      · trivial
      · rcases h2 with e | ⟨t, ht, e, -⟩
        · exact absurd e ‹_›
        · rw [e]
          exact ⟨pu_isN (by omega), by rw [pu_ix (by omega)]; omega, trivial⟩
    · trivial
theorem drop_same {np nt nf : Nat} {R S : Nat → Int32} (hD : DR np nt nf R S) (hz : np ≤ 8 ∧ nt ≤ 10 ∧ nf ≤ 6) {a t : Nat} (ha : a < nf) (ht : t < nt) (hh : R (41 + t) = nI a) : DR np nt nf (d_drop R a t).2 (upd S (10 + t) (-1)) := by
  have g6 := hD.2.2.2.2.2 a ha
  have q := DR_drop hD hz ha ht hh (o := R (7 + a)) ⟨g6.1, g6.2.1⟩
  rw [upd_self] at q
  have e : upd (upd S (10 + t) (-1)) (26 + a) (R (7 + a)) = upd S (10 + t) (-1) := by
    have : R (7 + a) = upd S (10 + t) (-1) (26 + a) := by rw [pk_un (by omega), (hD.2.1 a ha).2.1]
    rw [this, upd_self]
  rw [e] at q
  exact q
theorem nf_lp {np nr nt nf : Nat} {R S W TH : Nat → Int32} (hD : DR np nt nf R S) (hT : TW nt W TH) (hz : SZ np nr nt nf) : ∀ n, n ≤ nf →
    DR np nt nf (d_nightFalls_2 W R nt n) (k_passes_2 TH S nt n) ∧ (∀ b, b < nf → k_passes_2 TH S nt n (38 + b) = S (38 + b)) ∧ d_nightFalls_2 W R nt n 0 = R 0 ∧ (∀ i, i < n → d_nightFalls_2_ok W R nt i ∧ k_passes_2_ok TH S nt i)
  | 0, _ => ⟨hD, fun _ _ => rfl, rfl, fun i hi => by omega⟩
  | n + 1, hn => by
    obtain ⟨ih, ihf, ih0, ihk⟩ := nf_lp hD hT hz n (by omega)
    obtain ⟨z1, z2, z3, z4⟩ := hz
    have hz' : np ≤ 8 ∧ nt ≤ 10 ∧ nf ≤ 6 := ⟨z1, z3, z4⟩
    suffices hm : DR np nt nf (d_nightFalls_2 W R nt (n + 1)) (k_passes_2 TH S nt (n + 1)) ∧ (∀ b, b < nf → k_passes_2 TH S nt (n + 1) (38 + b) = S (38 + b)) ∧ d_nightFalls_2 W R nt (n + 1) 0 = R 0 ∧ d_nightFalls_2_ok W R nt n ∧ k_passes_2_ok TH S nt n by
      refine ⟨hm.1, hm.2.1, hm.2.2.1, fun i hi => ?_⟩
      by_cases e : i = n
      · subst e; exact hm.2.2.2
      · exact ihk i (by omega)
    simp only [d_nightFalls_2, k_passes_2, d_nightFalls_2_ok, k_passes_2_ok]
    generalize d_nightFalls_2 W R nt n = Rn at *
    generalize k_passes_2 TH S nt n = Sn at *
    have hD1 := DR_w0 ih hz' (a := n) (by omega)
    have hS1 : ∀ b, b < nf → upd Sn (32 + n) (nI 0) (38 + b) = S (38 + b) := fun b hb => by rw [pk_un (by omega)]; exact ihf b hb
    have hR1 : upd Rn (13 + n) (nI 0) 0 = R 0 := by rw [pk_un (by omega)]; exact ih0
    generalize upd Rn (13 + n) (nI 0) = R1 at *
    generalize upd Sn (32 + n) (nI 0) = S1 at *
    have e1 := (hD1.2.1 n (by omega)).2.1
    have e5 := (hD1.2.1 n (by omega)).2.2.2.2
    rw [e1, e5]
    by_cases h : R1 (7 + n) ≤ 0
    · have h' : ¬ 0 < R1 (7 + n) := Int32.not_lt.mpr h
      rw [if_pos h, if_neg h', if_neg h', if_pos h]
      exact ⟨hD1, hS1, hR1, trivial, trivial⟩
    · have h' : 0 < R1 (7 + n) := Int32.not_le.mp h
      rw [if_neg h, if_pos h', if_pos h', if_neg h]
      have hD2 := DR_sh hD1 hz' (a := n) (R1 (25 + n) + nI 1) (by omega)
      have hS2 : ∀ b, b < nf → upd S1 (44 + n) (R1 (25 + n) + nI 1) (38 + b) = S (38 + b) := fun b hb => by rw [pk_un (by omega)]; exact hS1 b hb
      have hR2 : upd R1 (25 + n) (R1 (25 + n) + nI 1) 0 = R 0 := by rw [pk_un (by omega)]; exact hR1
      generalize upd R1 (25 + n) (R1 (25 + n) + nI 1) = R2 at *
      generalize upd S1 (44 + n) (R1 (25 + n) + nI 1) = S2 at *
      obtain ⟨l1, l2⟩ := lh_eq hT hD2.2.2.2.1 z3 n nt (Nat.le_refl _)
      obtain ⟨k1, k2⟩ := lh_ok hT hD2.2.2.2.1 z3 n
      rcases l2 with e | ⟨t, ht, e, hr⟩
      · have e2 : d_leastHeld W R2 nt (nI n) = -1 := e
        have e3 : k_passes_52 TH S2 n nt = -1 := l1.trans e
        simp only [e2, e3, ↓reduceIte, and_true]
        exact ⟨hD2, hS2, hR2, k1, k2⟩
      · have e2 : d_leastHeld W R2 nt (nI n) = nI t := e
        have e3 : k_passes_52 TH S2 n nt = nI t := l1.trans e
        have hne : ¬ nI t = -1 := pu_nm (by omega)
        simp only [e2, e3, hne, ↓reduceIte, pu_ix (show t < 2147483648 by omega), and_true]
        refine ⟨drop_same hD2 hz' (by omega) ht hr, fun b hb => ?_, ?_, ⟨k1, pu_isN (by omega), by omega⟩, k2, pu_isN (by omega), by omega⟩
        · rw [pk_un (by omega)]; exact hS2 b hb
        · simp (disch := omega) only [d_drop, pk_un]
          exact hR2
theorem sm_night {np nr nt nf : Nat} {R S W TH : Nat → Int32} (hD : DR np nt nf R S) (hT : TW nt W TH) (hz : SZ np nr nt nf) :
    d_nightFalls_ok W R nt nf ∧ k_passes_ok TH S nt nf ∧ DR np nt nf (d_nightFalls W R nt nf).2 (k_passes TH S nt nf).2 ∧ (d_nightFalls W R nt nf).2 0 = R 0 + nI 1 ∧ (∀ b, b < nf → (k_passes TH S nt nf).2 (38 + b) = S (38 + b)) := by
  obtain ⟨h1, h2, h3, h4⟩ := nf_lp hD hT hz nf (Nat.le_refl _)
  obtain ⟨z1, z2, z3, z4⟩ := hz
  refine ⟨⟨fun i hi => (h4 i hi).1, trivial⟩, ⟨fun i hi => (h4 i hi).2, trivial⟩, ?_, ?_, ?_⟩
  · simp only [d_nightFalls, k_passes, h1.1]
    exact DR_day h1 ⟨z1, z3, z4⟩ _
  · simp only [d_nightFalls, pk_us, h3]
  · intro b hb
    simp only [k_passes]
    rw [pk_un (by omega)]
    exact h2 b hb
