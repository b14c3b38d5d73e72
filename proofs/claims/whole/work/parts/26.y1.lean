/-! bits, once more -/
noncomputable def bsc (P : Nat → Prop) (n : Nat) : Nat := @bsn P (fun _ => Classical.propDecidable _) n
theorem bsc_eq (P : Nat → Prop) [∀ i, Decidable (P i)] : ∀ n, bsn P n = bsc P n
  | 0 => rfl
  | n + 1 => by
    have ih := bsc_eq P n
    unfold bsc at ih ⊢
    simp only [bsn, ih]
    by_cases h : P n
    · simp only [if_pos h]
    · simp only [if_neg h]
theorem bsc_lt (P : Nat → Prop) (n : Nat) : bsc P n < 2 ^ n := @bsn_lt P (fun _ => Classical.propDecidable _) n
theorem bsc_congr {P Q : Nat → Prop} (n : Nat) (h : ∀ i, i < n → (P i ↔ Q i)) : bsc P n = bsc Q n := @bsn_congr P Q (fun _ => Classical.propDecidable _) (fun _ => Classical.propDecidable _) n h
theorem bsc_s (P : Nat → Prop) (n : Nat) : bsc P (n + 1) = @ite _ (P n) (Classical.propDecidable _) (bsc P n + 2 ^ n) (bsc P n) := rfl
theorem bsc_t {P : Nat → Prop} {n : Nat} (h : P n) : bsc P (n + 1) = bsc P n + 2 ^ n := by rw [bsc_s, if_pos h]
theorem bsc_f {P : Nat → Prop} {n : Nat} (h : ¬ P n) : bsc P (n + 1) = bsc P n := by rw [bsc_s, if_neg h]
theorem bsc_bit (P : Nat → Prop) (n i : Nat) : (bsc P n).testBit i = true ↔ i < n ∧ P i := by
  have h := @bsn_bit P (fun _ => Classical.propDecidable _) n i
  unfold bsc
  rw [h]
  exact ⟨fun z => @of_decide_eq_true _ (_) z, fun z => @decide_eq_true _ (_) z⟩
theorem bsc_0 (P : Nat → Prop) : ∀ n, bsc P n = 0 ↔ ∀ i, i < n → ¬ P i
  | 0 => ⟨fun _ i hi => by omega, fun _ => rfl⟩
  | n + 1 => by
    have ih := bsc_0 P n
    by_cases h : P n
    · rw [bsc_t h]
      have := Nat.two_pow_pos n
      exact ⟨fun z => by omega, fun z => absurd h (z n (by omega))⟩
    · rw [bsc_f h, ih]
      refine ⟨fun z i hi => ?_, fun z i hi => z i (by omega)⟩
      by_cases e : i = n
      · subst e; exact h
      · exact z i (by omega)
theorem bsc_or {P Q : Nat → Prop} {n : Nat} (hn : n ≤ 30) : nI (bsc P n) ||| nI (bsc Q n) = nI (bsc (fun i => P i ∨ Q i) n) := by
  have h1 := bsc_lt P n
  have h2 := bsc_lt Q n
  have h3 : (2 : Nat) ^ n ≤ 2 ^ 30 := Nat.pow_le_pow_right (by omega) hn
  rw [pu_or (by omega) (by omega)]
  congr 1
  apply Nat.eq_of_testBit_eq
  intro i
  rw [Nat.testBit_or]
  have e1 := bsc_bit P n i
  have e2 := bsc_bit Q n i
  have e3 := bsc_bit (fun i => P i ∨ Q i) n i
  cases b1 : (bsc P n).testBit i <;> cases b2 : (bsc Q n).testBit i <;> cases b3 : (bsc (fun i => P i ∨ Q i) n).testBit i <;> simp_all
theorem bsc_ge {P : Nat → Prop} : ∀ {n p : Nat}, p < n → P p → 2 ^ p ≤ bsc P n
  | 0, p, h, _ => by omega
  | n + 1, p, h, hp => by
    by_cases e : p = n
    · subst e; rw [bsc_t hp]; omega
    · have := bsc_ge (P := P) (show p < n by omega) hp
      by_cases hn : P n
      · have := Nat.two_pow_pos n
        rw [bsc_t hn]; omega
      · rw [bsc_f hn]; exact this
theorem bsc_clr {P : Nat → Prop} : ∀ {n p : Nat}, p < n → bsc (fun i => P i ∧ i ≠ p) n = if (bsc P n).testBit p then bsc P n - 2 ^ p else bsc P n
  | 0, p, h => by omega
  | n + 1, p, h => by
    have hb := bsc_bit P (n + 1) p
    by_cases e : p = n
    · subst e
      rw [bsc_f (fun z => z.2 rfl), bsc_congr (Q := P) p (fun i hi => ⟨fun z => z.1, fun z => ⟨z, by omega⟩⟩)]
      by_cases hp : P p
      · rw [if_pos (hb.mpr ⟨by omega, hp⟩), bsc_t hp]; omega
      · rw [if_neg (fun z => hp (hb.mp z).2), bsc_f hp]
    · have ih := bsc_clr (P := P) (show p < n by omega)
      have hb2 := bsc_bit P n p
      by_cases hp : P p
      · have hg := bsc_ge (show p < n by omega) hp
        rw [if_pos (hb2.mpr ⟨by omega, hp⟩)] at ih
        rw [if_pos (hb.mpr ⟨by omega, hp⟩)]
        by_cases hn : P n
        · have := Nat.two_pow_pos n
          rw [bsc_t (P := fun i => P i ∧ i ≠ p) ⟨hn, fun z => e z.symm⟩, bsc_t hn, ih]; omega
        · rw [bsc_f (P := fun i => P i ∧ i ≠ p) (fun z => hn z.1), bsc_f hn, ih]
      · rw [if_neg (fun z => hp (hb2.mp z).2)] at ih
        rw [if_neg (fun z => hp (hb.mp z).2)]
        by_cases hn : P n
        · rw [bsc_t (P := fun i => P i ∧ i ≠ p) ⟨hn, fun z => e z.symm⟩, bsc_t hn, ih]
        · rw [bsc_f (P := fun i => P i ∧ i ≠ p) (fun z => hn z.1), bsc_f hn, ih]
theorem clr8 : ∀ b, b < 256 → ∀ p, p < 8 → nI b &&& ((nI 1 <<< (nI p &&& 31)) ^^^ (-1)) = nI (if b.testBit p then b - 2 ^ p else b) := by decide +kernel
theorem and8 : ∀ b, b < 256 → nI b &&& (-1) = nI b := by decide +kernel
theorem all8 : ∀ n, n ≤ 8 → (nI 1 <<< (nI n &&& 31)) - nI 1 = nI (2 ^ n - 1) := by decide +kernel
theorem bsc_all : ∀ n, bsc (fun _ => True) n = 2 ^ n - 1
  | 0 => rfl
  | n + 1 => by
    have := Nat.two_pow_pos n
    rw [bsc_t (P := fun _ => True) trivial, bsc_all n, Nat.pow_succ]; omega
theorem bsc_clI {P : Nat → Prop} {n p : Nat} (hn : n ≤ 8) (hp : p < n) : nI (bsc P n) &&& ((nI 1 <<< (nI p &&& 31)) ^^^ (-1)) = nI (bsc (fun i => P i ∧ i ≠ p) n) := by
  have h1 := bsc_lt P n
  have h3 : (2 : Nat) ^ n ≤ 2 ^ 8 := Nat.pow_le_pow_right (by omega) hn
  rw [clr8 _ (by omega) p (by omega), bsc_clr hp]
/-! places where nothing lies and nobody is -/
theorem em20 {S : Nat → Int32} {nt np : Nat} (h8 : np ≤ 8) : ∀ n, n ≤ np → k_empty_20 S nt (nI (2 ^ np - 1)) n = nI (bsc (fun p => p < n → k_lyingAt S nt (nI p) = 0) np)
  | 0, _ => by
    simp only [k_empty_20]
    rw [← bsc_all]
    congr 1
    exact bsc_congr np (fun i _ => ⟨fun _ h => by omega, fun _ => trivial⟩)
  | n + 1, hn => by
    have ih := em20 (S := S) (nt := nt) h8 n (by omega)
    have hlt := bsc_lt (fun p => p < n → k_lyingAt S nt (nI p) = 0) np
    have h3 : (2 : Nat) ^ np ≤ 2 ^ 8 := Nat.pow_le_pow_right (by omega) h8
    simp only [k_empty_20, ih]
    by_cases c : k_lyingAt S nt (nI n) = 0
    · rw [if_pos c, and8 _ (by omega)]
      congr 1
      refine bsc_congr np (fun i _ => ⟨fun h hi => ?_, fun h hi => h (by omega)⟩)
      by_cases e : i = n
      · subst e; exact c
      · exact h (by omega)
    · rw [if_neg c, bsc_clI h8 (by omega)]
      congr 1
      refine bsc_congr np (fun i _ => ⟨fun h hi => ?_, fun h => ⟨fun hi => h (by omega), fun e => ?_⟩⟩)
      · exact h.1 (by have := h.2; omega)
      · subst e; exact c (h (by omega))
theorem em56 {S : Nat → Int32} {np nf : Nat} (h8 : np ≤ 8) {P : Nat → Prop} (hS : ∀ a, a < nf → ∃ p, p < np ∧ S (20 + a) = nI p) : ∀ n, n ≤ nf → k_empty_56 S (nI (bsc P np)) n = nI (bsc (fun p => P p ∧ ∀ a, a < n → ¬ S (20 + a) = nI p) np)
  | 0, _ => by
    simp only [k_empty_56]
    congr 1
    exact bsc_congr np (fun i _ => ⟨fun h => ⟨h, fun a ha => by omega⟩, fun h => h.1⟩)
  | n + 1, hn => by
    have ih := em56 (P := P) h8 hS n (by omega)
    obtain ⟨p, hp, ep⟩ := hS n (by omega)
    simp only [k_empty_56, ih, ep]
    rw [bsc_clI h8 hp]
    congr 1
    refine bsc_congr np (fun i hi => ⟨fun h => ⟨h.1.1, fun a ha => ?_⟩, fun h => ⟨⟨h.1, fun a ha => h.2 a (by omega)⟩, fun e => ?_⟩⟩)
    · by_cases e : a = n
      · subst e
        rw [ep]
        exact fun z => h.2 (pu_inj (by omega) (by omega) z).symm
      · exact h.1.2 a (by omega)
    · subst e; exact h.2 n (by omega) ep
theorem em4 (R : Nat → Int32) (nt nf : Nat) : ∀ n, n ≤ 30 → e_empty_4 R nt nf n = nI (bsc (fun p => d_lyingAt R nt (nI p) = 0 ∧ d_findersAt R nf (nI p) = 0) n)
  | 0, _ => rfl
  | n + 1, hn => by
    have ih := em4 R nt nf n (by omega)
    have hlt := bsc_lt (fun p => d_lyingAt R nt (nI p) = 0 ∧ d_findersAt R nf (nI p) = 0) n
    simp only [e_empty_4, ih]
    by_cases c1 : d_lyingAt R nt (nI n) = 0
    · by_cases c2 : d_findersAt R nf (nI n) = 0
      · rw [if_pos c1, if_pos c2, pu_orb (by omega) hlt, bsc_t ⟨c1, c2⟩]
      · rw [if_pos c1, if_neg c2, bsc_f (fun z => c2 z.2)]
    · rw [if_neg c1, bsc_f (fun z => c1 z.1)]
theorem fa_bs (R : Nat → Int32) (x : Int32) : ∀ n, n ≤ 30 → d_findersAt_4 R x n = nI (bsc (fun a => R (1 + a) = x) n)
  | 0, _ => rfl
  | n + 1, hn => by
    have hlt := bsc_lt (fun a => R (1 + a) = x) n
    simp only [d_findersAt_4, fa_bs R x n (by omega)]
    by_cases c : R (1 + n) = x
    · rw [if_pos c, pu_orb (by omega) hlt, bsc_t (P := fun a => R (1 + a) = x) c]
    · rw [if_neg c, bsc_f (P := fun a => R (1 + a) = x) c]
theorem em_eq {np nt nf : Nat} {R S : Nat → Int32} (hD : DR np nt nf R S) (h8 : np ≤ 8) (h10 : nt ≤ 10) (h6 : nf ≤ 6) : k_empty_56 S (k_empty_20 S nt ((nI 1 <<< (nI np &&& 31)) - nI 1) np) nf = e_empty_4 R nt nf np := by
  have hS : ∀ a, a < nf → ∃ p, p < np ∧ S (20 + a) = nI p := fun a ha => by
    obtain ⟨p, hp, ep⟩ := hD.2.2.1 a ha
    exact ⟨p, hp, (hD.2.1 a ha).1.trans ep⟩
  rw [all8 np h8, em20 h8 np (Nat.le_refl _), em56 h8 hS nf (Nat.le_refl _), em4 R nt nf np (by omega)]
  congr 1
  refine bsc_congr np (fun p hp => ?_)
  have hl : k_lyingAt S nt (nI p) = d_lyingAt R nt (nI p) := la_eq hD (by omega) h6 nt (Nat.le_refl _)
  rw [hl]
  have hf : d_findersAt R nf (nI p) = 0 ↔ ∀ a, a < nf → ¬ S (20 + a) = nI p := by
    have hlt := bsc_lt (fun a => R (1 + a) = nI p) nf
    have h3 : (2 : Nat) ^ nf ≤ 2 ^ 6 := Nat.pow_le_pow_right (by omega) h6
    rw [show d_findersAt R nf (nI p) = nI (bsc (fun a => R (1 + a) = nI p) nf) from fa_bs R (nI p) nf (by omega), ← nI_0, pu_eqi (by omega) (by omega), bsc_0]
    exact ⟨fun h a ha z => h a ha ((hD.2.1 a ha).1.symm.trans z), fun h a ha z => h a ha ((hD.2.1 a ha).1.trans z)⟩
  rw [hf]
  exact ⟨fun h => ⟨h.1 hp, h.2⟩, fun h => ⟨fun _ => h.1, h.2⟩⟩
/-! ways from a finder to a thing -/
theorem fr_cases {np : Nat} {Fa Fo : Nat → Int32} (h : FR np Fa Fo) {p q : Nat} (hp : p < np) (hq : q < np) : (∃ d, d < 1000 ∧ v_farFrom Fa p q = nI d ∧ Fo (8 * p + q) = nI d) ∨ (v_farFrom Fa p q = -1 ∧ Fo (8 * p + q) = nI 9999) := by
  simp only [v_farFrom]
  rcases h p q hp hq with ⟨d, hd1, g1, g2⟩ | ⟨g1, g2⟩
  · left
    exact ⟨d, hd1, by rw [g1, if_neg (fun z => by have := (pu_lei (by omega) (by omega)).mp z; omega)], g2⟩
  · right
    exact ⟨by rw [g1, if_pos (Int32.le_refl _)], g2⟩
theorem wy_cases {np nt nf : Nat} {R N Fa Fo : Nat → Int32} (hD : DR np nt nf R N) (hF : FR np Fa Fo) (h8 : np ≤ 8 ∧ nf ≤ 6) {a t : Nat} (ha : a < nf) (ht : t < nt) :
    w_wayTo_ok Fa R a t ∧ isN (N (20 + a)) ∧ isN (N (0 + t)) ∧ 8 * ix (N (20 + a)) + ix (N (0 + t)) < 64 ∧
    ((∃ d, d < 1000 ∧ w_wayTo Fa R a t = nI d ∧ N (10 + t) = -1 ∧ Fo (8 * ix (N (20 + a)) + ix (N (0 + t))) = nI d) ∨ (w_wayTo Fa R a t = -1 ∧ (N (10 + t) = -1 → Fo (8 * ix (N (20 + a)) + ix (N (0 + t))) = nI 9999))) := by
  obtain ⟨h8, h6⟩ := h8
  obtain ⟨p, hp, ep⟩ := hD.2.2.1 a ha
  have e1 : N (20 + a) = nI p := (hD.2.1 a ha).1.trans ep
  have e4 := hD.2.2.2.1 t ht
  simp only [w_wayTo, w_wayTo_ok, e1, e4, ep, Nat.zero_add]
  rcases hD.2.2.2.2.1 t ht with ⟨g1, g2, q, hq, eq⟩ | ⟨b, hb, g1, g2, g3⟩
  · have gn : ¬ nI q = -1 := pu_nm (by omega)
    rw [g1, g2, eq, if_neg gn, if_neg gn, pu_ix (show p < 2147483648 by omega), pu_ix (show q < 2147483648 by omega)]
    refine ⟨⟨pu_isN (by omega), by omega, pu_isN (by omega), by omega, trivial⟩, pu_isN (by omega), pu_isN (by omega), by omega, ?_⟩
    rcases fr_cases hF hp hq with ⟨d, d1, d2, d3⟩ | ⟨d2, d3⟩
    · exact Or.inl ⟨d, d1, d2, rfl, d3⟩
    · exact Or.inr ⟨d2, fun _ => d3⟩
  · obtain ⟨q, hq, eq⟩ := hD.2.2.1 b hb
    have gn : ¬ nI b = -1 := pu_nm (by omega)
    rw [g1, g2, g3, eq, if_pos rfl, if_pos rfl, pu_ix (show p < 2147483648 by omega), pu_ix (show q < 2147483648 by omega)]
    exact ⟨trivial, pu_isN (by omega), pu_isN (by omega), by omega, Or.inr ⟨rfl, fun z => absurd z gn⟩⟩
theorem nr_lp {np nt nf : Nat} {R N Fa Fo : Nat → Int32} (hD : DR np nt nf R N) (hF : FR np Fa Fo) (h8 : np ≤ 8 ∧ nf ≤ 6) (h10 : nt ≤ 10) {a : Nat} (ha : a < nf) (x : Int32) : ∀ n, n ≤ nt →
    (w_nearestThing_8 Fa R a n = (-1, nI 1000000) ∧ k_near_41 N Fo (nI a) x n = (-1, nI 9999)) ∨ (∃ t d, t < n ∧ d < 1000 ∧ w_nearestThing_8 Fa R a n = (nI t, nI d) ∧ k_near_41 N Fo (nI a) x n = (nI t, nI d) ∧ w_wayTo Fa R a t = nI d)
  | 0, _ => Or.inl ⟨rfl, rfl⟩
  | n + 1, hn => by
    have ih := nr_lp hD hF h8 h10 ha x n (by omega)
    have ia : ix (nI a) = a := pu_ix (by omega)
    obtain ⟨-, -, -, -, hc⟩ := wy_cases hD hF h8 ha (show n < nt by omega)
    simp only [w_nearestThing_8, k_near_41, ia]
    rcases hc with ⟨d, hd, g1, g2, g3⟩ | ⟨g1, g2⟩
    · have gn : ¬ nI d = -1 := pu_nm (by omega)
      rcases ih with ⟨i1, i2⟩ | ⟨t, d', ht, hd', i1, i2, i3⟩
      · right
        refine ⟨n, d, by omega, hd, ?_, ?_, g1⟩
        · simp only [i1, g1, if_neg gn, if_neg (show ¬ nI 1000000 ≤ nI d from fun z => by have := (pu_lei (by omega) (by omega)).mp z; omega)]
        · simp only [i2, if_pos g2, g3, if_pos ((pu_lti (show d < 2147483648 by omega) (show 9999 < 2147483648 by omega)).mpr (by omega))]
      · right
        by_cases c : d < d'
        · refine ⟨n, d, by omega, hd, ?_, ?_, g1⟩
          · simp only [i1, g1, if_neg gn, if_neg (show ¬ nI d' ≤ nI d from fun z => by have := (pu_lei (by omega) (by omega)).mp z; omega)]
          · simp only [i2, if_pos g2, g3, if_pos ((pu_lti (show d < 2147483648 by omega) (show d' < 2147483648 by omega)).mpr c)]
        · refine ⟨t, d', by omega, hd', ?_, ?_, i3⟩
          · simp only [i1, g1, if_neg gn, if_pos ((pu_lei (show d' < 2147483648 by omega) (show d < 2147483648 by omega)).mpr (by omega))]
          · simp only [i2, if_pos g2, g3, if_neg (show ¬ nI d < nI d' from fun z => c ((pu_lti (by omega) (by omega)).mp z))]
    · have hk : ∀ s3 s4 : Int32, s4 = nI 9999 ∨ (∃ d', d' < 1000 ∧ s4 = nI d') → (if N (10 + n) = -1 then (if Fo (8 * ix (N (20 + a)) + ix (N (0 + n))) < s4 then (nI n, Fo (8 * ix (N (20 + a)) + ix (N (0 + n)))) else (s3, s4)) else (s3, s4)) = (s3, s4) := by
        intro s3 s4 h4
        by_cases c : N (10 + n) = -1
        · rw [if_pos c, g2 c, if_neg]
          rcases h4 with rfl | ⟨d', hd', rfl⟩
          · exact fun z => by have := (pu_lti (by omega) (by omega)).mp z; omega
          · exact fun z => by have := (pu_lti (by omega) (by omega)).mp z; omega
        · rw [if_neg c]
      rcases ih with ⟨i1, i2⟩ | ⟨t, d', ht, hd', i1, i2, i3⟩
      · left
        refine ⟨?_, ?_⟩
        · simp only [i1, g1, ↓reduceIte]
        · simp only [i2]; exact hk _ _ (Or.inl rfl)
      · right
        refine ⟨t, d', by omega, hd', ?_, ?_, i3⟩
        · simp only [i1, g1, ↓reduceIte]
        · simp only [i2]; exact hk _ _ (Or.inr ⟨d', hd', rfl⟩)
