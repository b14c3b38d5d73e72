/-! the round of the reference -/
theorem sh8 : ∀ p, p < 8 → ∀ m, m < 256 → ((nI p) <<< ((nI 8) &&& 31)) ||| nI m = nI (p * 256 + m) := by decide +kernel
/-- what the table says of one place and one set -/
def MIa (D : Nat → Nat → Nat) (np p m : Nat) (x : Int32) : Prop := (x = nI 9999 ∧ ∀ k d, ¬ BwP D np k p m d) ∨ (∃ k d, BwP D np k p m d ∧ x = nI d ∧ ∀ k' d', BwP D np k' p m d' → d ≤ d')
theorem r107 {np s p : Nat} {D : Nat → Nat → Nat} {Fa Fo U : Nat → Int32} (hF : FD np D Fa Fo) (h8 : np ≤ 8) (hs : s < 256) (hp : p < np) (hU : ∀ m q, m < s → q < np → MIa D np q m (U (q * 256 + m))) (x1 x2 : Int32) : ∀ n, n ≤ np →
    (∃ v, v ≤ 9999 ∧ k_round_107 Fo U x1 x2 (nI s) p n = nI v ∧ (v = 9999 ∨ ∃ o k e, o < n ∧ s.testBit o = true ∧ D p o < 1000 ∧ BwP D np k o (s - 2 ^ o) e ∧ v = D p o + e) ∧ ∀ o k e, o < n → s.testBit o = true → D p o < 1000 → BwP D np k o (s - 2 ^ o) e → v ≤ D p o + e) ∧ ∀ i, i < n → k_round_107_ok Fo U x1 x2 (nI s) p i
  | 0, _ => ⟨⟨9999, Nat.le_refl _, by simp only [k_round_107], Or.inl rfl, fun o k e ho => by omega⟩, fun i hi => by omega⟩
  | n + 1, hn => by
    obtain ⟨⟨v, v1, v2, v3, v4⟩, ok⟩ := r107 hF h8 hs hp hU x1 x2 n (by omega)
    have hb := tb10 s (by omega) n (by omega)
    by_cases c : s.testBit n = true
    · rw [if_pos c] at hb
      have hc := clr8 s hs n (by omega)
      rw [if_pos c] at hc
      have hle := ma_cl s hs n (by omega) c
      have h2 := Nat.two_pow_pos n
      have hsm : s - 2 ^ n < 256 := Nat.lt_of_le_of_lt (Nat.sub_le _ _) hs
      have hi := sh8 n (by omega) (s - 2 ^ n) hsm
      have ixi : ix (nI (n * 256 + (s - 2 ^ n))) = n * 256 + (s - 2 ^ n) := pu_ix (by omega)
      have hu := hU (s - 2 ^ n) n (by omega) (by omega)
      have ok' : ∀ i, i < n + 1 → k_round_107_ok Fo U x1 x2 (nI s) p i := fun i hi' => by
        by_cases e : i = n
        · rw [e]
          simp only [k_round_107_ok, hb, if_neg pu_n10, hc, hi, ixi]
          exact ⟨pu_isN (by omega), by omega, trivial⟩
        · exact ok i (by omega)
      refine ⟨?_, ok'⟩
      have same : (D p n < 1000 → ∀ k e, BwP D np k n (s - 2 ^ n) e → v ≤ D p n + e) → nI v ≤ Fo (8 * p + n) + U (n * 256 + (s - 2 ^ n)) → ∃ v, v ≤ 9999 ∧ k_round_107 Fo U x1 x2 (nI s) p (n + 1) = nI v ∧ (v = 9999 ∨ ∃ o k e, o < n + 1 ∧ s.testBit o = true ∧ D p o < 1000 ∧ BwP D np k o (s - 2 ^ o) e ∧ v = D p o + e) ∧ ∀ o k e, o < n + 1 → s.testBit o = true → D p o < 1000 → BwP D np k o (s - 2 ^ o) e → v ≤ D p o + e := by
        intro h1 h3
        refine ⟨v, v1, ?_, ?_, ?_⟩
        · simp only [k_round_107, hb, if_neg pu_n10, v2, hc, hi, ixi, if_pos h3]
        · rcases v3 with e | ⟨o, k, e, o1, o2⟩
          · exact Or.inl e
          · exact Or.inr ⟨o, k, e, by omega, o2⟩
        · intro o k e o1 o2 o3 o4
          by_cases eo : o = n
          · subst eo
            exact h1 o3 k e o4
          · exact v4 o k e (by omega) o2 o3 o4
      rcases hF p n hp (by omega) with ⟨f1, -, f3⟩ | ⟨f1, -, f3⟩
      · rcases hu with ⟨u1, u2⟩ | ⟨k, e, u1, u2, u3⟩
        · refine same (fun _ k e he => absurd he (u2 k e)) ?_
          rw [f3, u1, nI_add]
          exact (pu_lei (by omega) (by omega)).mpr (by omega)
        · have eb := u1.bd h8 hsm
          by_cases y : v ≤ D p n + e
          · refine same (fun _ k' e' he => by have := u3 k' e' he; omega) ?_
            rw [f3, u2, nI_add]
            exact (pu_lei (by omega) (by omega)).mpr y
          · refine ⟨D p n + e, by omega, ?_, Or.inr ⟨n, k, e, by omega, c, f1, u1, rfl⟩, fun o k' e' o1 o2 o3 o4 => ?_⟩
            · simp only [k_round_107, hb, if_neg pu_n10, v2, hc, hi, ixi, f3, u2, nI_add]
              rw [if_neg (fun z => y ((pu_lei (by omega) (by omega)).mp z))]
            · by_cases eo : o = n
              · subst eo
                have := u3 k' e' o4
                omega
              · have := v4 o k' e' (by omega) o2 o3 o4
                omega
      · refine same (fun z => absurd z f1) ?_
        rw [f3]
        rcases hu with ⟨u1, -⟩ | ⟨k, e, u1, u2, -⟩
        · rw [u1, nI_add]
          exact (pu_lei (by omega) (by omega)).mpr (by omega)
        · have eb := u1.bd h8 hsm
          rw [u2, nI_add]
          exact (pu_lei (by omega) (by omega)).mpr (by omega)
    · rw [if_neg c] at hb
      refine ⟨⟨v, v1, ?_, ?_, ?_⟩, fun i hi' => ?_⟩
      · simp only [k_round_107, hb, if_pos pu_n01, v2]
      · rcases v3 with e | ⟨o, k, e, o1, o2⟩
        · exact Or.inl e
        · exact Or.inr ⟨o, k, e, by omega, o2⟩
      · intro o k e o1 o2 o3 o4
        by_cases eo : o = n
        · rw [eo] at o2
          exact absurd o2 c
        · exact v4 o k e (by omega) o2 o3 o4
      · by_cases e : i = n
        · rw [e]
          simp only [k_round_107_ok, hb, if_pos pu_n01]
        · exact ok i (by omega)
theorem r107b (Fo U : Nat → Int32) (x1 x2 : Int32) (p : Nat) : ∀ n, n ≤ 8 → k_round_107b Fo U x1 x2 (nI 0) p n = nI 0
  | 0, _ => by simp only [k_round_107b]
  | n + 1, hn => by
    have hb := tb10 0 (by omega) n (by omega)
    rw [Nat.zero_testBit, if_neg Bool.false_ne_true] at hb
    simp only [k_round_107b, hb, if_pos pu_n01]
    exact r107b Fo U x1 x2 p n (by omega)
theorem r82 {np s : Nat} {D : Nat → Nat → Nat} {Fa Fo U : Nat → Int32} (hF : FD np D Fa Fo) (h8 : np ≤ 8) (hs : s < 256) (hU : ∀ m q, m < s → q < np → MIa D np q m (U (q * 256 + m))) (x1 x2 : Int32) : ∀ n, n ≤ np →
    (∀ m q, m < s → q < np → k_round_82 Fo U np x1 x2 (nI s) n (q * 256 + m) = U (q * 256 + m)) ∧ (∀ q, q < n → MIa D np q s (k_round_82 Fo U np x1 x2 (nI s) n (q * 256 + s))) ∧ ∀ i, i < n → k_round_82_ok Fo U np x1 x2 (nI s) i
  | 0, _ => ⟨fun m q _ _ => by simp only [k_round_82], fun q hq => by omega, fun i hi => by omega⟩
  | n + 1, hn => by
    obtain ⟨i1, i2, i3⟩ := r82 hF h8 hs hU x1 x2 n (by omega)
    have hi := sh8 n (by omega) s hs
    have ixi : ix (nI (n * 256 + s)) = n * 256 + s := pu_ix (by omega)
    have hU' : ∀ m q, m < s → q < np → MIa D np q m (k_round_82 Fo U np x1 x2 (nI s) n (q * 256 + m)) := fun m q hm hq => by
      rw [i1 m q hm hq]
      exact hU m q hm hq
    obtain ⟨⟨v, v1, v2, v3, v4⟩, ok⟩ := r107 hF h8 hs (show n < np by omega) hU' x1 x2 np (Nat.le_refl _)
    have ok' : k_round_82_ok Fo U np x1 x2 (nI s) n := by
      simp only [k_round_82_ok, hi, ixi]
      split
      · exact ⟨ok, pu_isN (by omega), by omega, trivial⟩
      · exact ⟨ok, pu_isN (by omega), by omega, trivial⟩
    by_cases c : s = 0
    · have c0 : nI s = 0 := by rw [c, nI_0]
      have hr : k_round_82 Fo U np x1 x2 (nI s) (n + 1) = upd (k_round_82 Fo U np x1 x2 (nI s) n) (n * 256 + s) (nI 0) := by
        have hb : k_round_107b Fo (k_round_82 Fo U np x1 x2 (nI s) n) x1 x2 (nI s) n np = nI 0 := by
          rw [c]
          exact r107b Fo _ x1 x2 n np h8
        simp only [k_round_82, if_pos c0, hi, ixi, hb]
      rw [hr]
      refine ⟨fun m q hm hq => by omega, fun q hq => ?_, fun i hi' => ?_⟩
      · by_cases e : q = n
        · rw [e, pk_us]
          refine Or.inr ⟨0, 0, ⟨c, rfl⟩, rfl, fun _ _ _ => Nat.zero_le _⟩
        · rw [pk_un (by omega)]
          exact i2 q (by omega)
      · by_cases e : i = n
        · rw [e]; exact ok'
        · exact i3 i (by omega)
    · have c0 : ¬ nI s = 0 := fun z => by
        rw [← nI_0] at z
        exact c (pu_inj (by omega) (by omega) z)
      have hr : k_round_82 Fo U np x1 x2 (nI s) (n + 1) = upd (k_round_82 Fo U np x1 x2 (nI s) n) (n * 256 + s) (nI v) := by
        simp only [k_round_82, if_neg c0, hi, ixi, v2]
      rw [hr]
      refine ⟨fun m q hm hq => ?_, fun q hq => ?_, fun i hi' => ?_⟩
      · rw [pk_un (by omega)]
        exact i1 m q hm hq
      · by_cases e : q = n
        · subst e
          rw [pk_us]
          rcases v3 with e9 | ⟨o, k, e, o1, o2, o3, o4, o5⟩
          · refine Or.inl ⟨by rw [e9], fun k d hk => ?_⟩
            cases k with
            | zero => exact c hk.1
            | succ k =>
              have hb := hk.bd h8 hs
              obtain ⟨o, e, o1, o2, o3, o4, o5⟩ := hk
              have := v4 o k e o1 o2 o3 o4
              omega
          · refine Or.inr ⟨k + 1, v, ⟨o, e, o1, o2, o3, o4, o5⟩, rfl, fun k' d' hk => ?_⟩
            cases k' with
            | zero => exact absurd hk.1 c
            | succ k' =>
              obtain ⟨o', e', p1, p2, p3, p4, p5⟩ := hk
              have := v4 o' k' e' p1 p2 p3 p4
              omega
        · rw [pk_un (by omega)]
          exact i2 q (by omega)
      · by_cases e : i = n
        · rw [e]; exact ok'
        · exact i3 i (by omega)
theorem r74 {np g : Nat} {D : Nat → Nat → Nat} {Fa Fo : Nat → Int32} (hF : FD np D Fa Fo) (h8 : np ≤ 8) (hg : g < 256) (x1 : Int32) : ∀ (k s : Nat) (U : Nat → Int32), s ≤ g + 1 → g + 1 < s + k → (∀ m q, m < s → q < np → MIa D np q m (U (q * 256 + m))) → k_round_74_ok Fo np x1 (nI g) k (nI s) U ∧ ∀ m q, m < g + 1 → q < np → MIa D np q m ((k_round_74 Fo np x1 (nI g) k (nI s) U).2 (q * 256 + m))
  | 0, s, U, h1, h2, hU => by omega
  | k + 1, s, U, h1, h2, hU => by
    by_cases c : s = g + 1
    · have f : nI g < nI s := (pu_lti (by omega) (by omega)).mpr (by omega)
      simp only [k_round_74_ok, k_round_74, if_pos f]
      rw [c] at hU
      exact ⟨trivial, hU⟩
    · have f : ¬ nI g < nI s := fun z => by
        have := (pu_lti (by omega) (by omega)).mp z
        omega
      obtain ⟨a1, a2, a3⟩ := r82 hF h8 (show s < 256 by omega) hU x1 (nI g) np (Nat.le_refl _)
      obtain ⟨b1, b2⟩ := r74 hF h8 hg x1 k (s + 1) (k_round_82 Fo U np x1 (nI g) (nI s) np) (by omega) (by omega) (fun m q hm hq => by
        by_cases e : m = s
        · rw [e]; exact a2 q hq
        · rw [a1 m q (by omega) hq]
          exact hU m q (by omega) hq)
      simp only [k_round_74_ok, k_round_74, if_neg f, nI_add]
      exact ⟨⟨a3, b1⟩, b2⟩
