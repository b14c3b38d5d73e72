/-! rounds: sets of places as numbers, and ways that come by all of them -/
theorem ma_or : ∀ m, m < 256 → ∀ l, l < 8 → m.testBit l = false → m ||| 2 ^ l = m + 2 ^ l ∧ m + 2 ^ l < 256 := by decide +kernel
theorem ma_cl : ∀ m, m < 256 → ∀ l, l < 8 → m.testBit l = true → 2 ^ l ≤ m := by decide +kernel
theorem ma_sub : ∀ g, g < 256 → ∀ m, m < 256 → m &&& g = m → g - m = g ^^^ m := by decide +kernel
def pcn (m : Nat) : Nat → Nat
  | 0 => 0
  | n + 1 => pcn m n + (if m.testBit n = true then 1 else 0)
theorem pcn_le (m : Nat) : ∀ n, pcn m n ≤ n
  | 0 => Nat.le_refl _
  | n + 1 => by
    have ih := pcn_le m n
    simp only [pcn]
    split
    · omega
    · omega
theorem pcn_or : ∀ m, m < 256 → ∀ l, l < 8 → m.testBit l = false → pcn (m + 2 ^ l) 8 = pcn m 8 + 1 := by decide +kernel
theorem pcn_cl : ∀ m, m < 256 → ∀ l, l < 8 → m.testBit l = true → pcn (m - 2 ^ l) 8 + 1 = pcn m 8 := by decide +kernel
def Sb (m g : Nat) : Prop := ∀ i, m.testBit i = true → g.testBit i = true
theorem Sb.and {m g : Nat} (h : Sb m g) : m &&& g = m := by
  apply Nat.eq_of_testBit_eq
  intro i
  have := h i
  rw [Nat.testBit_and]
  revert this
  generalize m.testBit i = a
  generalize g.testBit i = b
  cases a <;> cases b <;> decide
theorem Sb.le {m g : Nat} (h : Sb m g) : m ≤ g := Nat.le_trans (Nat.le_of_eq h.and.symm) Nat.and_le_right
theorem Sb.bit {m g : Nat} (h : Sb m g) (hg : g < 256) (i : Nat) : (g - m).testBit i = true ↔ g.testBit i = true ∧ m.testBit i = false := by
  have hm : m < 256 := Nat.lt_of_le_of_lt h.le hg
  rw [ma_sub g hg m hm h.and, Nat.testBit_xor]
  have := h i
  revert this
  generalize m.testBit i = a
  generalize g.testBit i = b
  cases a <;> cases b <;> decide
theorem Sb.add {m g l : Nat} (h : Sb m g) (hm : m < 256) (hl : l < 8) (h1 : m.testBit l = false) (h2 : g.testBit l = true) : Sb (m + 2 ^ l) g := by
  intro i hi
  rw [← (ma_or m hm l hl h1).1, Nat.testBit_or, Nat.testBit_two_pow] at hi
  cases e : m.testBit i with
  | true => exact h i e
  | false =>
    rw [e, Bool.false_or] at hi
    rw [← of_decide_eq_true hi]
    exact h2
/-- ways on from p by all of m, and ways from st by all of m that end at l -/
def BwP (D : Nat → Nat → Nat) (np : Nat) : Nat → Nat → Nat → Nat → Prop
  | 0, _, m, d => m = 0 ∧ d = 0
  | k + 1, p, m, d => ∃ o e, o < np ∧ m.testBit o = true ∧ D p o < 1000 ∧ BwP D np k o (m - 2 ^ o) e ∧ d = D p o + e
def FwP (D : Nat → Nat → Nat) (np g st : Nat) : Nat → Nat → Nat → Nat → Prop
  | 0, m, l, d => m = 0 ∧ l = st ∧ d = 0
  | k + 1, m, l, d => ∃ m0 l0 d0, FwP D np g st k m0 l0 d0 ∧ l < np ∧ g.testBit l = true ∧ m0.testBit l = false ∧ D l0 l < 1000 ∧ m = m0 + 2 ^ l ∧ d = d0 + D l0 l
theorem FwP.facts {D : Nat → Nat → Nat} {np g st : Nat} (h8 : np ≤ 8) (hst : st < np) : ∀ k m l d, FwP D np g st k m l d → m < 256 ∧ Sb m g ∧ l < np ∧ k = pcn m 8 ∧ d ≤ 999 * k
  | 0, m, l, d, h => by
    obtain ⟨rfl, rfl, rfl⟩ := h
    exact ⟨by omega, (fun i hi => by rw [Nat.zero_testBit] at hi; cases hi), hst, by decide +kernel, by omega⟩
  | k + 1, m, l, d, h => by
    obtain ⟨m0, l0, d0, h1, h2, h3, h4, h5, rfl, rfl⟩ := h
    obtain ⟨f1, f2, f3, f4, f5⟩ := FwP.facts h8 hst k m0 l0 d0 h1
    exact ⟨(ma_or m0 f1 l (by omega) h4).2, f2.add f1 (by omega) h4 h3, h2, by rw [pcn_or m0 f1 l (by omega) h4, ← f4], by omega⟩
theorem FwP.bd {D : Nat → Nat → Nat} {np g st k m l d : Nat} (h8 : np ≤ 8) (hst : st < np) (h : FwP D np g st k m l d) : d ≤ 7992 := by
  obtain ⟨-, -, -, f4, f5⟩ := FwP.facts h8 hst k m l d h
  have := pcn_le m 8
  omega
theorem BwP.facts {D : Nat → Nat → Nat} {np : Nat} (h8 : np ≤ 8) : ∀ k p m d, m < 256 → BwP D np k p m d → k = pcn m 8 ∧ d ≤ 999 * k
  | 0, p, m, d, hm, h => by
    obtain ⟨rfl, rfl⟩ := h
    exact ⟨by decide +kernel, by omega⟩
  | k + 1, p, m, d, hm, h => by
    obtain ⟨o, e, h1, h2, h3, h4, rfl⟩ := h
    obtain ⟨f1, f2⟩ := BwP.facts h8 k o (m - 2 ^ o) e (Nat.lt_of_le_of_lt (Nat.sub_le _ _) hm) h4
    have := pcn_cl m hm o (by omega) h2
    exact ⟨by omega, by omega⟩
theorem BwP.bd {D : Nat → Nat → Nat} {np k p m d : Nat} (h8 : np ≤ 8) (hm : m < 256) (h : BwP D np k p m d) : d ≤ 7992 := by
  obtain ⟨f1, f2⟩ := BwP.facts h8 k p m d hm h
  have := pcn_le m 8
  omega
theorem FwP.on {D : Nat → Nat → Nat} {np g st : Nat} (h8 : np ≤ 8) (hst : st < np) (hg : g < 256) : ∀ k m l d j e, FwP D np g st k m l d → BwP D np j l (g - m) e → ∃ i, BwP D np i st g (d + e)
  | 0, m, l, d, j, e, h, hB => by
    obtain ⟨rfl, rfl, rfl⟩ := h
    exact ⟨j, by rw [Nat.zero_add]; exact hB⟩
  | k + 1, m, l, d, j, e, h, hB => by
    obtain ⟨m0, l0, d0, h1, h2, h3, h4, h5, rfl, rfl⟩ := h
    obtain ⟨f1, f2, f3, f4, f5⟩ := FwP.facts h8 hst k m0 l0 d0 h1
    have b : BwP D np (j + 1) l0 (g - m0) (D l0 l + e) := ⟨l, e, h2, (f2.bit hg l).mpr ⟨h3, h4⟩, h5, by rw [Nat.sub_sub]; exact hB, rfl⟩
    obtain ⟨i, hi⟩ := FwP.on h8 hst hg k m0 l0 d0 (j + 1) (D l0 l + e) h1 b
    exact ⟨i, by rw [Nat.add_assoc]; exact hi⟩
theorem BwP.on {D : Nat → Nat → Nat} {np g st : Nat} (h8 : np ≤ 8) (hst : st < np) (hg : g < 256) : ∀ j p m k d e, FwP D np g st k m p d → BwP D np j p (g - m) e → ∃ i l, FwP D np g st i g l (d + e)
  | 0, p, m, k, d, e, h, hB => by
    obtain ⟨h1, rfl⟩ := hB
    obtain ⟨f1, f2, f3, f4, f5⟩ := FwP.facts h8 hst k m p d h
    have := f2.le
    have hm : m = g := by omega
    rw [hm] at h
    exact ⟨k, p, h⟩
  | j + 1, p, m, k, d, e, h, hB => by
    obtain ⟨o, e', h1, h2, h3, h4, rfl⟩ := hB
    obtain ⟨f1, f2, f3, f4, f5⟩ := FwP.facts h8 hst k m p d h
    obtain ⟨b1, b2⟩ := (f2.bit hg o).mp h2
    have hF : FwP D np g st (k + 1) (m + 2 ^ o) o (d + D p o) := ⟨m, p, d, h, h1, b1, b2, h3, rfl, rfl⟩
    obtain ⟨i, l, hi⟩ := BwP.on h8 hst hg j o (m + 2 ^ o) (k + 1) (d + D p o) e' hF (by rw [← Nat.sub_sub]; exact h4)
    exact ⟨i, l, by rw [← Nat.add_assoc]; exact hi⟩
/-- the two least lengths are one -/
theorem FB_eq {D : Nat → Nat → Nat} {np g st : Nat} (h8 : np ≤ 8) (hst : st < np) (hg : g < 256) {x y : Int32}
    (hx : (x = -1 ∧ ∀ k l d, ¬ FwP D np g st k g l d) ∨ (∃ k l d, FwP D np g st k g l d ∧ x = nI d ∧ ∀ k' l' d', FwP D np g st k' g l' d' → d ≤ d'))
    (hy : (y = -1 ∧ ∀ k d, ¬ BwP D np k st g d) ∨ (∃ k d, BwP D np k st g d ∧ y = nI d ∧ ∀ k' d', BwP D np k' st g d' → d ≤ d')) : x = y := by
  have fb : ∀ k l d, FwP D np g st k g l d → ∃ i, BwP D np i st g d := fun k l d h => by
    obtain ⟨i, hi⟩ := FwP.on h8 hst hg k g l d 0 0 h ⟨Nat.sub_self g, rfl⟩
    exact ⟨i, hi⟩
  have bf : ∀ k d, BwP D np k st g d → ∃ i l, FwP D np g st i g l d := fun k d h => by
    obtain ⟨i, l, hi⟩ := BwP.on (D := D) (np := np) (g := g) (st := st) h8 hst hg k st 0 0 0 d ⟨rfl, rfl, rfl⟩ (by rw [Nat.sub_zero]; exact h)
    rw [Nat.zero_add] at hi
    exact ⟨i, l, hi⟩
  rcases hx with ⟨x1, x2⟩ | ⟨k, l, d, x1, x2, x3⟩
  · rcases hy with ⟨y1, -⟩ | ⟨k', d', y1, y2, y3⟩
    · rw [x1, y1]
    · obtain ⟨i, l, hi⟩ := bf k' d' y1
      exact absurd hi (x2 i l d')
  · obtain ⟨i, hi⟩ := fb k l d x1
    rcases hy with ⟨-, y2⟩ | ⟨k', d', y1, y2, y3⟩
    · exact absurd hi (y2 i d)
    · obtain ⟨i', l', hi'⟩ := bf k' d' y1
      have a := x3 i' l' d' hi'
      have b := y3 i d hi
      rw [x2, y2, show d = d' by omega]
