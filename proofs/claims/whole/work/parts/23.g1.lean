/-! the reference's ways -/
theorem lf0 (F : Nat → Int32) : ∀ n, n ≤ 64 → ∀ j, j < n → k_layFar_2 F n j = if j / 8 = j % 8 then nI 0 else nI 9999
  | 0, _, j, hj => by omega
  | n + 1, hn, j, hj => by
    simp only [k_layFar_2, pk_div (show n < 2 ^ 31 by omega) (show 0 < 8 by omega) (show 8 < 2 ^ 31 by omega), pk_rem (show n < 2 ^ 31 by omega) (show 0 < 8 by omega) (show 8 < 2 ^ 31 by omega)]
    have hi : nI (n / 8) = nI (n % 8) ↔ n / 8 = n % 8 := pu_eqi (by omega) (by omega)
    have hrem : nI n - nI (n / 8) * nI 8 = nI (n % 8) := by
      rw [← pk_div (show n < 2 ^ 31 by omega) (show 0 < 8 by omega) (show 8 < 2 ^ 31 by omega)]
      exact pk_rem (show n < 2 ^ 31 by omega) (show 0 < 8 by omega) (show 8 < 2 ^ 31 by omega)
    try rw [hrem]
    by_cases c : j = n
    · subst c
      by_cases c2 : j / 8 = j % 8
      · rw [if_pos (hi.mpr c2), if_pos c2, pk_us]
      · rw [if_neg (fun z => c2 (hi.mp z)), if_neg c2, pk_us]
    · have ih := lf0 F n (by omega) j (by omega)
      split
      · rw [pk_un c]; exact ih
      · rw [pk_un c]; exact ih
theorem bf_src {np : Nat} {C RO : Nat → Int32} {O : Nat → Nat → Nat} (h : NT 8 9999 np C O) (h8 : np ≤ 8) {n1 n2 a b l : Nat} (ha : a < np) (hb : b < np) (hab : a ≠ b) (hl : RO (3 * n2 + 2) = nI l) (hl9 : l ≤ 9) :
    ∀ i, i ≤ np → NT 8 9999 np (k_layFar_80 RO C n1 n2 (nI a) (nI b) i) (fun p q => if p < i then (if q = b then min (O p b) (O p a + l) else if q = a then min (O p a) (O p b + l) else O p q) else O p q)
  | 0, _ => h.cg (fun x q _ _ => by simp)
  | i + 1, hi => by
    have ih := bf_src (n1 := n1) h h8 ha hb hab hl hl9 i (by omega)
    obtain ⟨eA, bA⟩ := ih i a (by omega) ha
    obtain ⟨eB, bB⟩ := ih i b (by omega) hb
    simp only [Nat.lt_irrefl, ↓reduceIte] at eA bA eB bB
    simp only [k_layFar_80, pu_ix (show a < 2147483648 by omega), pu_ix (show b < 2147483648 by omega), hl]
    generalize k_layFar_80 RO C n1 n2 (nI a) (nI b) i = D at *
    have eu : ∀ x, upd D (8 * i + b) x (8 * i + a) = nI (O i a) := fun x => by rw [pk_un (by omega)]; exact eA
    simp only [eA, eB, eu, nI_add]
    intro p q hp hq
    obtain ⟨e0, b0⟩ := ih p q hp hq
    have c1 : nI (O i b) ≤ nI (O i a + l) ↔ O i b ≤ O i a + l := pu_lei (by omega) (by omega)
    have c2 : nI (O i a) ≤ nI (O i b + l) ↔ O i a ≤ O i b + l := pu_lei (by omega) (by omega)
    by_cases hpi : p = i
    · subst hpi
      simp only [Nat.lt_irrefl, ↓reduceIte] at e0 b0
      simp only [show p < p + 1 by omega, ↓reduceIte]
      by_cases hqb : q = b
      · subst hqb
        simp only [↓reduceIte]
        by_cases d1 : O p q ≤ O p a + l
        · rw [if_pos (c1.mpr d1)]
          by_cases d2 : O p a ≤ O p q + l
          · rw [if_pos (c2.mpr d2), eB]
            exact ⟨by congr 1; omega, by omega⟩
          · rw [if_neg (fun z => d2 (c2.mp z)), pk_un (by omega), eB]
            exact ⟨by congr 1; omega, by omega⟩
        · rw [if_neg (fun z => d1 (c1.mp z))]
          by_cases d2 : O p a ≤ O p q + l
          · rw [if_pos (c2.mpr d2), pk_us]
            exact ⟨by congr 1; omega, by omega⟩
          · rw [if_neg (fun z => d2 (c2.mp z)), pk_un (by omega), pk_us]
            exact ⟨by congr 1; omega, by omega⟩
      · by_cases hqa : q = a
        · subst hqa
          simp only [hqb, ↓reduceIte]
          by_cases d1 : O p b ≤ O p q + l
          · rw [if_pos (c1.mpr d1)]
            by_cases d2 : O p q ≤ O p b + l
            · rw [if_pos (c2.mpr d2), eA]
              exact ⟨by congr 1; omega, by omega⟩
            · rw [if_neg (fun z => d2 (c2.mp z)), pk_us]
              exact ⟨by congr 1; omega, by omega⟩
          · rw [if_neg (fun z => d1 (c1.mp z))]
            by_cases d2 : O p q ≤ O p b + l
            · rw [if_pos (c2.mpr d2), eu]
              exact ⟨by congr 1; omega, by omega⟩
            · rw [if_neg (fun z => d2 (c2.mp z)), pk_us]
              exact ⟨by congr 1; omega, by omega⟩
        · simp only [hqb, hqa, ↓reduceIte]
          split
          · split
            · exact ⟨e0, b0⟩
            · rw [pk_un (by omega)]; exact ⟨e0, b0⟩
          · split
            · rw [pk_un (by omega)]; exact ⟨e0, b0⟩
            · rw [pk_un (by omega), pk_un (by omega)]; exact ⟨e0, b0⟩
    · have e1 : (if p < i + 1 then (if q = b then min (O p b) (O p a + l) else if q = a then min (O p a) (O p b + l) else O p q) else O p q) = (if p < i then (if q = b then min (O p b) (O p a + l) else if q = a then min (O p a) (O p b + l) else O p q) else O p q) := by
        by_cases c : p < i
        · rw [if_pos c, if_pos (by omega)]
        · rw [if_neg c, if_neg (by omega)]
      simp only [e1]
      split
      · split
        · exact ⟨e0, b0⟩
        · rw [pk_un (by omega)]; exact ⟨e0, b0⟩
      · split
        · rw [pk_un (by omega)]; exact ⟨e0, b0⟩
        · rw [pk_un (by omega), pk_un (by omega)]; exact ⟨e0, b0⟩
def SO (np nr : Nat) (a b l : Nat → Nat) (O : Nat → Nat → Nat) : Prop := (∀ p, p < np → O p p = 0) ∧ ∀ p q, p < np → q < np → O p q = 9999 ∨ ∃ k, Wk nr a b l k p q (O p q)
theorem SO.relax {np nr : Nat} {a b l : Nat → Nat} {O : Nat → Nat → Nat} (hE : Ends np nr a b l) (hO : ∀ p q, p < np → q < np → O p q ≤ 9999) (h : SO np nr a b l O) {r : Nat} (hr : r < nr) :
    SO np nr a b l (fun p q => if q = b r then min (O p (b r)) (O p (a r) + l r) else if q = a r then min (O p (a r)) (O p (b r) + l r) else O p q) := by
  obtain ⟨h1, h2⟩ := h
  obtain ⟨ha, hb, hl⟩ := hE r hr
  refine ⟨fun p hp => ?_, fun p q hp hq => ?_⟩
  · have := h1 p hp
    show (if p = b r then min (O p (b r)) (O p (a r) + l r) else if p = a r then min (O p (a r)) (O p (b r) + l r) else O p p) = 0
    split
    · rename_i c; rw [← c]; omega
    · split
      · rename_i c; rw [← c]; omega
      · exact this
  · show (if q = b r then min (O p (b r)) (O p (a r) + l r) else if q = a r then min (O p (a r)) (O p (b r) + l r) else O p q) = 9999 ∨ ∃ k, Wk nr a b l k p q (if q = b r then min (O p (b r)) (O p (a r) + l r) else if q = a r then min (O p (a r)) (O p (b r) + l r) else O p q)
    by_cases c1 : q = b r
    · simp only [c1, ↓reduceIte]
      by_cases d : O p (b r) ≤ O p (a r) + l r
      · rw [show min (O p (b r)) (O p (a r) + l r) = O p (b r) by omega]
        exact h2 p _ hp hb
      · rw [show min (O p (b r)) (O p (a r) + l r) = O p (a r) + l r by omega]
        have := hO p (b r) hp hb
        rcases h2 p _ hp ha with e | ⟨k, w⟩
        · omega
        · exact Or.inr ⟨k + 1, w.app (Wk.one ⟨r, hr, Or.inl ⟨rfl, rfl⟩, rfl⟩)⟩
    · by_cases c2 : q = a r
      · simp only [c1, c2, ↓reduceIte]
        have c3 : ¬ a r = b r := fun e => c1 (c2.trans e)
        simp only [c3, ↓reduceIte]
        by_cases d : O p (a r) ≤ O p (b r) + l r
        · rw [show min (O p (a r)) (O p (b r) + l r) = O p (a r) by omega]
          exact h2 p _ hp ha
        · rw [show min (O p (a r)) (O p (b r) + l r) = O p (b r) + l r by omega]
          have := hO p (a r) hp ha
          rcases h2 p _ hp hb with e | ⟨k, w⟩
          · omega
          · exact Or.inr ⟨k + 1, w.app (Wk.one ⟨r, hr, Or.inr ⟨rfl, rfl⟩, rfl⟩)⟩
      · simp only [c1, c2, ↓reduceIte]
        exact h2 p q hp hq
def RD (np nr : Nat) (RO : Nat → Int32) (a b l : Nat → Nat) : Prop := ∀ r, r < nr → RO (3 * r) = nI (a r) ∧ RO (3 * r + 1) = nI (b r) ∧ RO (3 * r + 2) = nI (l r) ∧ a r < np ∧ b r < np ∧ a r ≠ b r ∧ 1 ≤ l r ∧ l r ≤ 9
theorem RD.ends {np nr : Nat} {RO : Nat → Int32} {a b l : Nat → Nat} (h : RD np nr RO a b l) : Ends np nr a b l := fun r hr => ⟨(h r hr).2.2.2.1, (h r hr).2.2.2.2.1, (h r hr).2.2.2.2.2.2.2⟩
theorem bf_rd {np nr : Nat} {C RO : Nat → Int32} {O : Nat → Nat → Nat} {a b l : Nat → Nat} (hR : RD np nr RO a b l) (h : NT 8 9999 np C O) (h8 : np ≤ 8) (hS : SO np nr a b l O) (n1 : Nat) : ∀ i, i ≤ nr →
    ∃ O', NT 8 9999 np (k_layFar_48 RO C np n1 i) O' ∧ SO np nr a b l O' ∧ (∀ p q, p < np → q < np → O' p q ≤ O p q) ∧ ∀ r, r < i → ∀ p, p < np → O' p (b r) ≤ O p (a r) + l r ∧ O' p (a r) ≤ O p (b r) + l r
  | 0, _ => ⟨O, h, hS, fun _ _ _ _ => Nat.le_refl _, fun r hr => by omega⟩
  | i + 1, hi => by
    obtain ⟨O', g1, g2, g3, g4⟩ := bf_rd hR h h8 hS n1 i (by omega)
    obtain ⟨e1, e2, e3, ha, hb, hab, hl1, hl9⟩ := hR i (by omega)
    have hs := bf_src (n1 := n1) g1 h8 ha hb hab e3 hl9 np (Nat.le_refl _)
    refine ⟨fun p q => if q = b i then min (O' p (b i)) (O' p (a i) + l i) else if q = a i then min (O' p (a i)) (O' p (b i) + l i) else O' p q, ?_, g2.relax hR.ends (fun p q hp hq => (g1 p q hp hq).2) (by omega), ?_, ?_⟩
    · simp only [k_layFar_48, e1, e2]
      exact hs.cg (fun p q hp hq => by simp only [hp, ↓reduceIte])
    · intro p q hp hq
      have := g3 p q hp hq
      show (if q = b i then min (O' p (b i)) (O' p (a i) + l i) else if q = a i then min (O' p (a i)) (O' p (b i) + l i) else O' p q) ≤ O p q
      split
      · rename_i c; rw [c] at this ⊢; omega
      · split
        · rename_i c; rw [c] at this ⊢; omega
        · exact this
    · intro r hr p hp
      have hm : ∀ q, q < np → (if q = b i then min (O' p (b i)) (O' p (a i) + l i) else if q = a i then min (O' p (a i)) (O' p (b i) + l i) else O' p q) ≤ O' p q := by
        intro q hq
        split
        · rename_i c; rw [c]; omega
        · split
          · rename_i c; rw [c]; omega
          · exact Nat.le_refl _
      by_cases c : r = i
      · subst c
        have m1 := g3 p (a r) hp ha
        have m2 := g3 p (b r) hp hb
        show (if b r = b r then _ else _) ≤ _ ∧ (if a r = b r then _ else _) ≤ _
        simp only [hab, ↓reduceIte]
        omega
      · obtain ⟨x1, x2⟩ := g4 r (by omega) p hp
        obtain ⟨-, -, -, ha2, hb2, -, -, -⟩ := hR r (by omega)
        exact ⟨Nat.le_trans (hm _ hb2) x1, Nat.le_trans (hm _ ha2) x2⟩
theorem bf_all {np nr : Nat} {C RO : Nat → Int32} {O : Nat → Nat → Nat} {a b l : Nat → Nat} (hR : RD np nr RO a b l) (h : NT 8 9999 np C O) (h8 : np ≤ 8) (hS : SO np nr a b l O) : ∀ j,
    ∃ O', NT 8 9999 np (k_layFar_40 RO C np nr j) O' ∧ SO np nr a b l O' ∧ ∀ k p q d, k ≤ j → p < np → Wk nr a b l k p q d → O' p q ≤ d
  | 0 => by
    refine ⟨O, h, hS, fun k p q d hk hp hw => ?_⟩
    obtain ⟨f, g, w, f0, fk, gk⟩ := hw
    have : k = 0 := by omega
    subst this
    rw [← fk, f0, hS.1 p hp]; exact Nat.zero_le _
  | j + 1 => by
    obtain ⟨O', g1, g2, g3⟩ := bf_all hR h h8 hS j
    obtain ⟨O2, q1, q2, q3, q4⟩ := bf_rd hR g1 h8 g2 j nr (Nat.le_refl _)
    refine ⟨O2, q1, q2, fun k p q d hk hp hw => ?_⟩
    obtain ⟨f, g, w, f0, fk, gk⟩ := hw
    have hin := w.in_ hR.ends (by rw [f0]; exact hp)
    cases k with
    | zero => rw [← fk, f0, q2.1 p hp]; exact Nat.zero_le _
    | succ k =>
      obtain ⟨d', ⟨r, hr, h1, e1⟩, e2⟩ := w.2 k (by omega)
      have hpre : O' p (f k) ≤ g k := g3 k p (f k) (g k) (by omega) hp ⟨f, g, ⟨w.1, fun i hi => w.2 i (by omega)⟩, f0, rfl, rfl⟩
      have hx := q4 r hr p hp
      rw [← fk, ← gk, e2, ← e1]
      rcases h1 with ⟨x1, x2⟩ | ⟨x1, x2⟩
      · rw [x1, x2] at hx; omega
      · rw [x1, x2] at hx; omega
theorem vf64 (F : Nat → Int32) (x : Int32) : ∀ n j, j < n → J7_fill_53178_L64_5 F x n j = x
  | 0, j, h => by omega
  | n + 1, j, h => by
    simp only [J7_fill_53178_L64_5]
    by_cases c : j = n
    · subst c; rw [pk_us]
    · rw [pk_un c]; exact vf64 F x n j (by omega)
theorem vm12 {np : Nat} {F : Nat → Int32} (h8 : np ≤ 8) (hF : ∀ j, j < 64 → F j = nI 1000) : ∀ n, n ≤ np → NT 8 1000 np (v_measure_12 F n) (fun p q => if p = q ∧ p < n then 0 else 1000)
  | 0, _ => fun p q hp hq => ⟨by simp only [v_measure_12, Nat.not_lt_zero, and_false, ↓reduceIte]; exact hF _ (by omega), by simp⟩
  | n + 1, hn => by
    have ih := vm12 h8 hF n (by omega)
    intro p q hp hq
    obtain ⟨e, hb⟩ := ih p q hp hq
    simp only [v_measure_12]
    by_cases c : p = n ∧ q = n
    · obtain ⟨ca, cb⟩ := c
      subst ca
      have cc := cb.symm
      subst cc
      rw [show p * 8 + p = 8 * p + p by omega, pk_us]
      simp only [show p < p + 1 by omega, and_self, ↓reduceIte]
      exact ⟨trivial, by omega⟩
    · rw [pk_un (by omega), e]
      have hiff : (p = q ∧ p < n + 1) ↔ (p = q ∧ p < n) := by omega
      simp only [hiff]
      exact ⟨trivial, hb⟩
theorem vm40 {np nr : Nat} {A B L F RO : Nat → Int32} {a b l : Nat → Nat} (h8 : np ≤ 8) (hR : RD np nr RO a b l) (hA : ∀ r, r < nr → A r = nI (a r) ∧ B r = nI (b r) ∧ L r = nI (l r)) {N : Nat → Nat → Nat} (h : NT 8 1000 np F N) (h0 : ∀ p, p < np → N p p = 0) (hs : ∀ p q, p < np → q < np → N p q = 1000 ∨ ∃ k, Wk nr a b l k p q (N p q)) : ∀ i, i ≤ nr →
    ∃ N', NT 8 1000 np (v_measure_40 A B L F i) N' ∧ (∀ p, p < np → N' p p = 0) ∧ (∀ r, r < i → N' (a r) (b r) ≤ l r ∧ N' (b r) (a r) ≤ l r) ∧ (∀ p q, p < np → q < np → N' p q = 1000 ∨ ∃ k, Wk nr a b l k p q (N' p q))
  | 0, _ => ⟨N, h, h0, fun r hr => by omega, hs⟩
  | i + 1, hi => by
    obtain ⟨N', g1, g2, g3, g4⟩ := vm40 h8 hR hA h h0 hs i (by omega)
    obtain ⟨-, -, -, ha, hb, hab, hl1, hl9⟩ := hR i (by omega)
    obtain ⟨eA, eB, eL⟩ := hA i (by omega)
    have s1 := sho_NT g1 h8 ha hb (show l i ≤ 2000 by omega)
    have s2 := sho_NT s1 h8 hb ha (show l i ≤ 2000 by omega)
    have hba : ¬ (b i = a i ∧ a i = b i) := fun z => hab z.2
    refine ⟨fun x y => if x = b i ∧ y = a i then min (N' (b i) (a i)) (l i) else if x = a i ∧ y = b i then min (N' (a i) (b i)) (l i) else N' x y, ?_, ?_, ?_, ?_⟩
    · simp only [v_measure_40, eA, eB, eL, pu_ix (show a i < 2147483648 by omega), pu_ix (show b i < 2147483648 by omega)]
      refine NT.cg s2 (fun x y hx hy => ?_)
      simp only [if_neg hba]
    · intro p hp
      have := g2 p hp
      show (if p = b i ∧ p = a i then min (N' (b i) (a i)) (l i) else if p = a i ∧ p = b i then min (N' (a i) (b i)) (l i) else N' p p) = 0
      rw [if_neg (by omega), if_neg (by omega)]
      exact this
    · intro r hr
      show (if a r = b i ∧ b r = a i then min (N' (b i) (a i)) (l i) else if a r = a i ∧ b r = b i then min (N' (a i) (b i)) (l i) else N' (a r) (b r)) ≤ l r ∧ (if b r = b i ∧ a r = a i then min (N' (b i) (a i)) (l i) else if b r = a i ∧ a r = b i then min (N' (a i) (b i)) (l i) else N' (b r) (a r)) ≤ l r
      by_cases c : r = i
      · subst c
        rw [if_neg (by omega), if_pos ⟨rfl, rfl⟩, if_pos ⟨rfl, rfl⟩]
        omega
      · have := g3 r (by omega)
        constructor
        · split
          · rename_i c1
            rw [c1.1, c1.2] at this; omega
          · split
            · rename_i c2; rw [c2.1, c2.2] at this; omega
            · exact this.1
        · split
          · rename_i c1
            rw [c1.1, c1.2] at this; omega
          · split
            · rename_i c2; rw [c2.1, c2.2] at this; omega
            · exact this.2
    · intro p q hp hq
      show (if p = b i ∧ q = a i then min (N' (b i) (a i)) (l i) else if p = a i ∧ q = b i then min (N' (a i) (b i)) (l i) else N' p q) = 1000 ∨ ∃ k, Wk nr a b l k p q (if p = b i ∧ q = a i then min (N' (b i) (a i)) (l i) else if p = a i ∧ q = b i then min (N' (a i) (b i)) (l i) else N' p q)
      have k1 : N' (a i) (b i) = 1000 ∨ ∃ k, Wk nr a b l k (a i) (b i) (N' (a i) (b i)) := g4 _ _ ha hb
      have k2 : N' (b i) (a i) = 1000 ∨ ∃ k, Wk nr a b l k (b i) (a i) (N' (b i) (a i)) := g4 _ _ hb ha
      have w1 : Wk nr a b l 1 (a i) (b i) (l i) := Wk.one ⟨i, by omega, Or.inl ⟨rfl, rfl⟩, rfl⟩
      have w2 : Wk nr a b l 1 (b i) (a i) (l i) := Wk.one ⟨i, by omega, Or.inr ⟨rfl, rfl⟩, rfl⟩
      by_cases c1 : p = b i ∧ q = a i
      · rw [if_pos c1, c1.1, c1.2]
        by_cases d : N' (b i) (a i) ≤ l i
        · rw [show min (N' (b i) (a i)) (l i) = N' (b i) (a i) by omega]; exact k2
        · rw [show min (N' (b i) (a i)) (l i) = l i by omega]; exact Or.inr ⟨1, w2⟩
      · rw [if_neg c1]
        by_cases c2 : p = a i ∧ q = b i
        · rw [if_pos c2, c2.1, c2.2]
          by_cases d : N' (a i) (b i) ≤ l i
          · rw [show min (N' (a i) (b i)) (l i) = N' (a i) (b i) by omega]; exact k1
          · rw [show min (N' (a i) (b i)) (l i) = l i by omega]; exact Or.inr ⟨1, w1⟩
        · rw [if_neg c2]; exact g4 p q hp hq
/-- both tables tell the same ways -/
theorem far_eq {np nr : Nat} {A B L F RO Fo : Nat → Int32} {a b l : Nat → Nat} (h8 : np ≤ 8) (hR : RD np nr RO a b l) (hA : ∀ r, r < nr → A r = nI (a r) ∧ B r = nI (b r) ∧ L r = nI (l r)) :
    ∀ p q, p < np → q < np → (∃ d, d < 1000 ∧ (v_measure A B L F np nr).2 (p * 8 + q) = nI d ∧ (k_layFar RO Fo np nr).2 (8 * p + q) = nI d) ∨ ((v_measure A B L F np nr).2 (p * 8 + q) = nI 1000 ∧ (k_layFar RO Fo np nr).2 (8 * p + q) = nI 9999) := by
  have hE := hR.ends
  have hF0 : ∀ j, j < 64 → J7_fill_53178_L64_5 F (nI 1000) (cN 64) j = nI 1000 := fun j hj => vf64 F _ _ j (by rw [cN_eq]; exact hj)
  have n0 := vm12 h8 hF0 np (Nat.le_refl _)
  obtain ⟨N1, c1, c2, c3, c4⟩ := vm40 h8 hR hA n0 (fun p hp => by simp [hp]) (fun p q hp hq => by
    by_cases c : p = q
    · subst c
      simp only [hp, and_self, ↓reduceIte]
      exact Or.inr ⟨0, Wk.nil p⟩
    · simp [c]) nr (Nat.le_refl _)
  obtain ⟨N2, d1, d2⟩ := fw_all hE c1 h8 ⟨c2, c3, c4, fun p q x _ _ hx => by omega⟩ np (Nat.le_refl _)
  have o0 : NT 8 9999 np (k_layFar_2 Fo (cN 64)) (fun p q => if p = q then 0 else 9999) := by
    intro p q hp hq
    rw [cN_eq, lf0 Fo 64 (Nat.le_refl _) (8 * p + q) (by omega), show (8 * p + q) / 8 = p by omega, show (8 * p + q) % 8 = q by omega]
    by_cases c : p = q
    · simp only [c, ↓reduceIte]; exact ⟨trivial, by omega⟩
    · simp only [c, ↓reduceIte]; exact ⟨trivial, by omega⟩
  obtain ⟨O, e1, e2, e3⟩ := bf_all hR o0 h8 ⟨fun p hp => by simp, fun p q hp hq => by
    by_cases c : p = q
    · subst c
      simp only [↓reduceIte]
      exact Or.inr ⟨0, Wk.nil p⟩
    · simp [c]⟩ 8
  intro p q hp hq
  obtain ⟨x1, x2⟩ := d1 p q hp hq
  obtain ⟨y1, y2⟩ := e1 p q hp hq
  have f1 : (v_measure A B L F np nr).2 (p * 8 + q) = nI (N2 p q) := by
    simp only [v_measure, J7_fill_53178_L64, Nat.mul_comm p 8]
    exact x1
  have f2 : (k_layFar RO Fo np nr).2 (8 * p + q) = nI (O p q) := by
    simp only [k_layFar, cN_eq]
    rw [cN_eq] at y1
    exact y1
  rw [f1, f2]
  rcases e2.2 p q hp hq with hO | ⟨k, w⟩
  · right
    rw [hO]
    rcases d2.2.2.1 p q hp hq with hN | ⟨k, w⟩
    · rw [hN]; exact ⟨rfl, rfl⟩
    · obtain ⟨k', d', h1, h2, h3⟩ := w.short h8 hE hp
      have := h3.len hE
      have := e3 k' p q d' (by omega) hp h3
      omega
  · left
    obtain ⟨k', d', h1, h2, h3⟩ := w.short h8 hE hp
    have l1 := h3.len hE
    have l2 := d2.le hE hp h3
    have l3 := d2.le hE hp w
    rcases d2.2.2.1 p q hp hq with hN | ⟨k2, w2⟩
    · omega
    · obtain ⟨k3, d3, h4, h5, h6⟩ := w2.short h8 hE hp
      have l4 := e3 k3 p q d3 (by omega) hp h6
      refine ⟨N2 p q, by omega, rfl, ?_⟩
      congr 1
      omega
