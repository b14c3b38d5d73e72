/-! ways: walks on the roads -/
theorem pigeon : ∀ (n : Nat) (f : Nat → Nat), (∀ i, i ≤ n → f i < n) → ∃ i j, i < j ∧ j ≤ n ∧ f i = f j
  | 0, f, h => absurd (h 0 (Nat.le_refl 0)) (Nat.not_lt_zero _)
  | n + 1, f, h => by
    by_cases hv : ∃ i, i ≤ n ∧ f i = f (n + 1)
    · obtain ⟨i, hi, e⟩ := hv
      exact ⟨i, n + 1, by omega, Nat.le_refl _, e⟩
    · have hne : ∀ i, i ≤ n → f i ≠ f (n + 1) := fun i hi e => hv ⟨i, hi, e⟩
      have hv1 := h (n + 1) (Nat.le_refl _)
      obtain ⟨i, j, hij, hj, e⟩ := pigeon n (fun i => if f i = n then f (n + 1) else f i) (by
        intro i hi
        have h1 := h i (by omega)
        have h2 := hne i hi
        show (if f i = n then f (n + 1) else f i) < n
        split
        · omega
        · omega)
      refine ⟨i, j, hij, by omega, ?_⟩
      have e' : (if f i = n then f (n + 1) else f i) = (if f j = n then f (n + 1) else f j) := e
      have h1 := hne i (by omega)
      have h2 := hne j hj
      by_cases c1 : f i = n
      · by_cases c2 : f j = n
        · omega
        · rw [if_pos c1, if_neg c2] at e'
          exact absurd e'.symm h2
      · by_cases c2 : f j = n
        · rw [if_neg c1, if_pos c2] at e'
          exact absurd e' h1
        · rw [if_neg c1, if_neg c2] at e'
          exact e'
def Eg (nr : Nat) (a b l : Nat → Nat) (x y d : Nat) : Prop := ∃ r, r < nr ∧ ((a r = x ∧ b r = y) ∨ (b r = x ∧ a r = y)) ∧ l r = d
def Wg (nr : Nat) (a b l : Nat → Nat) (k : Nat) (f g : Nat → Nat) : Prop := g 0 = 0 ∧ ∀ i, i < k → ∃ d, Eg nr a b l (f i) (f (i + 1)) d ∧ g (i + 1) = g i + d
def Wk (nr : Nat) (a b l : Nat → Nat) (k p q d : Nat) : Prop := ∃ f g, Wg nr a b l k f g ∧ f 0 = p ∧ f k = q ∧ g k = d
theorem Wk.nil {nr : Nat} {a b l : Nat → Nat} (p : Nat) : Wk nr a b l 0 p p 0 := ⟨fun _ => p, fun _ => 0, ⟨rfl, fun i hi => by omega⟩, rfl, rfl, rfl⟩
theorem Wk.app {nr : Nat} {a b l : Nat → Nat} {k1 k2 p x q d1 d2 : Nat} (h1 : Wk nr a b l k1 p x d1) (h2 : Wk nr a b l k2 x q d2) : Wk nr a b l (k1 + k2) p q (d1 + d2) := by
  obtain ⟨f1, g1, ⟨w0, w1⟩, f10, f1k, g1k⟩ := h1
  obtain ⟨f2, g2, ⟨u0, u1⟩, f20, f2k, g2k⟩ := h2
  refine ⟨fun i => if i ≤ k1 then f1 i else f2 (i - k1), fun i => if i ≤ k1 then g1 i else d1 + g2 (i - k1), ⟨?_, ?_⟩, ?_, ?_, ?_⟩
  · show (if 0 ≤ k1 then g1 0 else d1 + g2 (0 - k1)) = 0
    rw [if_pos (by omega)]; exact w0
  · intro i hi
    show ∃ d, Eg nr a b l (if i ≤ k1 then f1 i else f2 (i - k1)) (if i + 1 ≤ k1 then f1 (i + 1) else f2 (i + 1 - k1)) d ∧ (if i + 1 ≤ k1 then g1 (i + 1) else d1 + g2 (i + 1 - k1)) = (if i ≤ k1 then g1 i else d1 + g2 (i - k1)) + d
    by_cases c : i + 1 ≤ k1
    · rw [if_pos (by omega), if_pos c, if_pos c, if_pos (by omega)]
      exact w1 i (by omega)
    · rw [if_neg c, if_neg c]
      by_cases c2 : i = k1
      · subst c2
        rw [if_pos (Nat.le_refl _), if_pos (Nat.le_refl _)]
        obtain ⟨d, e1, e2⟩ := u1 0 (by omega)
        rw [show i + 1 - i = 0 + 1 by omega]
        refine ⟨d, ?_, ?_⟩
        · rw [f1k, ← f20]; exact e1
        · rw [e2, u0, g1k]; omega
      · rw [if_neg (by omega), if_neg (by omega)]
        obtain ⟨d, e1, e2⟩ := u1 (i - k1) (by omega)
        rw [show i + 1 - k1 = i - k1 + 1 by omega]
        exact ⟨d, e1, by rw [e2]; omega⟩
  · show (if 0 ≤ k1 then f1 0 else f2 (0 - k1)) = p
    rw [if_pos (by omega)]; exact f10
  · show (if k1 + k2 ≤ k1 then f1 (k1 + k2) else f2 (k1 + k2 - k1)) = q
    by_cases c : k2 = 0
    · subst c
      rw [if_pos (by omega), Nat.add_zero, f1k, ← f20]; exact f2k
    · rw [if_neg (by omega), show k1 + k2 - k1 = k2 by omega]; exact f2k
  · show (if k1 + k2 ≤ k1 then g1 (k1 + k2) else d1 + g2 (k1 + k2 - k1)) = d1 + d2
    by_cases c : k2 = 0
    · subst c
      rw [if_pos (by omega), Nat.add_zero, g1k, ← g2k, u0]
      rfl
    · rw [if_neg (by omega), show k1 + k2 - k1 = k2 by omega, g2k]
theorem Wk.one {nr : Nat} {a b l : Nat → Nat} {x y d : Nat} (h : Eg nr a b l x y d) : Wk nr a b l 1 x y d := by
  refine ⟨fun i => if i = 0 then x else y, fun i => if i = 0 then 0 else d, ⟨rfl, fun i hi => ?_⟩, rfl, rfl, rfl⟩
  have : i = 0 := by omega
  subst this
  exact ⟨d, h, (Nat.zero_add d).symm⟩
theorem Wg.mono {nr : Nat} {a b l f g : Nat → Nat} {k : Nat} (h : Wg nr a b l k f g) : ∀ i j, i ≤ j → j ≤ k → g i ≤ g j := by
  intro i j hij
  induction j with
  | zero => intro _; have : i = 0 := by omega
            subst this; exact Nat.le_refl _
  | succ j ih =>
    intro hj
    by_cases c : i = j + 1
    · subst c; exact Nat.le_refl _
    · obtain ⟨d, -, e⟩ := h.2 j (by omega)
      have := ih (by omega) (by omega)
      omega
/-- a walk that comes by a place twice is longer than need be -/
theorem Wk.cut {nr : Nat} {a b l f g : Nat → Nat} {k i j : Nat} (h : Wg nr a b l k f g) (hij : i < j) (hj : j ≤ k) (e : f i = f j) : ∃ d, d ≤ g k ∧ Wk nr a b l (k - (j - i)) (f 0) (f k) d := by
  have hm := h.mono i j (by omega) hj
  have hm2 := h.mono j k hj (Nat.le_refl _)
  refine ⟨g k - (g j - g i), by omega, fun t => if t ≤ i then f t else f (t + (j - i)), fun t => if t ≤ i then g t else g (t + (j - i)) - (g j - g i), ⟨?_, ?_⟩, ?_, ?_, ?_⟩
  · show (if 0 ≤ i then g 0 else g (0 + (j - i)) - (g j - g i)) = 0
    rw [if_pos (by omega)]; exact h.1
  · intro t ht
    show ∃ d, Eg nr a b l (if t ≤ i then f t else f (t + (j - i))) (if t + 1 ≤ i then f (t + 1) else f (t + 1 + (j - i))) d ∧ (if t + 1 ≤ i then g (t + 1) else g (t + 1 + (j - i)) - (g j - g i)) = (if t ≤ i then g t else g (t + (j - i)) - (g j - g i)) + d
    by_cases c : t + 1 ≤ i
    · rw [if_pos (by omega), if_pos c, if_pos c, if_pos (by omega)]
      exact h.2 t (by omega)
    · rw [if_neg c, if_neg c]
      by_cases c2 : t = i
      · subst c2
        rw [if_pos (Nat.le_refl _), if_pos (Nat.le_refl _)]
        obtain ⟨d, e1, e2⟩ := h.2 j (by omega)
        rw [show t + 1 + (j - t) = j + 1 by omega]
        exact ⟨d, by rw [e]; exact e1, by omega⟩
      · rw [if_neg (by omega), if_neg (by omega)]
        obtain ⟨d, e1, e2⟩ := h.2 (t + (j - i)) (by omega)
        have hm3 := h.mono j (t + (j - i)) (by omega) (by omega)
        rw [show t + 1 + (j - i) = t + (j - i) + 1 by omega]
        exact ⟨d, e1, by omega⟩
  · show (if 0 ≤ i then f 0 else f (0 + (j - i))) = f 0
    rw [if_pos (by omega)]
  · show (if k - (j - i) ≤ i then f (k - (j - i)) else f (k - (j - i) + (j - i))) = f k
    by_cases c : k = j
    · rw [if_pos (by omega), show k - (j - i) = i by omega, e, c]
    · rw [if_neg (by omega), show k - (j - i) + (j - i) = k by omega]
  · show (if k - (j - i) ≤ i then g (k - (j - i)) else g (k - (j - i) + (j - i)) - (g j - g i)) = g k - (g j - g i)
    by_cases c : k = j
    · rw [if_pos (by omega), show k - (j - i) = i by omega, c]; omega
    · rw [if_neg (by omega), show k - (j - i) + (j - i) = k by omega]
def Ends (np nr : Nat) (a b l : Nat → Nat) : Prop := ∀ r, r < nr → a r < np ∧ b r < np ∧ l r ≤ 9
theorem Wg.in_ {np nr : Nat} {a b l f g : Nat → Nat} {k : Nat} (hE : Ends np nr a b l) (h : Wg nr a b l k f g) (h0 : f 0 < np) : ∀ i, i ≤ k → f i < np := by
  intro i hi
  cases i with
  | zero => exact h0
  | succ i =>
    obtain ⟨d, ⟨r, hr, h1 | h1, -⟩, -⟩ := h.2 i (by omega)
    · rw [← h1.2]; exact (hE r hr).2.1
    · rw [← h1.2]; exact (hE r hr).1
theorem Wk.short {np nr : Nat} {a b l : Nat → Nat} (hp8 : np ≤ 8) (hE : Ends np nr a b l) {p q : Nat} (hp : p < np) : ∀ (k d : Nat), Wk nr a b l k p q d → ∃ k' d', k' ≤ 7 ∧ d' ≤ d ∧ Wk nr a b l k' p q d' := by
  intro k
  induction k using Nat.strongRecOn with
  | ind k ih =>
    intro d h
    by_cases hk : k ≤ 7
    · exact ⟨k, d, hk, Nat.le_refl _, h⟩
    · obtain ⟨f, g, w, f0, fk, gk⟩ := h
      have hin := w.in_ hE (by rw [f0]; exact hp)
      obtain ⟨i, j, hij, hj, e⟩ := pigeon 8 f (fun i hi => by have := hin i (by omega); omega)
      obtain ⟨d', hd', w'⟩ := Wk.cut w hij (by omega) e
      rw [f0, fk] at w'
      obtain ⟨k2, d2, h1, h2, h3⟩ := ih (k - (j - i)) (by omega) d' w'
      exact ⟨k2, d2, h1, by omega, h3⟩
theorem Wk.len {np nr : Nat} {a b l : Nat → Nat} (hE : Ends np nr a b l) {k p q d : Nat} (h : Wk nr a b l k p q d) : d ≤ 9 * k := by
  obtain ⟨f, g, w, -, -, gk⟩ := h
  have : ∀ i, i ≤ k → g i ≤ 9 * i := by
    intro i
    induction i with
    | zero => intro _; rw [w.1]; exact Nat.zero_le _
    | succ i ih =>
      intro hi
      obtain ⟨d, ⟨r, hr, -, e1⟩, e2⟩ := w.2 i (by omega)
      have := ih (by omega)
      have := (hE r hr).2.2
      omega
  rw [← gk]
  exact this k (Nat.le_refl _)
/-! a table of lengths in numbers -/
def NT (w t np : Nat) (F : Nat → Int32) (N : Nat → Nat → Nat) : Prop := ∀ p q, p < np → q < np → F (w * p + q) = nI (N p q) ∧ N p q ≤ t
theorem mnI {x d : Nat} (hx : x < 2147483648) (hd : d < 2147483648) : (if nI d < nI x then nI d else nI x) = nI (min x d) := by
  by_cases h : d < x
  · rw [if_pos ((pu_lti hd hx).mpr h), show min x d = d by omega]
  · rw [if_neg (fun q => h ((pu_lti hd hx).mp q)), show min x d = x by omega]
theorem sho_NT {np : Nat} {F : Nat → Int32} {N : Nat → Nat → Nat} (h : NT 8 1000 np F N) (h8 : np ≤ 8) {p q d : Nat} (hp : p < np) (hq : q < np) (hd : d ≤ 2000) : NT 8 1000 np (v_shorten F p q (nI d)).2 (fun x y => if x = p ∧ y = q then min (N p q) d else N x y) := by
  intro x y hx hy
  obtain ⟨e, hb⟩ := h p q hp hq
  simp only [v_shorten, Nat.mul_comm p 8, e]
  rw [mnI (by omega) (by omega)]
  by_cases c : x = p ∧ y = q
  · obtain ⟨rfl, rfl⟩ := c
    rw [pk_us]
    simp only [and_self, ↓reduceIte]
    exact ⟨trivial, by omega⟩
  · rw [pk_un (fun e => c ⟨by omega, by omega⟩)]
    simp only [c, ↓reduceIte]
    exact h x y hx hy
theorem NT.cg {w t np : Nat} {F : Nat → Int32} {N N' : Nat → Nat → Nat} (h : NT w t np F N) (e : ∀ p q, p < np → q < np → N' p q = N p q) : NT w t np F N' := by
  intro p q hp hq
  rw [e p q hp hq]
  exact h p q hp hq
/-- one row, by one place -/
theorem fw_row {np : Nat} {F : Nat → Int32} {N : Nat → Nat → Nat} (h : NT 8 1000 np F N) (h8 : np ≤ 8) {y p : Nat} (hy : y < np) (hp : p < np) (h0 : N y y = 0) : ∀ i, i ≤ np → NT 8 1000 np (v_measure_120 F y p i) (fun x q => if x = p ∧ q < i then min (N x q) (N x y + N y q) else N x q)
  | 0, _ => h.cg (fun x q _ _ => by simp)
  | i + 1, hi => by
    have ih := fw_row h h8 hy hp h0 i (by omega)
    obtain ⟨e1, b1⟩ := ih p y hp hy
    obtain ⟨e2, b2⟩ := ih y i hy (by omega)
    have f1 : (if p = p ∧ y < i then min (N p y) (N p y + N y y) else N p y) = N p y := by
      split <;> omega
    have f2 : (if y = p ∧ i < i then min (N y i) (N y y + N y i) else N y i) = N y i := by
      rw [if_neg (by omega)]
    have e1 : v_measure_120 F y p i (8 * p + y) = nI (N p y) := e1.trans (congrArg nI f1)
    have e2 : v_measure_120 F y p i (8 * y + i) = nI (N y i) := e2.trans (congrArg nI f2)
    have b1 : N p y ≤ 1000 := Nat.le_trans (Nat.le_of_eq f1.symm) b1
    have b2 : N y i ≤ 1000 := Nat.le_trans (Nat.le_of_eq f2.symm) b2
    have hs := sho_NT ih h8 hp (show i < np by omega) (show N p y + N y i ≤ 2000 by omega)
    simp only [v_measure_120, Nat.mul_comm p 8, Nat.mul_comm y 8, e1, e2, nI_add]
    refine NT.cg hs (fun x q hx hq => ?_)
    by_cases c : x = p ∧ q = i
    · obtain ⟨rfl, rfl⟩ := c
      simp only [and_self, ↓reduceIte, show q < q + 1 by omega, Nat.lt_irrefl, and_false]
    · simp only [c, ↓reduceIte]
      by_cases c2 : x = p ∧ q < i
      · rw [if_pos ⟨c2.1, by omega⟩, if_pos c2]
      · rw [if_neg (fun z => c2 ⟨z.1, by omega⟩), if_neg c2]
theorem fw_by {np : Nat} {F : Nat → Int32} {N : Nat → Nat → Nat} (h : NT 8 1000 np F N) (h8 : np ≤ 8) {y : Nat} (hy : y < np) (h0 : N y y = 0) : ∀ i, i ≤ np → NT 8 1000 np (v_measure_110 F np y i) (fun x q => if x < i then min (N x q) (N x y + N y q) else N x q)
  | 0, _ => h.cg (fun x q _ _ => by simp)
  | i + 1, hi => by
    have ih := fw_by h h8 hy h0 i (by omega)
    have hr := fw_row ih h8 hy (show i < np by omega) (by show (if y < i then min (N y y) (N y y + N y y) else N y y) = 0; split <;> omega) np (Nat.le_refl _)
    simp only [v_measure_110]
    refine NT.cg hr (fun x q hx hq => ?_)
    by_cases c : x = i
    · subst c
      simp only [hq, and_self, ↓reduceIte, Nat.lt_irrefl, show x < x + 1 by omega]
      split <;> omega
    · simp only [c, false_and, ↓reduceIte]
      by_cases c2 : x < i
      · rw [if_pos (by omega), if_pos c2]
      · rw [if_neg (by omega), if_neg c2]
/-- a table that is good: the diagonal, the roads, walks, and the triangle by places below y -/
def GT (np nr : Nat) (a b l : Nat → Nat) (y : Nat) (N : Nat → Nat → Nat) : Prop :=
  (∀ p, p < np → N p p = 0) ∧ (∀ r, r < nr → N (a r) (b r) ≤ l r ∧ N (b r) (a r) ≤ l r) ∧
  (∀ p q, p < np → q < np → N p q = 1000 ∨ ∃ k, Wk nr a b l k p q (N p q)) ∧
  (∀ p q x, p < np → q < np → x < y → x < np → N p q ≤ N p x + N x q)
theorem GT.next {np nr : Nat} {a b l : Nat → Nat} {y : Nat} {N : Nat → Nat → Nat} (hE : Ends np nr a b l) (hb : ∀ p q, p < np → q < np → N p q ≤ 1000) (hy : y < np) (h : GT np nr a b l y N) : GT np nr a b l (y + 1) (fun x q => min (N x q) (N x y + N y q)) := by
  obtain ⟨h1, h2, h3, h4⟩ := h
  have hyy := h1 y hy
  refine ⟨fun p hp => ?_, fun r hr => ?_, fun p q hp hq => ?_, fun p q x hp hq hx hx' => ?_⟩
  · have := h1 p hp
    show min (N p p) _ = 0
    omega
  · have := h2 r hr
    show min (N (a r) (b r)) _ ≤ l r ∧ min (N (b r) (a r)) _ ≤ l r
    omega
  · show min (N p q) (N p y + N y q) = 1000 ∨ ∃ k, Wk nr a b l k p q (min (N p q) (N p y + N y q))
    have hbp := hb p q hp hq
    by_cases c : N p q ≤ N p y + N y q
    · rw [show min (N p q) (N p y + N y q) = N p q by omega]
      exact h3 p q hp hq
    · rw [show min (N p q) (N p y + N y q) = N p y + N y q by omega]
      right
      rcases h3 p y hp hy with e | ⟨k1, w1⟩
      · omega
      · rcases h3 y q hy hq with e | ⟨k2, w2⟩
        · omega
        · exact ⟨k1 + k2, w1.app w2⟩
  · show min (N p q) (N p y + N y q) ≤ min (N p x) (N p y + N y x) + min (N x q) (N x y + N y q)
    by_cases c : x = y
    · subst c
      omega
    · have t1 := h4 p q x hp hq (by omega) hx'
      have t2 := h4 y q x hy hq (by omega) hx'
      have t3 := h4 p y x hp hy (by omega) hx'
      have t4 := h4 y y x hy hy (by omega) hx'
      omega
theorem fw_all {np nr : Nat} {a b l : Nat → Nat} {F : Nat → Int32} {N : Nat → Nat → Nat} (hE : Ends np nr a b l) (h : NT 8 1000 np F N) (h8 : np ≤ 8) (hG : GT np nr a b l 0 N) : ∀ y, y ≤ np → ∃ N', NT 8 1000 np (v_measure_100 F np y) N' ∧ GT np nr a b l y N'
  | 0, _ => ⟨N, h, hG⟩
  | y + 1, hy => by
    obtain ⟨N', h1, h2⟩ := fw_all hE h h8 hG y (by omega)
    have hb := fw_by h1 h8 (show y < np by omega) (h2.1 y (by omega)) np (Nat.le_refl _)
    refine ⟨fun x q => min (N' x q) (N' x y + N' y q), ?_, h2.next hE (fun p q hp hq => (h1 p q hp hq).2) (by omega)⟩
    simp only [v_measure_100]
    exact NT.cg hb (fun x q hx hq => by simp only [hx, ↓reduceIte])
theorem GT.le {np nr : Nat} {a b l : Nat → Nat} {N : Nat → Nat → Nat} (hE : Ends np nr a b l) (h : GT np nr a b l np N) {k p q d : Nat} (hp : p < np) (hw : Wk nr a b l k p q d) : N p q ≤ d := by
  obtain ⟨f, g, w, f0, fk, gk⟩ := hw
  have hin := w.in_ hE (by rw [f0]; exact hp)
  have : ∀ i, i ≤ k → N p (f i) ≤ g i := by
    intro i
    induction i with
    | zero => intro _; rw [f0, h.1 p hp, w.1]; exact Nat.le_refl _
    | succ i ih =>
      intro hi
      obtain ⟨d', ⟨r, hr, h1, e1⟩, e2⟩ := w.2 i (by omega)
      have t := h.2.2.2 p (f (i + 1)) (f i) hp (hin (i + 1) hi) (hin i (by omega)) (hin i (by omega))
      have hroad := h.2.1 r hr
      have := ih (by omega)
      rcases h1 with ⟨x1, x2⟩ | ⟨x1, x2⟩
      · rw [x1, x2] at hroad
        omega
      · rw [x1, x2] at hroad
        omega
  have := this k (Nat.le_refl _)
  rw [fk, gk] at this
  exact this
