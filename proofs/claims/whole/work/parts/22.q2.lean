/-! words on the tape -/
def isL (x : Int32) : Prop := ¬ x < nI 97 ∧ ¬ nI 122 < x
theorem isL_dec (x : Int32) : isL x ∨ ¬ isL x := Classical.em _
noncomputable def lep (B : Nat → Int32) (n : Nat) : Nat → Nat → Nat
  | 0, a => a
  | k + 1, a => if a < n ∧ ¬ B a < nI 97 ∧ ¬ nI 122 < B a then lep B n k (a + 1) else a
noncomputable def le' (B : Nat → Int32) (n a : Nat) : Nat := lep B n (n - a) a
theorem le_step {B : Nat → Int32} {n a : Nat} (h : a < n) (hb : isL (B a)) : le' B n a = le' B n (a + 1) := by
  unfold le'
  obtain ⟨k, hk⟩ : ∃ k, n - a = k + 1 := ⟨n - a - 1, by omega⟩
  rw [hk, show n - (a + 1) = k by omega]
  simp only [lep, h, hb.1, hb.2, not_false_eq_true, and_self, ↓reduceIte]
theorem le_stop {B : Nat → Int32} {n a : Nat} (h : ¬ (a < n ∧ isL (B a))) : le' B n a = a := by
  unfold le'
  cases hk : n - a with
  | zero => rfl
  | succ k =>
    simp only [lep]
    rw [if_neg]
    exact fun q => h ⟨q.1, q.2⟩
theorem lep_ge {B : Nat → Int32} {n : Nat} : ∀ k a, a ≤ lep B n k a
  | 0, a => Nat.le_refl a
  | k + 1, a => by
    simp only [lep]
    split
    · exact Nat.le_trans (Nat.le_succ a) (lep_ge k (a + 1))
    · exact Nat.le_refl a
theorem lep_le {B : Nat → Int32} {n : Nat} : ∀ k a, a ≤ n → lep B n k a ≤ n
  | 0, a, h => h
  | k + 1, a, h => by
    simp only [lep]
    split
    · exact lep_le k (a + 1) (by omega)
    · exact h
theorem lep_in {B : Nat → Int32} {n : Nat} : ∀ k a j, a ≤ j → j < lep B n k a → isL (B j)
  | 0, a, j, h1, h2 => by simp only [lep] at h2; omega
  | k + 1, a, j, h1, h2 => by
    simp only [lep] at h2
    split at h2
    · by_cases e : j = a
      · subst e
        rename_i h
        exact h.2
      · exact lep_in k (a + 1) j (by omega) h2
    · omega
theorem le_ge (B : Nat → Int32) (n a : Nat) : a ≤ le' B n a := lep_ge _ _
theorem le_le {B : Nat → Int32} {n a : Nat} (h : a ≤ n) : le' B n a ≤ n := lep_le _ _ h
theorem le_in {B : Nat → Int32} {n a j : Nat} (h1 : a ≤ j) (h2 : j < le' B n a) : isL (B j) := lep_in _ _ _ h1 h2
theorem isL_b {b : Nat} (hb : b < 256) (h : isL (nI b)) : 97 ≤ b ∧ b ≤ 122 := by
  obtain ⟨h1, h2⟩ := h
  rw [pu_lti (by omega) (by omega)] at h1 h2
  omega
theorem sm_t {x : Int32} (h : isL x) : ¬ k_isSmall x = 0 := by
  simp only [k_isSmall, h.1, h.2, ↓reduceIte]
  exact pu_n10
theorem sm_f {x : Int32} (h : ¬ isL x) : k_isSmall x = 0 := by
  simp only [k_isSmall]
  by_cases h1 : x < nI 97
  · rw [if_pos h1]; exact nI_0
  · rw [if_neg h1]
    by_cases h2 : nI 122 < x
    · rw [if_pos h2]; exact nI_0
    · exact absurd ⟨h1, h2⟩ h
/-! the code of a word -/
def cdf (f : Nat → Nat) : Nat → Nat
  | 0 => 0
  | l + 1 => cdf f l * 32 + f l
theorem cdf_lt (f : Nat → Nat) : ∀ l, (∀ j, j < l → f j ≤ 26) → cdf f l < 32 ^ l
  | 0, _ => by simp [cdf]
  | l + 1, h => by
    have := cdf_lt f l (fun j hj => h j (by omega))
    have h2 := h l (by omega)
    simp only [cdf, Nat.pow_succ]
    omega
theorem cdf_inj (f g : Nat → Nat) : ∀ l l', (∀ j, j < l → 1 ≤ f j ∧ f j ≤ 26) → (∀ j, j < l' → 1 ≤ g j ∧ g j ≤ 26) → cdf f l = cdf g l' → l = l' ∧ ∀ j, j < l → f j = g j
  | 0, 0, _, _, _ => ⟨rfl, fun j hj => by omega⟩
  | 0, l' + 1, _, hg, e => by
    have := hg l' (by omega)
    simp only [cdf] at e
    omega
  | l + 1, 0, hf, _, e => by
    have := hf l (by omega)
    simp only [cdf] at e
    omega
  | l + 1, l' + 1, hf, hg, e => by
    have h1 := hf l (by omega)
    have h2 := hg l' (by omega)
    simp only [cdf] at e
    have e1 : cdf f l = cdf g l' := by omega
    have e2 : f l = g l' := by omega
    obtain ⟨i1, i2⟩ := cdf_inj f g l l' (fun j hj => hf j (by omega)) (fun j hj => hg j (by omega)) e1
    subst i1
    refine ⟨rfl, fun j hj => ?_⟩
    by_cases ej : j = l
    · subst ej; exact e2
    · exact i2 j (by omega)
theorem cdf_cg {f g : Nat → Nat} : ∀ l, (∀ j, j < l → f j = g j) → cdf f l = cdf g l
  | 0, _ => rfl
  | l + 1, h => by simp only [cdf, cdf_cg l (fun j hj => h j (by omega)), h l (by omega)]
theorem pu_s5 {c d : Nat} (hc : c < 2 ^ 25) (hd : d < 32) : (nI c <<< (nI 5 &&& 31)) ||| nI d = nI (32 * c + d) := by
  rw [pk_shlN (nI 5 &&& 31) 5 (by decide) (by omega), pu_or (by omega) (by omega)]
  congr 1
  have := Nat.two_pow_add_eq_or_of_lt (i := 5) (b := d) (by omega) c
  rw [show (2 : Nat) ^ 5 = 32 from rfl] at this
  rw [show c * 2 ^ 5 = 32 * c by omega, ← this]
/-- the reference's reading of a word -/
theorem kw14 {B T m : Nat → Int32} {n s : Nat} (hn : n ≤ 600) (hB : BY B T) (h3 : m 3 = nI n) : ∀ (k a v : Nat), s ≤ a → a ≤ n → n - a < k → (a - s ≤ 6 → v = cdf (fun j => ix (B (s + j)) - 96) (a - s)) → (∀ j, s ≤ j → j < a → isL (B j)) →
    k_word_14_ok m T k (nI v) (nI (a - s)) (nI a) ∧ ∃ v', (le' B n a - s ≤ 6 → v' = cdf (fun j => ix (B (s + j)) - 96) (le' B n a - s)) ∧ k_word_14 m T k (nI v) (nI (a - s)) (nI a) = (nI v', nI (le' B n a - s), nI (le' B n a)) := by
  intro k
  induction k with
  | zero => intro a v _ _ h; omega
  | succ k ih =>
    intro a v hsa ha hk hv hL
    simp only [k_word_14_ok, k_word_14, h3]
    by_cases hl : a < n
    · have f1 : ¬ nI n ≤ nI a := by rw [pu_lei (by omega) (by omega)]; omega
      obtain ⟨eT, b, hb, eb⟩ := hB a (by omega)
      simp only [f1, ↓reduceIte, pu_ix (show a < 2147483648 by omega), pu_isN (show a < 2147483648 by omega), show a < 600 by omega, true_and, eT]
      rcases isL_dec (B a) with hi | hi
      · have hL' : ∀ j, s ≤ j → j < a + 1 → isL (B j) := by
          intro j h1 h2
          by_cases e : j = a
          · subst e; exact hi
          · exact hL j h1 (by omega)
        rw [le_step hl hi]
        have hb2 := isL_b hb (eb ▸ hi)
        have e1 : nI (a - s) + nI 1 = nI (a + 1 - s) := by rw [pu_p1]; congr 1; omega
        simp only [sm_t hi, ↓reduceIte, e1, pu_p1]
        by_cases h6 : nI 6 ≤ nI (a - s)
        · simp only [h6, ↓reduceIte]
          rw [pu_lei (by omega) (by omega)] at h6
          exact ih (a + 1) 0 (by omega) (by omega) (by omega) (fun q => by omega) hL'
        · simp only [h6, ↓reduceIte]
          rw [pu_lei (by omega) (by omega)] at h6
          have hv1 := hv (by omega)
          have e2 : B a - nI 96 = nI (b - 96) := by rw [eb]; exact pk_sub (by omega)
          have hc : v < 2 ^ 25 := by
            have q1 := cdf_lt (fun j => ix (B (s + j)) - 96) (a - s) (by
              intro j hj
              obtain ⟨_, c, hc, ec⟩ := hB (s + j) (by omega)
              have := isL_b hc (ec ▸ hL (s + j) (by omega) (by omega))
              simp only [ec, pu_ix (show c < 2147483648 by omega)]
              omega)
            have q2 : 32 ^ (a - s) ≤ 32 ^ 5 := Nat.pow_le_pow_right (by omega) (by omega)
            rw [← hv1] at q1
            have : (32 : Nat) ^ 5 = 2 ^ 25 := by decide
            omega
          rw [e2, pu_s5 hc (by omega), Nat.mul_comm 32 v]
          refine ih (a + 1) (v * 32 + (b - 96)) (by omega) (by omega) (by omega) (fun q => ?_) hL'
          rw [show a + 1 - s = (a - s) + 1 by omega]
          simp only [cdf, ← hv1, show s + (a - s) = a by omega, eb, pu_ix (show b < 2147483648 by omega)]
      · simp only [sm_f hi, ↓reduceIte, true_and]
        rw [le_stop (fun q => hi q.2)]
        exact ⟨v, hv, rfl⟩
    · have f1 : nI n ≤ nI a := by rw [pu_lei (by omega) (by omega)]; omega
      simp only [f1, ↓reduceIte, true_and]
      rw [le_stop (fun q => hl q.1)]
      exact ⟨v, hv, rfl⟩
theorem kpass {B T : Nat → Int32} {n : Nat} (hn : n ≤ 600) (hB : BY B T) : ∀ (k a : Nat) (m : Nat → Int32), m 3 = nI n → m 4 = nI a → a ≤ n → n - a < k → k_pass_0_ok T k m ∧ k_pass_0 T k m = upd m 4 (nI (le' B n a)) := by
  intro k
  induction k with
  | zero => intro a m _ _ _ h; omega
  | succ k ih =>
    intro a m h3 h4 ha hk
    simp only [k_pass_0_ok, k_pass_0, h3, h4]
    by_cases hl : a < n
    · have f1 : ¬ nI n ≤ nI a := by rw [pu_lei (by omega) (by omega)]; omega
      simp only [f1, ↓reduceIte, pu_ix (show a < 2147483648 by omega), pu_isN (show a < 2147483648 by omega), show a < 600 by omega, true_and, (hB a (by omega)).1]
      rcases isL_dec (B a) with hi | hi
      · simp only [sm_t hi, ↓reduceIte, pu_p1]
        obtain ⟨r1, r2⟩ := ih (a + 1) (upd m 4 (nI (a + 1))) (by rw [pk_un (by decide)]; exact h3) pk_us (by omega) (by omega)
        exact ⟨r1, by rw [r2, upd_twice, le_step hl hi]⟩
      · simp only [sm_f hi, ↓reduceIte, true_and]
        rw [le_stop (fun q => hi q.2), ← h4, upd_self]
    · have f1 : nI n ≤ nI a := by rw [pu_lei (by omega) (by omega)]; omega
      simp only [f1, ↓reduceIte, true_and]
      rw [le_stop (fun q => hl q.1), ← h4, upd_self]
/-- what the reference's word is: its code -/
theorem kword {B T m : Nat → Int32} {n a : Nat} (hn : n ≤ 600) (hB : BY B T) (hm : MS m n a) : k_word_ok m T ∧ (k_word m T).2 = upd m 4 (nI (sk B n a)) ∧
    ((le' B n (sk B n a) - sk B n a ≤ 6 ∧ (k_word m T).1 = nI (cdf (fun j => ix (B (sk B n a + j)) - 96) (le' B n (sk B n a) - sk B n a))) ∨ (6 < le' B n (sk B n a) - sk B n a ∧ (k_word m T).1 = nI 0)) := by
  obtain ⟨g3, g4, g5, ha⟩ := hm
  obtain ⟨s1, s2⟩ := khr hn hB g3 g4 ha
  have hs := sk_le (B := B) ha
  generalize sk B n a = s at *
  have d3 : upd m 4 (nI s) 3 = nI n := by simp (disch := decide) only [pk_un, g3]
  have d4 : upd m 4 (nI s) 4 = nI s := pk_us
  have h1 := le_ge B n s
  have h2 := le_le (B := B) hs
  obtain ⟨r1, v', r2, r3⟩ := kw14 (s := s) hn hB d3 FU s 0 (Nat.le_refl _) hs (by rw [FU_eq]; omega) (fun _ => by rw [Nat.sub_self]; rfl) (fun j q1 q2 => by omega)
  rw [Nat.sub_self] at r1 r3
  simp only [k_word_ok, k_word, s1, s2, d4, r1, r3, true_and, and_true]
  by_cases h6 : le' B n s - s ≤ 6
  · have f1 : nI (le' B n s - s) ≤ nI 6 := by rw [pu_lei (by omega) (by omega)]; exact h6
    simp only [f1, ↓reduceIte, true_and]
    exact Or.inl ⟨h6, by rw [r2 h6]⟩
  · have f1 : ¬ nI (le' B n s - s) ≤ nI 6 := by rw [pu_lei (by omega) (by omega)]; exact h6
    simp only [f1, ↓reduceIte, true_and]
    exact Or.inr ⟨by omega, trivial⟩
/-! the class's list of words -/
noncomputable def gix (L : Nat) (q B : Nat → Int32) (x2 : Int32) : Nat → Nat → Int32 → Int32 → Int32 → (Int32) ⊕ (Int32 × Int32 × Int32)
  | 0, _, s3, s4, s5 => .inr (s3, s4, s5)
  | k0 + 1, i6, s3, s4, s5 => (if (sby L i6) = (nI 32) then (if s5 = 0 then gix L q B x2 k0 (i6 + 1) (s3 + nI 1) (q 6) (nI 1) else (if s4 = x2 then .inl s3 else gix L q B x2 k0 (i6 + 1) (s3 + nI 1) (q 6) (nI 1))) else (if s5 = 0 then gix L q B x2 k0 (i6 + 1) s3 (s4 + nI 1) (nI 0) else (if x2 ≤ s4 then gix L q B x2 k0 (i6 + 1) s3 (s4 + nI 1) (nI 0) else (if (B (ix s4)) = (sby L i6) then gix L q B x2 k0 (i6 + 1) s3 (s4 + nI 1) (nI 1) else gix L q B x2 k0 (i6 + 1) s3 (s4 + nI 1) (nI 0)))))
theorem gix_blank {L e s k i w p : Nat} {q B : Nat → Int32} {b : Prop} [Decidable b] (h6 : q 6 = nI s) (hi : sby L i = nI 32) (hp : p < 2147483648) (he : e < 2147483648) : gix L q B (nI e) (k + 1) i (nI w) (nI p) (if b then nI 1 else nI 0) = if b ∧ p = e then .inl (nI w) else gix L q B (nI e) k (i + 1) (nI (w + 1)) (nI s) (nI 1) := by
  simp only [gix, hi, ↓reduceIte, h6, pu_p1, pu_eqi hp he]
  by_cases hb : b
  · simp only [hb, ↓reduceIte, pu_n10, true_and]
  · simp only [hb, ↓reduceIte, pu_n01, false_and]
theorem gix_run {L e : Nat} {q B : Nat → Int32} (he : e ≤ 600) (w : Nat) : ∀ (c k i p : Nat) (b : Prop) [Decidable b], p + c < 2147483648 → (∀ j, j < c → ¬ sby L (i + j) = nI 32) →
    gix L q B (nI e) (k + c) i (nI w) (nI p) (if b then nI 1 else nI 0) = gix L q B (nI e) k (i + c) (nI w) (nI (p + c)) (@ite _ (b ∧ ∀ j, j < c → p + j < e ∧ B (p + j) = sby L (i + j)) (Classical.propDecidable _) (nI 1) (nI 0)) := by
  intro c
  induction c with
  | zero =>
    intro k i p b _ _ _
    have : (b ∧ ∀ j, j < 0 → p + j < e ∧ B (p + j) = sby L (i + j)) ↔ b := ⟨fun q => q.1, fun q => ⟨q, fun j hj => by omega⟩⟩
    by_cases hb : b
    · rw [if_pos hb, if_pos (this.mpr hb)]; rfl
    · rw [if_neg hb, if_neg (fun q => hb (this.mp q))]; rfl
  | succ c ih =>
    intro k i p b _ hp hs
    have h0 := hs 0 (by omega)
    rw [Nat.add_zero] at h0
    have hstep : gix L q B (nI e) (k + (c + 1)) i (nI w) (nI p) (if b then nI 1 else nI 0) = gix L q B (nI e) (k + c) (i + 1) (nI w) (nI (p + 1)) (@ite _ (b ∧ p < e ∧ B p = sby L i) (Classical.propDecidable _) (nI 1) (nI 0)) := by
      rw [show k + (c + 1) = (k + c) + 1 by omega]
      simp only [gix, h0, ↓reduceIte, pu_p1]
      by_cases hb : b
      · simp only [hb, ↓reduceIte, pu_n10, true_and]
        by_cases hpe : p < e
        · have f1 : ¬ nI e ≤ nI p := by rw [pu_lei (by omega) (by omega)]; omega
          simp only [f1, ↓reduceIte, hpe, pu_ix (show p < 2147483648 by omega), true_and]
          by_cases hB : B p = sby L i
          · simp only [hB, ↓reduceIte]
          · simp only [hB, ↓reduceIte]
        · have f1 : nI e ≤ nI p := by rw [pu_lei (by omega) (by omega)]; omega
          simp only [f1, ↓reduceIte, hpe, false_and]
      · simp only [hb, ↓reduceIte, pu_n01, false_and]
    rw [hstep]
    have := @ih k (i + 1) (p + 1) (b ∧ p < e ∧ B p = sby L i) (Classical.propDecidable _) (by omega) (fun j hj => by have := hs (j + 1) (by omega); rw [show i + 1 + j = i + (j + 1) by omega]; exact this)
    rw [this, show i + 1 + c = i + (c + 1) by omega, show p + 1 + c = p + (c + 1) by omega]
    congr 1
    have hiff : ((b ∧ p < e ∧ B p = sby L i) ∧ ∀ j, j < c → p + 1 + j < e ∧ B (p + 1 + j) = sby L (i + 1 + j)) ↔ (b ∧ ∀ j, j < c + 1 → p + j < e ∧ B (p + j) = sby L (i + j)) := by
      constructor
      · rintro ⟨⟨a1, a2, a3⟩, a4⟩
        refine ⟨a1, fun j hj => ?_⟩
        cases j with
        | zero => exact ⟨a2, a3⟩
        | succ j =>
          have := a4 j (by omega)
          rw [show p + (j + 1) = p + 1 + j by omega, show i + (j + 1) = i + 1 + j by omega]
          exact this
      · rintro ⟨a1, a4⟩
        refine ⟨⟨a1, a4 0 (by omega)⟩, fun j hj => ?_⟩
        have := a4 (j + 1) (by omega)
        rw [show p + (j + 1) = p + 1 + j by omega, show i + (j + 1) = i + 1 + j by omega] at this
        exact this
    by_cases hz : (b ∧ ∀ j, j < c + 1 → p + j < e ∧ B (p + j) = sby L (i + j))
    · rw [if_pos hz, if_pos (hiff.mpr hz)]
    · rw [if_neg hz, if_neg (fun q => hz (hiff.mp q))]
/-- the word that stands from s to e is that of the list from ws on -/
def MT (L : Nat) (B : Nat → Int32) (s e ws len : Nat) : Prop := e = s + len ∧ ∀ j, j < len → B (s + j) = sby L (ws + j)
theorem MT_iff {L s e ws len : Nat} {B : Nat → Int32} : ((True ∧ ∀ j, j < len → s + j < e ∧ B (s + j) = sby L (ws + j)) ∧ s + len = e) ↔ MT L B s e ws len := by
  constructor
  · rintro ⟨⟨-, h⟩, h2⟩
    exact ⟨h2.symm, fun j hj => (h j hj).2⟩
  · rintro ⟨h1, h2⟩
    exact ⟨⟨trivial, fun j hj => ⟨by omega, h2 j hj⟩⟩, h1.symm⟩
/-- one word of the list, and the blank behind it -/
theorem gix_word {L e s : Nat} {q B : Nat → Int32} (he : e ≤ 600) (hs : s ≤ 600) (h6 : q 6 = nI s) (c k i w : Nat) (hc : c ≤ 10) (hw : ∀ j, j < c → ¬ sby L (i + j) = nI 32) (hb : sby L (i + c) = nI 32) :
    (MT L B s e i c ∧ gix L q B (nI e) (k + 1 + c) i (nI w) (nI s) (nI 1) = .inl (nI w)) ∨ (¬ MT L B s e i c ∧ gix L q B (nI e) (k + 1 + c) i (nI w) (nI s) (nI 1) = gix L q B (nI e) k (i + c + 1) (nI (w + 1)) (nI s) (nI 1)) := by
  have r := @gix_run L e q B he w c (k + 1) i s True _ (by omega) hw
  rw [if_pos trivial] at r
  rw [r]
  have r2 := @gix_blank L e s k (i + c) w (s + c) q B (True ∧ ∀ j, j < c → s + j < e ∧ B (s + j) = sby L (i + j)) (Classical.propDecidable _) h6 hb (by omega) (by omega)
  rw [r2]
  by_cases h : MT L B s e i c
  · exact Or.inl ⟨h, if_pos (MT_iff.mpr h)⟩
  · exact Or.inr ⟨h, if_neg (fun z => h (MT_iff.mp z))⟩
theorem gix_last {L e s : Nat} {q B : Nat → Int32} (he : e ≤ 600) (hs : s ≤ 600) (c i w : Nat) (hc : c ≤ 10) (hw : ∀ j, j < c → ¬ sby L (i + j) = nI 32) :
    ∃ sm : Int32, gix L q B (nI e) c i (nI w) (nI s) (nI 1) = .inr (nI w, nI (s + c), sm) ∧ ((MT L B s e i c ∧ ¬ sm = 0 ∧ nI (s + c) = nI e) ∨ (¬ MT L B s e i c ∧ (sm = 0 ∨ (¬ sm = 0 ∧ ¬ nI (s + c) = nI e)))) := by
  have r := @gix_run L e q B he w c 0 i s True _ (by omega) hw
  rw [if_pos trivial, Nat.zero_add] at r
  by_cases h : (True ∧ ∀ j, j < c → s + j < e ∧ B (s + j) = sby L (i + j))
  · rw [if_pos h] at r
    refine ⟨nI 1, r, ?_⟩
    by_cases h2 : s + c = e
    · exact Or.inl ⟨MT_iff.mp ⟨h, h2⟩, pu_n10, by rw [h2]⟩
    · exact Or.inr ⟨fun z => h2 z.1.symm, Or.inr ⟨pu_n10, fun z => h2 (pu_inj (by omega) (by omega) z)⟩⟩
  · rw [if_neg h] at r
    exact ⟨nI 0, r, Or.inr ⟨fun z => h (MT_iff.mpr z).1, Or.inl pu_n01⟩⟩
noncomputable def gix_ok (L : Nat) (q B : Nat → Int32) (x2 : Int32) : Nat → Nat → Int32 → Int32 → Int32 → Prop
  | 0, _, _, _, _ => True
  | k0 + 1, i6, s3, s4, s5 => (if (sby L i6) = (nI 32) then (if s5 = 0 then gix_ok L q B x2 k0 (i6 + 1) (s3 + nI 1) (q 6) (nI 1) else (if s4 = x2 then True else gix_ok L q B x2 k0 (i6 + 1) (s3 + nI 1) (q 6) (nI 1))) else (if s5 = 0 then gix_ok L q B x2 k0 (i6 + 1) s3 (s4 + nI 1) (nI 0) else (if x2 ≤ s4 then gix_ok L q B x2 k0 (i6 + 1) s3 (s4 + nI 1) (nI 0) else ((isN s4) ∧ (ix s4 < 600) ∧ (if (B (ix s4)) = (sby L i6) then gix_ok L q B x2 k0 (i6 + 1) s3 (s4 + nI 1) (nI 1) else gix_ok L q B x2 k0 (i6 + 1) s3 (s4 + nI 1) (nI 0))))))
theorem gix_okt {L e s : Nat} {q B : Nat → Int32} (he : e ≤ 600) (hs : s ≤ 600) (h6 : q 6 = nI s) : ∀ (k i p : Nat) (w sm : Int32), p + k < 1000 → s + k < 1000 → gix_ok L q B (nI e) k i w (nI p) sm := by
  intro k
  induction k with
  | zero => intros; trivial
  | succ k ih =>
    intro i p w sm hp hs'
    simp only [gix_ok, h6, pu_p1]
    have a1 := ih (i + 1) s (w + nI 1) (nI 1) (by omega) (by omega)
    have a2 := ih (i + 1) (p + 1) w (nI 0) (by omega) (by omega)
    have a3 := ih (i + 1) (p + 1) w (nI 1) (by omega) (by omega)
    split
    · split
      · exact a1
      · split
        · trivial
        · exact a1
    · split
      · exact a2
      · split
        · exact a2
        · rename_i h
          rw [pu_lei (by omega) (by omega)] at h
          refine ⟨pu_isN (by omega), by rw [pu_ix (by omega)]; omega, ?_⟩
          split
          · exact a3
          · exact a2
theorem sby_cd (X : Nat) : ∀ c, (∀ j, j < c → ∃ b, 97 ≤ b ∧ b ≤ 122 ∧ sby X j = nI b) → ∀ j, j < c → 1 ≤ ix (sby X j) - 96 ∧ ix (sby X j) - 96 ≤ 26 := by
  intro c h j hj
  obtain ⟨b, h1, h2, e⟩ := h j hj
  rw [e, pu_ix (by omega)]
  omega
/-- the code tells the word -/
theorem code_iff {L X s e ws len : Nat} {B T : Nat → Int32} {v : Int32} (hB : BY B T) (he : e ≤ 600) (hse : s ≤ e) (hl : len ≤ 6 ∧ 1 ≤ len) (hL : ∀ j, s ≤ j → j < e → isL (B j)) (hX : ∀ j, j < len → sby L (ws + j) = sby X j) (hb : ∀ j, j < len → ∃ b, 97 ≤ b ∧ b ≤ 122 ∧ sby X j = nI b)
    (hv : (e - s ≤ 6 ∧ v = nI (cdf (fun j => ix (B (s + j)) - 96) (e - s))) ∨ (6 < e - s ∧ v = nI 0)) : MT L B s e ws len ↔ v = nI (cdf (fun j => ix (sby X j) - 96) len) := by
  have hg := sby_cd X len hb
  have hgl := cdf_lt (fun j => ix (sby X j) - 96) len (fun j hj => (hg j hj).2)
  have h32 : 32 ^ len ≤ 32 ^ 6 := Nat.pow_le_pow_right (by omega) hl.1
  have h326 : (32 : Nat) ^ 6 = 1073741824 := by decide
  have hpos : 1 ≤ cdf (fun j => ix (sby X j) - 96) len := by
    obtain ⟨l, rfl⟩ : ∃ l, len = l + 1 := ⟨len - 1, by omega⟩
    have := (hg l (by omega)).1
    simp only [cdf]
    omega
  have hf : ∀ j, j < e - s → 1 ≤ ix (B (s + j)) - 96 ∧ ix (B (s + j)) - 96 ≤ 26 := by
    intro j hj
    obtain ⟨_, c, hc, ec⟩ := hB (s + j) (by omega)
    have := isL_b hc (ec ▸ hL (s + j) (by omega) (by omega))
    rw [ec, pu_ix (by omega)]
    omega
  constructor
  · rintro ⟨h1, h2⟩
    have hes : e - s = len := by omega
    rcases hv with ⟨q1, q2⟩ | ⟨q1, q2⟩
    · rw [q2, hes]
      congr 1
      exact cdf_cg len (fun j hj => by rw [h2 j hj, hX j hj])
    · omega
  · intro h
    rcases hv with ⟨q1, q2⟩ | ⟨q1, q2⟩
    · have hfl := cdf_lt (fun j => ix (B (s + j)) - 96) (e - s) (fun j hj => (hf j hj).2)
      have h33 : 32 ^ (e - s) ≤ 32 ^ 6 := Nat.pow_le_pow_right (by omega) q1
      rw [q2] at h
      have h' := pu_inj (by omega) (by omega) h
      obtain ⟨i1, i2⟩ := cdf_inj _ _ _ _ hf hg h'
      refine ⟨by omega, fun j hj => ?_⟩
      have i3 := i2 j (by omega)
      obtain ⟨_, c, hc, ec⟩ := hB (s + j) (by omega)
      have hcb := isL_b hc (ec ▸ hL (s + j) (by omega) (by omega))
      obtain ⟨b, hb1, hb2, eb⟩ := hb j hj
      simp only [ec, eb, pu_ix (show c < 2147483648 by omega), pu_ix (show b < 2147483648 by omega)] at i3
      rw [ec, hX j hj, eb]
      congr 1
      omega
    · rw [q2] at h
      have := pu_inj (by omega) (by omega) h
      omega
theorem of_5 : k_of_s5 = nI (cdf (fun j => ix (sby 5 j) - 96) 6) := by
  rw [k_of_s5, cN_eq]
  decide +kernel
theorem ob_5 : ∀ j, j < 6 → ∃ b, 97 ≤ b ∧ b ≤ 122 ∧ sby 5 j = nI b := by
  intro j hj
  have : j = 0 ∨ j = 1 ∨ j = 2 ∨ j = 3 ∨ j = 4 ∨ j = 5 := by omega
  rcases this with rfl | rfl | rfl | rfl | rfl | rfl
  · exact ⟨112, by omega, by omega, by decide⟩
  · exact ⟨108, by omega, by omega, by decide⟩
  · exact ⟨97, by omega, by omega, by decide⟩
  · exact ⟨99, by omega, by omega, by decide⟩
  · exact ⟨101, by omega, by omega, by decide⟩
  · exact ⟨115, by omega, by omega, by decide⟩
theorem of_6 : k_of_s6 = nI (cdf (fun j => ix (sby 6 j) - 96) 4) := by
  rw [k_of_s6, cN_eq]
  decide +kernel
theorem ob_6 : ∀ j, j < 4 → ∃ b, 97 ≤ b ∧ b ≤ 122 ∧ sby 6 j = nI b := by
  intro j hj
  have : j = 0 ∨ j = 1 ∨ j = 2 ∨ j = 3 := by omega
  rcases this with rfl | rfl | rfl | rfl
  · exact ⟨114, by omega, by omega, by decide⟩
  · exact ⟨111, by omega, by omega, by decide⟩
  · exact ⟨97, by omega, by omega, by decide⟩
  · exact ⟨100, by omega, by omega, by decide⟩
theorem of_7 : k_of_s7 = nI (cdf (fun j => ix (sby 7 j) - 96) 5) := by
  rw [k_of_s7, cN_eq]
  decide +kernel
theorem ob_7 : ∀ j, j < 5 → ∃ b, 97 ≤ b ∧ b ≤ 122 ∧ sby 7 j = nI b := by
  intro j hj
  have : j = 0 ∨ j = 1 ∨ j = 2 ∨ j = 3 ∨ j = 4 := by omega
  rcases this with rfl | rfl | rfl | rfl | rfl
  · exact ⟨116, by omega, by omega, by decide⟩
  · exact ⟨104, by omega, by omega, by decide⟩
  · exact ⟨105, by omega, by omega, by decide⟩
  · exact ⟨110, by omega, by omega, by decide⟩
  · exact ⟨103, by omega, by omega, by decide⟩
theorem of_8 : k_of_s8 = nI (cdf (fun j => ix (sby 8 j) - 96) 6) := by
  rw [k_of_s8, cN_eq]
  decide +kernel
theorem ob_8 : ∀ j, j < 6 → ∃ b, 97 ≤ b ∧ b ≤ 122 ∧ sby 8 j = nI b := by
  intro j hj
  have : j = 0 ∨ j = 1 ∨ j = 2 ∨ j = 3 ∨ j = 4 ∨ j = 5 := by omega
  rcases this with rfl | rfl | rfl | rfl | rfl | rfl
  · exact ⟨102, by omega, by omega, by decide⟩
  · exact ⟨105, by omega, by omega, by decide⟩
  · exact ⟨110, by omega, by omega, by decide⟩
  · exact ⟨100, by omega, by omega, by decide⟩
  · exact ⟨101, by omega, by omega, by decide⟩
  · exact ⟨114, by omega, by omega, by decide⟩
theorem of_9 : k_of_s9 = nI (cdf (fun j => ix (sby 9 j) - 96) 3) := by
  rw [k_of_s9, cN_eq]
  decide +kernel
theorem ob_9 : ∀ j, j < 3 → ∃ b, 97 ≤ b ∧ b ≤ 122 ∧ sby 9 j = nI b := by
  intro j hj
  have : j = 0 ∨ j = 1 ∨ j = 2 := by omega
  rcases this with rfl | rfl | rfl
  · exact ⟨111, by omega, by omega, by decide⟩
  · exact ⟨119, by omega, by omega, by decide⟩
  · exact ⟨110, by omega, by omega, by decide⟩
theorem of_10 : k_of_s10 = nI (cdf (fun j => ix (sby 10 j) - 96) 5) := by
  rw [k_of_s10, cN_eq]
  decide +kernel
theorem ob_10 : ∀ j, j < 5 → ∃ b, 97 ≤ b ∧ b ≤ 122 ∧ sby 10 j = nI b := by
  intro j hj
  have : j = 0 ∨ j = 1 ∨ j = 2 ∨ j = 3 ∨ j = 4 := by omega
  rcases this with rfl | rfl | rfl | rfl | rfl
  · exact ⟨108, by omega, by omega, by decide⟩
  · exact ⟨101, by omega, by omega, by decide⟩
  · exact ⟨97, by omega, by omega, by decide⟩
  · exact ⟨115, by omega, by omega, by decide⟩
  · exact ⟨116, by omega, by omega, by decide⟩
theorem of_11 : k_of_s11 = nI (cdf (fun j => ix (sby 11 j) - 96) 4) := by
  rw [k_of_s11, cN_eq]
  decide +kernel
theorem ob_11 : ∀ j, j < 4 → ∃ b, 97 ≤ b ∧ b ≤ 122 ∧ sby 11 j = nI b := by
  intro j hj
  have : j = 0 ∨ j = 1 ∨ j = 2 ∨ j = 3 := by omega
  rcases this with rfl | rfl | rfl | rfl
  · exact ⟨109, by omega, by omega, by decide⟩
  · exact ⟨111, by omega, by omega, by decide⟩
  · exact ⟨115, by omega, by omega, by decide⟩
  · exact ⟨116, by omega, by omega, by decide⟩
theorem of_12 : k_of_s12 = nI (cdf (fun j => ix (sby 12 j) - 96) 5) := by
  rw [k_of_s12, cN_eq]
  decide +kernel
theorem ob_12 : ∀ j, j < 5 → ∃ b, 97 ≤ b ∧ b ≤ 122 ∧ sby 12 j = nI b := by
  intro j hj
  have : j = 0 ∨ j = 1 ∨ j = 2 ∨ j = 3 ∨ j = 4 := by omega
  rcases this with rfl | rfl | rfl | rfl | rfl
  · exact ⟨119, by omega, by omega, by decide⟩
  · exact ⟨111, by omega, by omega, by decide⟩
  · exact ⟨114, by omega, by omega, by decide⟩
  · exact ⟨116, by omega, by omega, by decide⟩
  · exact ⟨104, by omega, by omega, by decide⟩
theorem of_13 : k_of_s13 = nI (cdf (fun j => ix (sby 13 j) - 96) 4) := by
  rw [k_of_s13, cN_eq]
  decide +kernel
theorem ob_13 : ∀ j, j < 4 → ∃ b, 97 ≤ b ∧ b ≤ 122 ∧ sby 13 j = nI b := by
  intro j hj
  have : j = 0 ∨ j = 1 ∨ j = 2 ∨ j = 3 := by omega
  rcases this with rfl | rfl | rfl | rfl
  · exact ⟨111, by omega, by omega, by decide⟩
  · exact ⟨119, by omega, by omega, by decide⟩
  · exact ⟨101, by omega, by omega, by decide⟩
  · exact ⟨115, by omega, by omega, by decide⟩
theorem of_14 : k_of_s14 = nI (cdf (fun j => ix (sby 14 j) - 96) 4) := by
  rw [k_of_s14, cN_eq]
  decide +kernel
theorem ob_14 : ∀ j, j < 4 → ∃ b, 97 ≤ b ∧ b ≤ 122 ∧ sby 14 j = nI b := by
  intro j hj
  have : j = 0 ∨ j = 1 ∨ j = 2 ∨ j = 3 := by omega
  rcases this with rfl | rfl | rfl | rfl
  · exact ⟨104, by omega, by omega, by decide⟩
  · exact ⟨101, by omega, by omega, by decide⟩
  · exact ⟨108, by omega, by omega, by decide⟩
  · exact ⟨100, by omega, by omega, by decide⟩
theorem of_15 : k_of_s15 = nI (cdf (fun j => ix (sby 15 j) - 96) 5) := by
  rw [k_of_s15, cN_eq]
  decide +kernel
theorem ob_15 : ∀ j, j < 5 → ∃ b, 97 ≤ b ∧ b ≤ 122 ∧ sby 15 j = nI b := by
  intro j hj
  have : j = 0 ∨ j = 1 ∨ j = 2 ∨ j = 3 ∨ j = 4 := by omega
  rcases this with rfl | rfl | rfl | rfl | rfl
  · exact ⟨102, by omega, by omega, by decide⟩
  · exact ⟨105, by omega, by omega, by decide⟩
  · exact ⟨110, by omega, by omega, by decide⟩
  · exact ⟨100, by omega, by omega, by decide⟩
  · exact ⟨115, by omega, by omega, by decide⟩
theorem of_16 : k_of_s16 = nI (cdf (fun j => ix (sby 16 j) - 96) 5) := by
  rw [k_of_s16, cN_eq]
  decide +kernel
theorem ob_16 : ∀ j, j < 5 → ∃ b, 97 ≤ b ∧ b ≤ 122 ∧ sby 16 j = nI b := by
  intro j hj
  have : j = 0 ∨ j = 1 ∨ j = 2 ∨ j = 3 ∨ j = 4 := by omega
  rcases this with rfl | rfl | rfl | rfl | rfl
  · exact ⟨108, by omega, by omega, by decide⟩
  · exact ⟨121, by omega, by omega, by decide⟩
  · exact ⟨105, by omega, by omega, by decide⟩
  · exact ⟨110, by omega, by omega, by decide⟩
  · exact ⟨103, by omega, by omega, by decide⟩
theorem of_17 : k_of_s17 = nI (cdf (fun j => ix (sby 17 j) - 96) 3) := by
  rw [k_of_s17, cN_eq]
  decide +kernel
theorem ob_17 : ∀ j, j < 3 → ∃ b, 97 ≤ b ∧ b ≤ 122 ∧ sby 17 j = nI b := by
  intro j hj
  have : j = 0 ∨ j = 1 ∨ j = 2 := by omega
  rcases this with rfl | rfl | rfl
  · exact ⟨100, by omega, by omega, by decide⟩
  · exact ⟨97, by omega, by omega, by decide⟩
  · exact ⟨121, by omega, by omega, by decide⟩
theorem of_18 : k_of_s18 = nI (cdf (fun j => ix (sby 18 j) - 96) 5) := by
  rw [k_of_s18, cN_eq]
  decide +kernel
theorem ob_18 : ∀ j, j < 5 → ∃ b, 97 ≤ b ∧ b ≤ 122 ∧ sby 18 j = nI b := by
  intro j hj
  have : j = 0 ∨ j = 1 ∨ j = 2 ∨ j = 3 ∨ j = 4 := by omega
  rcases this with rfl | rfl | rfl | rfl | rfl
  · exact ⟨115, by omega, by omega, by decide⟩
  · exact ⟨104, by omega, by omega, by decide⟩
  · exact ⟨97, by omega, by omega, by decide⟩
  · exact ⟨109, by omega, by omega, by decide⟩
  · exact ⟨101, by omega, by omega, by decide⟩
theorem of_19 : k_of_s19 = nI (cdf (fun j => ix (sby 19 j) - 96) 4) := by
  rw [k_of_s19, cN_eq]
  decide +kernel
theorem ob_19 : ∀ j, j < 4 → ∃ b, 97 ≤ b ∧ b ≤ 122 ∧ sby 19 j = nI b := by
  intro j hj
  have : j = 0 ∨ j = 1 ∨ j = 2 ∨ j = 3 := by omega
  rcases this with rfl | rfl | rfl | rfl
  · exact ⟨119, by omega, by omega, by decide⟩
  · exact ⟨97, by omega, by omega, by decide⟩
  · exact ⟨108, by omega, by omega, by decide⟩
  · exact ⟨107, by omega, by omega, by decide⟩
theorem of_20 : k_of_s20 = nI (cdf (fun j => ix (sby 20 j) - 96) 4) := by
  rw [k_of_s20, cN_eq]
  decide +kernel
theorem ob_20 : ∀ j, j < 4 → ∃ b, 97 ≤ b ∧ b ≤ 122 ∧ sby 20 j = nI b := by
  intro j hj
  have : j = 0 ∨ j = 1 ∨ j = 2 ∨ j = 3 := by omega
  rcases this with rfl | rfl | rfl | rfl
  · exact ⟨102, by omega, by omega, by decide⟩
  · exact ⟨105, by omega, by omega, by decide⟩
  · exact ⟨110, by omega, by omega, by decide⟩
  · exact ⟨100, by omega, by omega, by decide⟩
theorem of_21 : k_of_s21 = nI (cdf (fun j => ix (sby 21 j) - 96) 4) := by
  rw [k_of_s21, cN_eq]
  decide +kernel
theorem ob_21 : ∀ j, j < 4 → ∃ b, 97 ≤ b ∧ b ≤ 122 ∧ sby 21 j = nI b := by
  intro j hj
  have : j = 0 ∨ j = 1 ∨ j = 2 ∨ j = 3 := by omega
  rcases this with rfl | rfl | rfl | rfl
  · exact ⟨108, by omega, by omega, by decide⟩
  · exact ⟨111, by omega, by omega, by decide⟩
  · exact ⟨115, by omega, by omega, by decide⟩
  · exact ⟨101, by omega, by omega, by decide⟩
theorem of_22 : k_of_s22 = nI (cdf (fun j => ix (sby 22 j) - 96) 4) := by
  rw [k_of_s22, cN_eq]
  decide +kernel
theorem ob_22 : ∀ j, j < 4 → ∃ b, 97 ≤ b ∧ b ≤ 122 ∧ sby 22 j = nI b := by
  intro j hj
  have : j = 0 ∨ j = 1 ∨ j = 2 ∨ j = 3 := by omega
  rcases this with rfl | rfl | rfl | rfl
  · exact ⟨115, by omega, by omega, by decide⟩
  · exact ⟨108, by omega, by omega, by decide⟩
  · exact ⟨105, by omega, by omega, by decide⟩
  · exact ⟨112, by omega, by omega, by decide⟩
theorem of_23 : k_of_s23 = nI (cdf (fun j => ix (sby 23 j) - 96) 5) := by
  rw [k_of_s23, cN_eq]
  decide +kernel
theorem ob_23 : ∀ j, j < 5 → ∃ b, 97 ≤ b ∧ b ≤ 122 ∧ sby 23 j = nI b := by
  intro j hj
  have : j = 0 ∨ j = 1 ∨ j = 2 ∨ j = 3 ∨ j = 4 := by omega
  rcases this with rfl | rfl | rfl | rfl | rfl
  · exact ⟨110, by omega, by omega, by decide⟩
  · exact ⟨105, by omega, by omega, by decide⟩
  · exact ⟨103, by omega, by omega, by decide⟩
  · exact ⟨104, by omega, by omega, by decide⟩
  · exact ⟨116, by omega, by omega, by decide⟩
theorem of_24 : k_of_s24 = nI (cdf (fun j => ix (sby 24 j) - 96) 5) := by
  rw [k_of_s24, cN_eq]
  decide +kernel
theorem ob_24 : ∀ j, j < 5 → ∃ b, 97 ≤ b ∧ b ≤ 122 ∧ sby 24 j = nI b := by
  intro j hj
  have : j = 0 ∨ j = 1 ∨ j = 2 ∨ j = 3 ∨ j = 4 := by omega
  rcases this with rfl | rfl | rfl | rfl | rfl
  · exact ⟨97, by omega, by omega, by decide⟩
  · exact ⟨103, by omega, by omega, by decide⟩
  · exact ⟨97, by omega, by omega, by decide⟩
  · exact ⟨105, by omega, by omega, by decide⟩
  · exact ⟨110, by omega, by omega, by decide⟩
theorem gx_s1 (q B : Nat → Int32) (x : Int32) : ∀ k i s3 s4 s5, t_indexIn_s1_14 q B x k i s3 s4 s5 = gix 1 q B x k i s3 s4 s5 := by
  intro k
  induction k with
  | zero => intros; rfl
  | succ k ih => intros; simp only [t_indexIn_s1_14, gix, ih]
theorem gk_s1 (q B : Nat → Int32) (x : Int32) : ∀ k i s3 s4 s5, t_indexIn_s1_14_ok q B x k i s3 s4 s5 = gix_ok 1 q B x k i s3 s4 s5 := by
  intro k
  induction k with
  | zero => intros; rfl
  | succ k ih => intros; simp only [t_indexIn_s1_14_ok, gix_ok, ih]
theorem tw_s1 {B q : Nat → Int32} {n : Nat} (hn : n ≤ 600) (h5 : q 5 = nI n) (hB : ∀ i, i < 600 → ∃ b, b < 256 ∧ B i = nI b) : ∀ (k a : Nat), a ≤ n → n - a < k → t_word_s1_19_ok q B k (nI a) ∧ t_word_s1_19 q B k (nI a) = nI (le' B n a) := by
  intro k
  induction k with
  | zero => intro a _ h; omega
  | succ k ih =>
    intro a ha hk
    simp only [t_word_s1_19_ok, t_word_s1_19, h5]
    by_cases hl : a < n
    · have f1 : ¬ nI n ≤ nI a := by rw [pu_lei (by omega) (by omega)]; omega
      simp only [f1, ↓reduceIte, pu_ix (show a < 2147483648 by omega), pu_isN (show a < 2147483648 by omega), show a < 600 by omega, true_and, pu_p1]
      by_cases h1 : B a < nI 97
      · simp only [h1, ↓reduceIte, true_and]
        rw [le_stop (fun z => z.2.1 h1)]
      · by_cases h2 : nI 122 < B a
        · simp only [h1, h2, ↓reduceIte, true_and]
          rw [le_stop (fun z => z.2.2 h2)]
        · simp only [h1, h2, ↓reduceIte]
          rw [le_step hl ⟨h1, h2⟩]
          exact ih (a + 1) (by omega) (by omega)
    · have f1 : nI n ≤ nI a := by rw [pu_lei (by omega) (by omega)]; omega
      simp only [f1, ↓reduceIte, true_and]
      rw [le_stop (fun z => hl z.1)]
noncomputable def oc_s1 (k : Nat) : Int32 := match k with | 0 => k_of_s5 | 1 => k_of_s6 | 2 => k_of_s7 | 3 => k_of_s8 | 4 => k_of_s9 | _ => nI 0
theorem in_s1 {B T q : Nat → Int32} {s e : Nat} {v : Int32} (hB : BY B T) (he : e ≤ 600) (hse : s ≤ e) (h6 : q 6 = nI s) (hL : ∀ j, s ≤ j → j < e → isL (B j))
    (hv : (e - s ≤ 6 ∧ v = nI (cdf (fun j => ix (B (s + j)) - 96) (e - s))) ∨ (6 < e - s ∧ v = nI 0)) :
    t_indexIn_s1_ok q B (nI e) ∧ ((∃ k, k < 5 ∧ t_indexIn_s1 q B (nI e) = nI k ∧ v = oc_s1 k ∧ s < e) ∨ (t_indexIn_s1 q B (nI e) = -1 ∧ ∀ k, k < 5 → ¬ v = oc_s1 k)) := by
  have hok : t_indexIn_s1_ok q B (nI e) := by
    simp only [t_indexIn_s1_ok]
    refine ⟨?_, ?_⟩
    · rw [gk_s1, cN_eq, h6]
      exact gix_okt he (by omega) h6 _ _ _ _ _ (by omega) (by omega)
    · split <;> trivial
  refine ⟨hok, ?_⟩
  simp only [t_indexIn_s1, gx_s1, cN_eq, h6]
  have i0 := code_iff (L := 1) (X := 5) (ws := 0) (len := 6) hB he hse ⟨by omega, by omega⟩ hL (by decide) ob_5 hv
  rw [← of_5] at i0
  have i1 := code_iff (L := 1) (X := 6) (ws := 7) (len := 4) hB he hse ⟨by omega, by omega⟩ hL (by decide) ob_6 hv
  rw [← of_6] at i1
  have i2 := code_iff (L := 1) (X := 7) (ws := 12) (len := 5) hB he hse ⟨by omega, by omega⟩ hL (by decide) ob_7 hv
  rw [← of_7] at i2
  have i3 := code_iff (L := 1) (X := 8) (ws := 18) (len := 6) hB he hse ⟨by omega, by omega⟩ hL (by decide) ob_8 hv
  rw [← of_8] at i3
  have i4 := code_iff (L := 1) (X := 9) (ws := 25) (len := 3) hB he hse ⟨by omega, by omega⟩ hL (by decide) ob_9 hv
  rw [← of_9] at i4
  rcases gix_word (L := 1) (B := B) he (by omega) h6 6 21 0 0 (by omega) (by decide) (by decide) with ⟨m0, g0⟩ | ⟨m0, g0⟩
  · rw [show (28 : Nat) = 21 + 1 + 6 from rfl, g0]
    exact Or.inl ⟨0, by omega, rfl, i0.mp m0, by have := m0.1; omega⟩
  rw [show (28 : Nat) = 21 + 1 + 6 from rfl, g0]
  simp only [Nat.reduceAdd]
  rcases gix_word (L := 1) (B := B) he (by omega) h6 4 16 7 1 (by omega) (by decide) (by decide) with ⟨m1, g1⟩ | ⟨m1, g1⟩
  · rw [show (21 : Nat) = 16 + 1 + 4 from rfl, g1]
    exact Or.inl ⟨1, by omega, rfl, i1.mp m1, by have := m1.1; omega⟩
  rw [show (21 : Nat) = 16 + 1 + 4 from rfl, g1]
  simp only [Nat.reduceAdd]
  rcases gix_word (L := 1) (B := B) he (by omega) h6 5 10 12 2 (by omega) (by decide) (by decide) with ⟨m2, g2⟩ | ⟨m2, g2⟩
  · rw [show (16 : Nat) = 10 + 1 + 5 from rfl, g2]
    exact Or.inl ⟨2, by omega, rfl, i2.mp m2, by have := m2.1; omega⟩
  rw [show (16 : Nat) = 10 + 1 + 5 from rfl, g2]
  simp only [Nat.reduceAdd]
  rcases gix_word (L := 1) (B := B) he (by omega) h6 6 3 18 3 (by omega) (by decide) (by decide) with ⟨m3, g3⟩ | ⟨m3, g3⟩
  · rw [show (10 : Nat) = 3 + 1 + 6 from rfl, g3]
    exact Or.inl ⟨3, by omega, rfl, i3.mp m3, by have := m3.1; omega⟩
  rw [show (10 : Nat) = 3 + 1 + 6 from rfl, g3]
  simp only [Nat.reduceAdd]
  obtain ⟨sm, gl, hh⟩ := gix_last (L := 1) (q := q) (B := B) he (show s ≤ 600 by omega) 3 25 4 (by omega) (by decide)
  rw [gl]
  rcases hh with ⟨m4, a1, a2⟩ | ⟨m4, hz⟩
  · simp only [a1, a2, ↓reduceIte]
    exact Or.inl ⟨4, by omega, rfl, i4.mp m4, by have := m4.1; omega⟩
  · refine Or.inr ⟨?_, fun k hk => ?_⟩
    · rcases hz with a1 | ⟨a1, a2⟩
      · simp only [a1, ↓reduceIte]
      · simp only [a1, a2, ↓reduceIte]
    have : k = 0 ∨ k = 1 ∨ k = 2 ∨ k = 3 ∨ k = 4 := by omega
    rcases this with rfl | rfl | rfl | rfl | rfl
    · exact fun z => m0 (i0.mpr z)
    · exact fun z => m1 (i1.mpr z)
    · exact fun z => m2 (i2.mpr z)
    · exact fun z => m3 (i3.mpr z)
    · exact fun z => m4 (i4.mpr z)
theorem rd_s1 {B T q m : Nat → Int32} {n a : Nat} (hn : n ≤ 600) (hB : BY B T) (hq : TS q n a) (hm : MS m n a) :
    t_word_s1_ok q B ∧ (t_word_s1 q B).2 4 = nI (sk B n a) ∧
    ((∃ k, k < 5 ∧ (t_word_s1 q B).1 = nI k ∧ (k_word m T).1 = oc_s1 k ∧ TS (t_word_s1 q B).2 n (le' B n (sk B n a)) ∧ sk B n a < le' B n (sk B n a)) ∨
      ((t_word_s1 q B).1 = -1 ∧ (∀ k, k < 5 → ¬ (k_word m T).1 = oc_s1 k) ∧ TF (t_word_s1 q B).2 n 1 (sk B n a))) := by
  obtain ⟨w1, w2, w3⟩ := kword hn hB hm
  obtain ⟨h1, h2, h3, h5, h6, ha⟩ := hq
  obtain ⟨r1, r2⟩ := tnx (B := B) hn h5 h6 ha
  have hs := sk_le (B := B) ha
  generalize sk B n a = s at *
  have e2 : upd (upd q 6 (nI s)) 4 (nI s) 2 = 0 := by simp (disch := decide) only [pk_un, h2]
  have e1 : upd (upd q 6 (nI s)) 4 (nI s) 1 = nI 0 := by simp (disch := decide) only [pk_un, h1]
  have e3 : upd (upd q 6 (nI s)) 4 (nI s) 3 = -1 := by simp (disch := decide) only [pk_un, h3]
  have e5 : upd (upd q 6 (nI s)) 4 (nI s) 5 = nI n := by simp (disch := decide) only [pk_un, h5]
  have e6 : upd (upd q 6 (nI s)) 4 (nI s) 6 = nI s := by simp (disch := decide) only [pk_us, pk_un]
  have e4 : upd (upd q 6 (nI s)) 4 (nI s) 4 = nI s := pk_us
  have l1 := le_ge B n s
  have l2 := le_le (B := B) hs
  simp only [t_word_s1_ok, t_word_s1, r1, r2, true_and]
  generalize upd (upd q 6 (nI s)) 4 (nI s) = q1 at *
  obtain ⟨k1, k2⟩ := tw_s1 (B := B) hn e5 (fun i hi => (hB i hi).2) FU s hs (by rw [FU_eq]; omega)
  have l3 : ∀ j, s ≤ j → j < le' B n s → isL (B j) := fun j a b => le_in a b
  generalize le' B n s = e at *
  obtain ⟨x1, x2⟩ := in_s1 (q := q1) hB (show e ≤ 600 by omega) l1 e6 l3 w3
  simp only [e2, ↓reduceIte, e6, k1, k2, x1, e4, true_and]
  rcases x2 with ⟨k, hk, y1, y2, y3⟩ | ⟨y1, y2⟩
  · have hne : ¬ nI k = -1 := pu_nm (by omega)
    simp only [y1, hne, ↓reduceIte]
    refine ⟨by rw [pk_un (by decide)]; exact e4, Or.inl ⟨k, hk, rfl, y2, ⟨?_, ?_, ?_, ?_, ?_, l2⟩, y3⟩⟩ <;> simp (disch := decide) only [pk_us, pk_un, e1, e2, e3, e5]
  · simp only [y1, ↓reduceIte]
    obtain ⟨t1, t2⟩ := TF.of (kd := 1) (s := s) e1 e2 e5 e6 hs ⟨by omega, by omega⟩
    generalize t_fail q1 (nI 1) (nI s) = w at *
    rcases w with ⟨x9, q9⟩
    exact ⟨t2.trans e4, Or.inr ⟨trivial, y2, t1⟩⟩
theorem TF.w_s1 {B q : Nat → Int32} {n kd pl : Nat} (hn : n ≤ 600) (h : TF q n kd pl) : t_word_s1_ok q B ∧ TF (t_word_s1 q B).2 n kd pl ∧ (t_word_s1 q B).1 = -1 := by
  obtain ⟨r1, r2, r3⟩ := h.nx (B := B) hn
  have e : t_next q B = (-1, (t_next q B).2) := by rw [← r2]
  generalize (t_next q B).2 = q' at e r3
  simp only [t_word_s1_ok, t_word_s1, r1, e, if_neg r3.ne, true_and]
  exact ⟨r3, trivial⟩
theorem gx_s2 (q B : Nat → Int32) (x : Int32) : ∀ k i s3 s4 s5, t_indexIn_s2_14 q B x k i s3 s4 s5 = gix 2 q B x k i s3 s4 s5 := by
  intro k
  induction k with
  | zero => intros; rfl
  | succ k ih => intros; simp only [t_indexIn_s2_14, gix, ih]
theorem gk_s2 (q B : Nat → Int32) (x : Int32) : ∀ k i s3 s4 s5, t_indexIn_s2_14_ok q B x k i s3 s4 s5 = gix_ok 2 q B x k i s3 s4 s5 := by
  intro k
  induction k with
  | zero => intros; rfl
  | succ k ih => intros; simp only [t_indexIn_s2_14_ok, gix_ok, ih]
theorem tw_s2 {B q : Nat → Int32} {n : Nat} (hn : n ≤ 600) (h5 : q 5 = nI n) (hB : ∀ i, i < 600 → ∃ b, b < 256 ∧ B i = nI b) : ∀ (k a : Nat), a ≤ n → n - a < k → t_word_s2_19_ok q B k (nI a) ∧ t_word_s2_19 q B k (nI a) = nI (le' B n a) := by
  intro k
  induction k with
  | zero => intro a _ h; omega
  | succ k ih =>
    intro a ha hk
    simp only [t_word_s2_19_ok, t_word_s2_19, h5]
    by_cases hl : a < n
    · have f1 : ¬ nI n ≤ nI a := by rw [pu_lei (by omega) (by omega)]; omega
      simp only [f1, ↓reduceIte, pu_ix (show a < 2147483648 by omega), pu_isN (show a < 2147483648 by omega), show a < 600 by omega, true_and, pu_p1]
      by_cases h1 : B a < nI 97
      · simp only [h1, ↓reduceIte, true_and]
        rw [le_stop (fun z => z.2.1 h1)]
      · by_cases h2 : nI 122 < B a
        · simp only [h1, h2, ↓reduceIte, true_and]
          rw [le_stop (fun z => z.2.2 h2)]
        · simp only [h1, h2, ↓reduceIte]
          rw [le_step hl ⟨h1, h2⟩]
          exact ih (a + 1) (by omega) (by omega)
    · have f1 : nI n ≤ nI a := by rw [pu_lei (by omega) (by omega)]; omega
      simp only [f1, ↓reduceIte, true_and]
      rw [le_stop (fun z => hl z.1)]
noncomputable def oc_s2 (k : Nat) : Int32 := match k with | 0 => k_of_s12 | 1 => k_of_s13 | 2 => k_of_s14 | 3 => k_of_s15 | 4 => k_of_s16 | 5 => k_of_s17 | 6 => k_of_s18 | 7 => k_of_s8 | 8 => k_of_s10 | 9 => k_of_s11 | _ => nI 0
theorem in_s2 {B T q : Nat → Int32} {s e : Nat} {v : Int32} (hB : BY B T) (he : e ≤ 600) (hse : s ≤ e) (h6 : q 6 = nI s) (hL : ∀ j, s ≤ j → j < e → isL (B j))
    (hv : (e - s ≤ 6 ∧ v = nI (cdf (fun j => ix (B (s + j)) - 96) (e - s))) ∨ (6 < e - s ∧ v = nI 0)) :
    t_indexIn_s2_ok q B (nI e) ∧ ((∃ k, k < 10 ∧ t_indexIn_s2 q B (nI e) = nI k ∧ v = oc_s2 k ∧ s < e) ∨ (t_indexIn_s2 q B (nI e) = -1 ∧ ∀ k, k < 10 → ¬ v = oc_s2 k)) := by
  have hok : t_indexIn_s2_ok q B (nI e) := by
    simp only [t_indexIn_s2_ok]
    refine ⟨?_, ?_⟩
    · rw [gk_s2, cN_eq, h6]
      exact gix_okt he (by omega) h6 _ _ _ _ _ (by omega) (by omega)
    · split <;> trivial
  refine ⟨hok, ?_⟩
  simp only [t_indexIn_s2, gx_s2, cN_eq, h6]
  have i0 := code_iff (L := 2) (X := 12) (ws := 0) (len := 5) hB he hse ⟨by omega, by omega⟩ hL (by decide) ob_12 hv
  rw [← of_12] at i0
  have i1 := code_iff (L := 2) (X := 13) (ws := 6) (len := 4) hB he hse ⟨by omega, by omega⟩ hL (by decide) ob_13 hv
  rw [← of_13] at i1
  have i2 := code_iff (L := 2) (X := 14) (ws := 11) (len := 4) hB he hse ⟨by omega, by omega⟩ hL (by decide) ob_14 hv
  rw [← of_14] at i2
  have i3 := code_iff (L := 2) (X := 15) (ws := 16) (len := 5) hB he hse ⟨by omega, by omega⟩ hL (by decide) ob_15 hv
  rw [← of_15] at i3
  have i4 := code_iff (L := 2) (X := 16) (ws := 22) (len := 5) hB he hse ⟨by omega, by omega⟩ hL (by decide) ob_16 hv
  rw [← of_16] at i4
  have i5 := code_iff (L := 2) (X := 17) (ws := 28) (len := 3) hB he hse ⟨by omega, by omega⟩ hL (by decide) ob_17 hv
  rw [← of_17] at i5
  have i6 := code_iff (L := 2) (X := 18) (ws := 32) (len := 5) hB he hse ⟨by omega, by omega⟩ hL (by decide) ob_18 hv
  rw [← of_18] at i6
  have i7 := code_iff (L := 2) (X := 8) (ws := 38) (len := 6) hB he hse ⟨by omega, by omega⟩ hL (by decide) ob_8 hv
  rw [← of_8] at i7
  have i8 := code_iff (L := 2) (X := 10) (ws := 45) (len := 5) hB he hse ⟨by omega, by omega⟩ hL (by decide) ob_10 hv
  rw [← of_10] at i8
  have i9 := code_iff (L := 2) (X := 11) (ws := 51) (len := 4) hB he hse ⟨by omega, by omega⟩ hL (by decide) ob_11 hv
  rw [← of_11] at i9
  rcases gix_word (L := 2) (B := B) he (by omega) h6 5 49 0 0 (by omega) (by decide) (by decide) with ⟨m0, g0⟩ | ⟨m0, g0⟩
  · rw [show (55 : Nat) = 49 + 1 + 5 from rfl, g0]
    exact Or.inl ⟨0, by omega, rfl, i0.mp m0, by have := m0.1; omega⟩
  rw [show (55 : Nat) = 49 + 1 + 5 from rfl, g0]
  simp only [Nat.reduceAdd]
  rcases gix_word (L := 2) (B := B) he (by omega) h6 4 44 6 1 (by omega) (by decide) (by decide) with ⟨m1, g1⟩ | ⟨m1, g1⟩
  · rw [show (49 : Nat) = 44 + 1 + 4 from rfl, g1]
    exact Or.inl ⟨1, by omega, rfl, i1.mp m1, by have := m1.1; omega⟩
  rw [show (49 : Nat) = 44 + 1 + 4 from rfl, g1]
  simp only [Nat.reduceAdd]
  rcases gix_word (L := 2) (B := B) he (by omega) h6 4 39 11 2 (by omega) (by decide) (by decide) with ⟨m2, g2⟩ | ⟨m2, g2⟩
  · rw [show (44 : Nat) = 39 + 1 + 4 from rfl, g2]
    exact Or.inl ⟨2, by omega, rfl, i2.mp m2, by have := m2.1; omega⟩
  rw [show (44 : Nat) = 39 + 1 + 4 from rfl, g2]
  simp only [Nat.reduceAdd]
  rcases gix_word (L := 2) (B := B) he (by omega) h6 5 33 16 3 (by omega) (by decide) (by decide) with ⟨m3, g3⟩ | ⟨m3, g3⟩
  · rw [show (39 : Nat) = 33 + 1 + 5 from rfl, g3]
    exact Or.inl ⟨3, by omega, rfl, i3.mp m3, by have := m3.1; omega⟩
  rw [show (39 : Nat) = 33 + 1 + 5 from rfl, g3]
  simp only [Nat.reduceAdd]
  rcases gix_word (L := 2) (B := B) he (by omega) h6 5 27 22 4 (by omega) (by decide) (by decide) with ⟨m4, g4⟩ | ⟨m4, g4⟩
  · rw [show (33 : Nat) = 27 + 1 + 5 from rfl, g4]
    exact Or.inl ⟨4, by omega, rfl, i4.mp m4, by have := m4.1; omega⟩
  rw [show (33 : Nat) = 27 + 1 + 5 from rfl, g4]
  simp only [Nat.reduceAdd]
  rcases gix_word (L := 2) (B := B) he (by omega) h6 3 23 28 5 (by omega) (by decide) (by decide) with ⟨m5, g5⟩ | ⟨m5, g5⟩
  · rw [show (27 : Nat) = 23 + 1 + 3 from rfl, g5]
    exact Or.inl ⟨5, by omega, rfl, i5.mp m5, by have := m5.1; omega⟩
  rw [show (27 : Nat) = 23 + 1 + 3 from rfl, g5]
  simp only [Nat.reduceAdd]
  rcases gix_word (L := 2) (B := B) he (by omega) h6 5 17 32 6 (by omega) (by decide) (by decide) with ⟨m6, g6⟩ | ⟨m6, g6⟩
  · rw [show (23 : Nat) = 17 + 1 + 5 from rfl, g6]
    exact Or.inl ⟨6, by omega, rfl, i6.mp m6, by have := m6.1; omega⟩
  rw [show (23 : Nat) = 17 + 1 + 5 from rfl, g6]
  simp only [Nat.reduceAdd]
  rcases gix_word (L := 2) (B := B) he (by omega) h6 6 10 38 7 (by omega) (by decide) (by decide) with ⟨m7, g7⟩ | ⟨m7, g7⟩
  · rw [show (17 : Nat) = 10 + 1 + 6 from rfl, g7]
    exact Or.inl ⟨7, by omega, rfl, i7.mp m7, by have := m7.1; omega⟩
  rw [show (17 : Nat) = 10 + 1 + 6 from rfl, g7]
  simp only [Nat.reduceAdd]
  rcases gix_word (L := 2) (B := B) he (by omega) h6 5 4 45 8 (by omega) (by decide) (by decide) with ⟨m8, g8⟩ | ⟨m8, g8⟩
  · rw [show (10 : Nat) = 4 + 1 + 5 from rfl, g8]
    exact Or.inl ⟨8, by omega, rfl, i8.mp m8, by have := m8.1; omega⟩
  rw [show (10 : Nat) = 4 + 1 + 5 from rfl, g8]
  simp only [Nat.reduceAdd]
  obtain ⟨sm, gl, hh⟩ := gix_last (L := 2) (q := q) (B := B) he (show s ≤ 600 by omega) 4 51 9 (by omega) (by decide)
  rw [gl]
  rcases hh with ⟨m9, a1, a2⟩ | ⟨m9, hz⟩
  · simp only [a1, a2, ↓reduceIte]
    exact Or.inl ⟨9, by omega, rfl, i9.mp m9, by have := m9.1; omega⟩
  · refine Or.inr ⟨?_, fun k hk => ?_⟩
    · rcases hz with a1 | ⟨a1, a2⟩
      · simp only [a1, ↓reduceIte]
      · simp only [a1, a2, ↓reduceIte]
    have : k = 0 ∨ k = 1 ∨ k = 2 ∨ k = 3 ∨ k = 4 ∨ k = 5 ∨ k = 6 ∨ k = 7 ∨ k = 8 ∨ k = 9 := by omega
    rcases this with rfl | rfl | rfl | rfl | rfl | rfl | rfl | rfl | rfl | rfl
    · exact fun z => m0 (i0.mpr z)
    · exact fun z => m1 (i1.mpr z)
    · exact fun z => m2 (i2.mpr z)
    · exact fun z => m3 (i3.mpr z)
    · exact fun z => m4 (i4.mpr z)
    · exact fun z => m5 (i5.mpr z)
    · exact fun z => m6 (i6.mpr z)
    · exact fun z => m7 (i7.mpr z)
    · exact fun z => m8 (i8.mpr z)
    · exact fun z => m9 (i9.mpr z)
theorem rd_s2 {B T q m : Nat → Int32} {n a : Nat} (hn : n ≤ 600) (hB : BY B T) (hq : TS q n a) (hm : MS m n a) :
    t_word_s2_ok q B ∧ (t_word_s2 q B).2 4 = nI (sk B n a) ∧
    ((∃ k, k < 10 ∧ (t_word_s2 q B).1 = nI k ∧ (k_word m T).1 = oc_s2 k ∧ TS (t_word_s2 q B).2 n (le' B n (sk B n a)) ∧ sk B n a < le' B n (sk B n a)) ∨
      ((t_word_s2 q B).1 = -1 ∧ (∀ k, k < 10 → ¬ (k_word m T).1 = oc_s2 k) ∧ TF (t_word_s2 q B).2 n 1 (sk B n a))) := by
  obtain ⟨w1, w2, w3⟩ := kword hn hB hm
  obtain ⟨h1, h2, h3, h5, h6, ha⟩ := hq
  obtain ⟨r1, r2⟩ := tnx (B := B) hn h5 h6 ha
  have hs := sk_le (B := B) ha
  generalize sk B n a = s at *
  have e2 : upd (upd q 6 (nI s)) 4 (nI s) 2 = 0 := by simp (disch := decide) only [pk_un, h2]
  have e1 : upd (upd q 6 (nI s)) 4 (nI s) 1 = nI 0 := by simp (disch := decide) only [pk_un, h1]
  have e3 : upd (upd q 6 (nI s)) 4 (nI s) 3 = -1 := by simp (disch := decide) only [pk_un, h3]
  have e5 : upd (upd q 6 (nI s)) 4 (nI s) 5 = nI n := by simp (disch := decide) only [pk_un, h5]
  have e6 : upd (upd q 6 (nI s)) 4 (nI s) 6 = nI s := by simp (disch := decide) only [pk_us, pk_un]
  have e4 : upd (upd q 6 (nI s)) 4 (nI s) 4 = nI s := pk_us
  have l1 := le_ge B n s
  have l2 := le_le (B := B) hs
  simp only [t_word_s2_ok, t_word_s2, r1, r2, true_and]
  generalize upd (upd q 6 (nI s)) 4 (nI s) = q1 at *
  obtain ⟨k1, k2⟩ := tw_s2 (B := B) hn e5 (fun i hi => (hB i hi).2) FU s hs (by rw [FU_eq]; omega)
  have l3 : ∀ j, s ≤ j → j < le' B n s → isL (B j) := fun j a b => le_in a b
  generalize le' B n s = e at *
  obtain ⟨x1, x2⟩ := in_s2 (q := q1) hB (show e ≤ 600 by omega) l1 e6 l3 w3
  simp only [e2, ↓reduceIte, e6, k1, k2, x1, e4, true_and]
  rcases x2 with ⟨k, hk, y1, y2, y3⟩ | ⟨y1, y2⟩
  · have hne : ¬ nI k = -1 := pu_nm (by omega)
    simp only [y1, hne, ↓reduceIte]
    refine ⟨by rw [pk_un (by decide)]; exact e4, Or.inl ⟨k, hk, rfl, y2, ⟨?_, ?_, ?_, ?_, ?_, l2⟩, y3⟩⟩ <;> simp (disch := decide) only [pk_us, pk_un, e1, e2, e3, e5]
  · simp only [y1, ↓reduceIte]
    obtain ⟨t1, t2⟩ := TF.of (kd := 1) (s := s) e1 e2 e5 e6 hs ⟨by omega, by omega⟩
    generalize t_fail q1 (nI 1) (nI s) = w at *
    rcases w with ⟨x9, q9⟩
    exact ⟨t2.trans e4, Or.inr ⟨trivial, y2, t1⟩⟩
theorem TF.w_s2 {B q : Nat → Int32} {n kd pl : Nat} (hn : n ≤ 600) (h : TF q n kd pl) : t_word_s2_ok q B ∧ TF (t_word_s2 q B).2 n kd pl ∧ (t_word_s2 q B).1 = -1 := by
  obtain ⟨r1, r2, r3⟩ := h.nx (B := B) hn
  have e : t_next q B = (-1, (t_next q B).2) := by rw [← r2]
  generalize (t_next q B).2 = q' at e r3
  simp only [t_word_s2_ok, t_word_s2, r1, e, if_neg r3.ne, true_and]
  exact ⟨r3, trivial⟩
theorem gx_s3 (q B : Nat → Int32) (x : Int32) : ∀ k i s3 s4 s5, t_indexIn_s3_14 q B x k i s3 s4 s5 = gix 3 q B x k i s3 s4 s5 := by
  intro k
  induction k with
  | zero => intros; rfl
  | succ k ih => intros; simp only [t_indexIn_s3_14, gix, ih]
theorem gk_s3 (q B : Nat → Int32) (x : Int32) : ∀ k i s3 s4 s5, t_indexIn_s3_14_ok q B x k i s3 s4 s5 = gix_ok 3 q B x k i s3 s4 s5 := by
  intro k
  induction k with
  | zero => intros; rfl
  | succ k ih => intros; simp only [t_indexIn_s3_14_ok, gix_ok, ih]
theorem tw_s3 {B q : Nat → Int32} {n : Nat} (hn : n ≤ 600) (h5 : q 5 = nI n) (hB : ∀ i, i < 600 → ∃ b, b < 256 ∧ B i = nI b) : ∀ (k a : Nat), a ≤ n → n - a < k → t_word_s3_19_ok q B k (nI a) ∧ t_word_s3_19 q B k (nI a) = nI (le' B n a) := by
  intro k
  induction k with
  | zero => intro a _ h; omega
  | succ k ih =>
    intro a ha hk
    simp only [t_word_s3_19_ok, t_word_s3_19, h5]
    by_cases hl : a < n
    · have f1 : ¬ nI n ≤ nI a := by rw [pu_lei (by omega) (by omega)]; omega
      simp only [f1, ↓reduceIte, pu_ix (show a < 2147483648 by omega), pu_isN (show a < 2147483648 by omega), show a < 600 by omega, true_and, pu_p1]
      by_cases h1 : B a < nI 97
      · simp only [h1, ↓reduceIte, true_and]
        rw [le_stop (fun z => z.2.1 h1)]
      · by_cases h2 : nI 122 < B a
        · simp only [h1, h2, ↓reduceIte, true_and]
          rw [le_stop (fun z => z.2.2 h2)]
        · simp only [h1, h2, ↓reduceIte]
          rw [le_step hl ⟨h1, h2⟩]
          exact ih (a + 1) (by omega) (by omega)
    · have f1 : nI n ≤ nI a := by rw [pu_lei (by omega) (by omega)]; omega
      simp only [f1, ↓reduceIte, true_and]
      rw [le_stop (fun z => hl z.1)]
noncomputable def oc_s3 (k : Nat) : Int32 := match k with | 0 => k_of_s19 | 1 => k_of_s20 | 2 => k_of_s21 | 3 => k_of_s22 | 4 => k_of_s23 | 5 => k_of_s24 | _ => nI 0
theorem in_s3 {B T q : Nat → Int32} {s e : Nat} {v : Int32} (hB : BY B T) (he : e ≤ 600) (hse : s ≤ e) (h6 : q 6 = nI s) (hL : ∀ j, s ≤ j → j < e → isL (B j))
    (hv : (e - s ≤ 6 ∧ v = nI (cdf (fun j => ix (B (s + j)) - 96) (e - s))) ∨ (6 < e - s ∧ v = nI 0)) :
    t_indexIn_s3_ok q B (nI e) ∧ ((∃ k, k < 6 ∧ t_indexIn_s3 q B (nI e) = nI k ∧ v = oc_s3 k ∧ s < e) ∨ (t_indexIn_s3 q B (nI e) = -1 ∧ ∀ k, k < 6 → ¬ v = oc_s3 k)) := by
  have hok : t_indexIn_s3_ok q B (nI e) := by
    simp only [t_indexIn_s3_ok]
    refine ⟨?_, ?_⟩
    · rw [gk_s3, cN_eq, h6]
      exact gix_okt he (by omega) h6 _ _ _ _ _ (by omega) (by omega)
    · split <;> trivial
  refine ⟨hok, ?_⟩
  simp only [t_indexIn_s3, gx_s3, cN_eq, h6]
  have i0 := code_iff (L := 3) (X := 19) (ws := 0) (len := 4) hB he hse ⟨by omega, by omega⟩ hL (by decide) ob_19 hv
  rw [← of_19] at i0
  have i1 := code_iff (L := 3) (X := 20) (ws := 5) (len := 4) hB he hse ⟨by omega, by omega⟩ hL (by decide) ob_20 hv
  rw [← of_20] at i1
  have i2 := code_iff (L := 3) (X := 21) (ws := 10) (len := 4) hB he hse ⟨by omega, by omega⟩ hL (by decide) ob_21 hv
  rw [← of_21] at i2
  have i3 := code_iff (L := 3) (X := 22) (ws := 15) (len := 4) hB he hse ⟨by omega, by omega⟩ hL (by decide) ob_22 hv
  rw [← of_22] at i3
  have i4 := code_iff (L := 3) (X := 23) (ws := 20) (len := 5) hB he hse ⟨by omega, by omega⟩ hL (by decide) ob_23 hv
  rw [← of_23] at i4
  have i5 := code_iff (L := 3) (X := 24) (ws := 26) (len := 5) hB he hse ⟨by omega, by omega⟩ hL (by decide) ob_24 hv
  rw [← of_24] at i5
  rcases gix_word (L := 3) (B := B) he (by omega) h6 4 26 0 0 (by omega) (by decide) (by decide) with ⟨m0, g0⟩ | ⟨m0, g0⟩
  · rw [show (31 : Nat) = 26 + 1 + 4 from rfl, g0]
    exact Or.inl ⟨0, by omega, rfl, i0.mp m0, by have := m0.1; omega⟩
  rw [show (31 : Nat) = 26 + 1 + 4 from rfl, g0]
  simp only [Nat.reduceAdd]
  rcases gix_word (L := 3) (B := B) he (by omega) h6 4 21 5 1 (by omega) (by decide) (by decide) with ⟨m1, g1⟩ | ⟨m1, g1⟩
  · rw [show (26 : Nat) = 21 + 1 + 4 from rfl, g1]
    exact Or.inl ⟨1, by omega, rfl, i1.mp m1, by have := m1.1; omega⟩
  rw [show (26 : Nat) = 21 + 1 + 4 from rfl, g1]
  simp only [Nat.reduceAdd]
  rcases gix_word (L := 3) (B := B) he (by omega) h6 4 16 10 2 (by omega) (by decide) (by decide) with ⟨m2, g2⟩ | ⟨m2, g2⟩
  · rw [show (21 : Nat) = 16 + 1 + 4 from rfl, g2]
    exact Or.inl ⟨2, by omega, rfl, i2.mp m2, by have := m2.1; omega⟩
  rw [show (21 : Nat) = 16 + 1 + 4 from rfl, g2]
  simp only [Nat.reduceAdd]
  rcases gix_word (L := 3) (B := B) he (by omega) h6 4 11 15 3 (by omega) (by decide) (by decide) with ⟨m3, g3⟩ | ⟨m3, g3⟩
  · rw [show (16 : Nat) = 11 + 1 + 4 from rfl, g3]
    exact Or.inl ⟨3, by omega, rfl, i3.mp m3, by have := m3.1; omega⟩
  rw [show (16 : Nat) = 11 + 1 + 4 from rfl, g3]
  simp only [Nat.reduceAdd]
  rcases gix_word (L := 3) (B := B) he (by omega) h6 5 5 20 4 (by omega) (by decide) (by decide) with ⟨m4, g4⟩ | ⟨m4, g4⟩
  · rw [show (11 : Nat) = 5 + 1 + 5 from rfl, g4]
    exact Or.inl ⟨4, by omega, rfl, i4.mp m4, by have := m4.1; omega⟩
  rw [show (11 : Nat) = 5 + 1 + 5 from rfl, g4]
  simp only [Nat.reduceAdd]
  obtain ⟨sm, gl, hh⟩ := gix_last (L := 3) (q := q) (B := B) he (show s ≤ 600 by omega) 5 26 5 (by omega) (by decide)
  rw [gl]
  rcases hh with ⟨m5, a1, a2⟩ | ⟨m5, hz⟩
  · simp only [a1, a2, ↓reduceIte]
    exact Or.inl ⟨5, by omega, rfl, i5.mp m5, by have := m5.1; omega⟩
  · refine Or.inr ⟨?_, fun k hk => ?_⟩
    · rcases hz with a1 | ⟨a1, a2⟩
      · simp only [a1, ↓reduceIte]
      · simp only [a1, a2, ↓reduceIte]
    have : k = 0 ∨ k = 1 ∨ k = 2 ∨ k = 3 ∨ k = 4 ∨ k = 5 := by omega
    rcases this with rfl | rfl | rfl | rfl | rfl | rfl
    · exact fun z => m0 (i0.mpr z)
    · exact fun z => m1 (i1.mpr z)
    · exact fun z => m2 (i2.mpr z)
    · exact fun z => m3 (i3.mpr z)
    · exact fun z => m4 (i4.mpr z)
    · exact fun z => m5 (i5.mpr z)
theorem rd_s3 {B T q m : Nat → Int32} {n a : Nat} (hn : n ≤ 600) (hB : BY B T) (hq : TS q n a) (hm : MS m n a) :
    t_word_s3_ok q B ∧ (t_word_s3 q B).2 4 = nI (sk B n a) ∧
    ((∃ k, k < 6 ∧ (t_word_s3 q B).1 = nI k ∧ (k_word m T).1 = oc_s3 k ∧ TS (t_word_s3 q B).2 n (le' B n (sk B n a)) ∧ sk B n a < le' B n (sk B n a)) ∨
      ((t_word_s3 q B).1 = -1 ∧ (∀ k, k < 6 → ¬ (k_word m T).1 = oc_s3 k) ∧ TF (t_word_s3 q B).2 n 1 (sk B n a))) := by
  obtain ⟨w1, w2, w3⟩ := kword hn hB hm
  obtain ⟨h1, h2, h3, h5, h6, ha⟩ := hq
  obtain ⟨r1, r2⟩ := tnx (B := B) hn h5 h6 ha
  have hs := sk_le (B := B) ha
  generalize sk B n a = s at *
  have e2 : upd (upd q 6 (nI s)) 4 (nI s) 2 = 0 := by simp (disch := decide) only [pk_un, h2]
  have e1 : upd (upd q 6 (nI s)) 4 (nI s) 1 = nI 0 := by simp (disch := decide) only [pk_un, h1]
  have e3 : upd (upd q 6 (nI s)) 4 (nI s) 3 = -1 := by simp (disch := decide) only [pk_un, h3]
  have e5 : upd (upd q 6 (nI s)) 4 (nI s) 5 = nI n := by simp (disch := decide) only [pk_un, h5]
  have e6 : upd (upd q 6 (nI s)) 4 (nI s) 6 = nI s := by simp (disch := decide) only [pk_us, pk_un]
  have e4 : upd (upd q 6 (nI s)) 4 (nI s) 4 = nI s := pk_us
  have l1 := le_ge B n s
  have l2 := le_le (B := B) hs
  simp only [t_word_s3_ok, t_word_s3, r1, r2, true_and]
  generalize upd (upd q 6 (nI s)) 4 (nI s) = q1 at *
  obtain ⟨k1, k2⟩ := tw_s3 (B := B) hn e5 (fun i hi => (hB i hi).2) FU s hs (by rw [FU_eq]; omega)
  have l3 : ∀ j, s ≤ j → j < le' B n s → isL (B j) := fun j a b => le_in a b
  generalize le' B n s = e at *
  obtain ⟨x1, x2⟩ := in_s3 (q := q1) hB (show e ≤ 600 by omega) l1 e6 l3 w3
  simp only [e2, ↓reduceIte, e6, k1, k2, x1, e4, true_and]
  rcases x2 with ⟨k, hk, y1, y2, y3⟩ | ⟨y1, y2⟩
  · have hne : ¬ nI k = -1 := pu_nm (by omega)
    simp only [y1, hne, ↓reduceIte]
    refine ⟨by rw [pk_un (by decide)]; exact e4, Or.inl ⟨k, hk, rfl, y2, ⟨?_, ?_, ?_, ?_, ?_, l2⟩, y3⟩⟩ <;> simp (disch := decide) only [pk_us, pk_un, e1, e2, e3, e5]
  · simp only [y1, ↓reduceIte]
    obtain ⟨t1, t2⟩ := TF.of (kd := 1) (s := s) e1 e2 e5 e6 hs ⟨by omega, by omega⟩
    generalize t_fail q1 (nI 1) (nI s) = w at *
    rcases w with ⟨x9, q9⟩
    exact ⟨t2.trans e4, Or.inr ⟨trivial, y2, t1⟩⟩
theorem TF.w_s3 {B q : Nat → Int32} {n kd pl : Nat} (hn : n ≤ 600) (h : TF q n kd pl) : t_word_s3_ok q B ∧ TF (t_word_s3 q B).2 n kd pl ∧ (t_word_s3 q B).1 = -1 := by
  obtain ⟨r1, r2, r3⟩ := h.nx (B := B) hn
  have e : t_next q B = (-1, (t_next q B).2) := by rw [← r2]
  generalize (t_next q B).2 = q' at e r3
  simp only [t_word_s3_ok, t_word_s3, r1, e, if_neg r3.ne, true_and]
  exact ⟨r3, trivial⟩
