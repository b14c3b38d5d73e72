/-! the tape in both systems: blanks, signs -/
def BY (B T : Nat → Int32) : Prop := ∀ i, i < 600 → T i = B i ∧ ∃ b, b < 256 ∧ B i = nI b
def skp (B : Nat → Int32) (n : Nat) : Nat → Nat → Nat
  | 0, a => a
  | k + 1, a => if a < n ∧ B a = nI 32 then skp B n k (a + 1) else a
def sk (B : Nat → Int32) (n a : Nat) : Nat := skp B n (n - a) a
theorem sk_step {B : Nat → Int32} {n a : Nat} (h : a < n) (hb : B a = nI 32) : sk B n a = sk B n (a + 1) := by
  unfold sk
  obtain ⟨k, hk⟩ : ∃ k, n - a = k + 1 := ⟨n - a - 1, by omega⟩
  rw [hk, show n - (a + 1) = k by omega]
  simp only [skp, h, hb, and_self, ↓reduceIte]
theorem sk_stop {B : Nat → Int32} {n a : Nat} (h : ¬ (a < n ∧ B a = nI 32)) : sk B n a = a := by
  unfold sk
  cases hk : n - a with
  | zero => rfl
  | succ k => simp only [skp, h, ↓reduceIte]
theorem skp_ge {B : Nat → Int32} {n : Nat} : ∀ k a, a ≤ skp B n k a
  | 0, a => Nat.le_refl a
  | k + 1, a => by
    simp only [skp]
    split
    · exact Nat.le_trans (Nat.le_succ a) (skp_ge k (a + 1))
    · exact Nat.le_refl a
theorem skp_le {B : Nat → Int32} {n : Nat} : ∀ k a, a ≤ n → skp B n k a ≤ n
  | 0, a, h => h
  | k + 1, a, h => by
    simp only [skp]
    split
    · exact skp_le k (a + 1) (by omega)
    · exact h
theorem skp_nb {B : Nat → Int32} {n : Nat} : ∀ k a, n - a ≤ k → ¬ (skp B n k a < n ∧ B (skp B n k a) = nI 32)
  | 0, a, h => by simp only [skp]; omega
  | k + 1, a, h => by
    simp only [skp]
    split
    · exact skp_nb k (a + 1) (by omega)
    · assumption
theorem sk_ge (B : Nat → Int32) (n a : Nat) : a ≤ sk B n a := skp_ge _ _
theorem sk_le {B : Nat → Int32} {n a : Nat} (h : a ≤ n) : sk B n a ≤ n := skp_le _ _ h
theorem sk_nb (B : Nat → Int32) (n a : Nat) : ¬ (sk B n a < n ∧ B (sk B n a) = nI 32) := skp_nb _ _ (Nat.le_refl _)
theorem sk_sk (B : Nat → Int32) (n a : Nat) : sk B n (sk B n a) = sk B n a := sk_stop (sk_nb B n a)
theorem sk_cg {B T : Nat → Int32} {n : Nat} (hn : n ≤ 600) (h : BY B T) : ∀ a, sk T n a = sk B n a := by
  have key : ∀ k a, skp T n k a = skp B n k a := by
    intro k
    induction k with
    | zero => intro a; rfl
    | succ k ih =>
      intro a
      simp only [skp, ih]
      by_cases ha : a < n
      · rw [(h a (by omega)).1]
      · simp [ha]
  intro a
  exact key _ _
theorem tn0 {B : Nat → Int32} {n : Nat} (hn : n ≤ 600) : ∀ (k a : Nat) (q : Nat → Int32), q 5 = nI n → q 6 = nI a → a ≤ n → n - a < k → t_next_0_ok B k q ∧ t_next_0 B k q = upd q 6 (nI (sk B n a)) := by
  intro k
  induction k with
  | zero => intro a q _ _ _ h; omega
  | succ k ih =>
    intro a q h5 h6 ha hk
    simp only [t_next_0_ok, t_next_0, h5, h6]
    by_cases hl : a < n
    · have f1 : ¬ nI n ≤ nI a := by rw [pu_lei (by omega) (by omega)]; omega
      simp only [f1, ↓reduceIte, pu_ix (show a < 2147483648 by omega), pu_isN (show a < 2147483648 by omega), show a < 600 by omega, true_and]
      by_cases hb : B a = nI 32
      · simp only [if_pos hb, pu_p1]
        obtain ⟨r1, r2⟩ := ih (a + 1) (upd q 6 (nI (a + 1))) (by rw [pk_un (by decide)]; exact h5) pk_us (by omega) (by omega)
        refine ⟨r1, ?_⟩
        rw [r2, upd_twice, sk_step hl hb]
      · simp only [if_neg hb, true_and]
        rw [sk_stop (fun q => hb q.2), ← h6, upd_self]
    · have f1 : nI n ≤ nI a := by rw [pu_lei (by omega) (by omega)]; omega
      simp only [f1, ↓reduceIte, true_and]
      rw [sk_stop (fun q => hl q.1), ← h6, upd_self]
theorem kh0 {T : Nat → Int32} {n : Nat} (hn : n ≤ 600) : ∀ (k a : Nat) (q : Nat → Int32), q 3 = nI n → q 4 = nI a → a ≤ n → n - a < k → k_here_0_ok T k q ∧ k_here_0 T k q = upd q 4 (nI (sk T n a)) := by
  intro k
  induction k with
  | zero => intro a q _ _ _ h; omega
  | succ k ih =>
    intro a q h5 h6 ha hk
    simp only [k_here_0_ok, k_here_0, h5, h6]
    by_cases hl : a < n
    · have f1 : ¬ nI n ≤ nI a := by rw [pu_lei (by omega) (by omega)]; omega
      simp only [f1, ↓reduceIte, pu_ix (show a < 2147483648 by omega), pu_isN (show a < 2147483648 by omega), show a < 600 by omega, true_and]
      by_cases hb : T a = nI 32
      · simp only [if_pos hb, pu_p1]
        obtain ⟨r1, r2⟩ := ih (a + 1) (upd q 4 (nI (a + 1))) (by rw [pk_un (by decide)]; exact h5) pk_us (by omega) (by omega)
        refine ⟨r1, ?_⟩
        rw [r2, upd_twice, sk_step hl hb]
      · simp only [if_neg hb, true_and]
        rw [sk_stop (fun q => hb q.2), ← h6, upd_self]
    · have f1 : nI n ≤ nI a := by rw [pu_lei (by omega) (by omega)]; omega
      simp only [f1, ↓reduceIte, true_and]
      rw [sk_stop (fun q => hl q.1), ← h6, upd_self]
/-- the byte that comes next -/
theorem tnx {B : Nat → Int32} {n a : Nat} {q : Nat → Int32} (hn : n ≤ 600) (h5 : q 5 = nI n) (h6 : q 6 = nI a) (ha : a ≤ n) :
    t_next_ok q B ∧ t_next q B = (if sk B n a < n ∧ q 2 = 0 then B (sk B n a) else -1, upd (upd q 6 (nI (sk B n a))) 4 (nI (sk B n a))) := by
  obtain ⟨r1, r2⟩ := tn0 (B := B) hn FU a q h5 h6 ha (by rw [FU_eq]; omega)
  have hs := sk_le (B := B) ha
  have e5 : upd q 6 (nI (sk B n a)) 5 = nI n := by rw [pk_un (by decide)]; exact h5
  have e2 : upd q 6 (nI (sk B n a)) 2 = q 2 := pk_un (by decide)
  simp only [t_next_ok, t_next, r1, r2, e5, e2, pk_us, pu_ix (show sk B n a < 2147483648 by omega), pu_isN (show sk B n a < 2147483648 by omega), true_and, and_true]
  by_cases hl : sk B n a < n
  · have f1 : ¬ nI n ≤ nI (sk B n a) := by rw [pu_lei (by omega) (by omega)]; omega
    simp only [f1, ↓reduceIte, hl, true_and, show sk B n a < 600 by omega]
    by_cases h2 : q 2 = 0
    · simp only [h2, ↓reduceIte, true_and]
    · simp only [h2, ↓reduceIte, true_and]
  · have f1 : nI n ≤ nI (sk B n a) := by rw [pu_lei (by omega) (by omega)]; omega
    simp only [f1, ↓reduceIte, hl, false_and, true_and]
theorem khr {B T : Nat → Int32} {n a : Nat} {m : Nat → Int32} (hn : n ≤ 600) (hB : BY B T) (h3 : m 3 = nI n) (h4 : m 4 = nI a) (ha : a ≤ n) :
    k_here_ok m T ∧ k_here m T = (if sk B n a < n then B (sk B n a) else nI 0, upd m 4 (nI (sk B n a))) := by
  obtain ⟨r1, r2⟩ := kh0 (T := T) hn FU a m h3 h4 ha (by rw [FU_eq]; omega)
  rw [sk_cg hn hB] at r2
  have hs := sk_le (B := B) ha
  have e3 : upd m 4 (nI (sk B n a)) 3 = nI n := by rw [pk_un (by decide)]; exact h3
  simp only [k_here_ok, k_here, r1, r2, e3, pk_us, pu_ix (show sk B n a < 2147483648 by omega), pu_isN (show sk B n a < 2147483648 by omega), true_and, and_true]
  by_cases hl : sk B n a < n
  · have f1 : ¬ nI n ≤ nI (sk B n a) := by rw [pu_lei (by omega) (by omega)]; omega
    simp only [f1, ↓reduceIte, hl, show sk B n a < 600 by omega, (hB (sk B n a) (by omega)).1, true_and]
  · have f1 : nI n ≤ nI (sk B n a) := by rw [pu_lei (by omega) (by omega)]; omega
    simp only [f1, ↓reduceIte, hl, true_and]
/-! states of the reading -/
def TS (q : Nat → Int32) (n a : Nat) : Prop := q 1 = nI 0 ∧ q 2 = 0 ∧ q 3 = -1 ∧ q 5 = nI n ∧ q 6 = nI a ∧ a ≤ n
def TF (q : Nat → Int32) (n kd pl : Nat) : Prop := q 1 = nI 0 ∧ (q 2 = nI kd ∧ 1 ≤ kd ∧ kd ≤ 3) ∧ q 3 = nI pl ∧ q 5 = nI n ∧ ∃ a, a ≤ n ∧ q 6 = nI a
def MS (m : Nat → Int32) (n a : Nat) : Prop := m 3 = nI n ∧ m 4 = nI a ∧ m 5 = -1 ∧ a ≤ n
def MF (m : Nat → Int32) (n kd pl : Nat) : Prop := m 3 = nI n ∧ m 5 = nI pl ∧ m 6 = nI kd ∧ pl ≤ 600 ∧ ∃ a, a ≤ n ∧ m 4 = nI a
/-- nothing but the place, the fault -/
def Fm (m m' : Nat → Int32) : Prop := ∀ j, j ≠ 4 → j ≠ 5 → j ≠ 6 → m' j = m j
theorem Fm.rf (m : Nat → Int32) : Fm m m := fun _ _ _ _ => rfl
theorem Fm.tr {m m' m2 : Nat → Int32} (h : Fm m m') (h2 : Fm m' m2) : Fm m m2 := fun j a b c => (h2 j a b c).trans (h j a b c)
theorem Fm.u4 (m : Nat → Int32) (x : Int32) : Fm m (upd m 4 x) := fun _ a _ _ => pk_un a
theorem k_fine_t {m : Nat → Int32} (h : m 5 = -1) : k_fine m = nI 1 := by simp only [k_fine, h, ↓reduceIte]
theorem k_fine_f {m : Nat → Int32} {p : Nat} (h : m 5 = nI p) (hp : p ≤ 600) : k_fine m = nI 0 := by simp only [k_fine, h, if_neg (pu_nm (show p < 2147483648 by omega))]
theorem nI_lt256 {b : Nat} (h : b < 256) : ¬ nI b = -1 := pu_nm (by omega)
/-- a sign that must come: class -/
theorem ts_sign {B : Nat → Int32} {n a : Nat} {q : Nat → Int32} (hn : n ≤ 600) (h : TS q n a) {c : Int32} (hc : ¬ c = -1) :
    t_needSign_ok q B c ∧ ((sk B n a < n ∧ B (sk B n a) = c ∧ TS (t_needSign q B c).2 n (sk B n a + 1)) ∨ (¬ (sk B n a < n ∧ B (sk B n a) = c) ∧ TF (t_needSign q B c).2 n 1 (sk B n a))) := by
  obtain ⟨h1, h2, h3, h5, h6, ha⟩ := h
  obtain ⟨r1, r2⟩ := tnx (B := B) hn h5 h6 ha
  have hs := sk_le (B := B) ha
  simp only [t_needSign_ok, t_needSign, r1, r2, h2, and_true, true_and]
  by_cases hl : sk B n a < n
  · by_cases hb : B (sk B n a) = c
    · simp only [hl, hb, ↓reduceIte, if_neg pu_n10, true_and, and_self, not_true_eq_false, false_and, or_false]
      refine ⟨?_, ?_, ?_, ?_, ?_, by omega⟩ <;> simp (disch := decide) only [pk_us, pk_un, h1, h2, h3, h5, pu_p1]
    · simp only [hl, hb, ↓reduceIte, pu_n01, t_fail, true_and, false_and, and_false, not_false_eq_true, false_or]
      have e2 : upd (upd q 6 (nI (sk B n a))) 4 (nI (sk B n a)) 2 = 0 := by simp (disch := decide) only [pk_un, h2]
      simp only [e2, ↓reduceIte]
      refine ⟨?_, ⟨?_, by omega, by omega⟩, ?_, ?_, sk B n a, hs, ?_⟩ <;> simp (disch := decide) only [pk_us, pk_un, h1, h5]
  · have hc' : ¬ (-1 : Int32) = c := fun e => hc e.symm
    simp only [hl, hc', ↓reduceIte, pu_n01, t_fail, false_and, not_false_eq_true, false_or, true_and]
    have e2 : upd (upd q 6 (nI (sk B n a))) 4 (nI (sk B n a)) 2 = 0 := by simp (disch := decide) only [pk_un, h2]
    simp only [e2, ↓reduceIte]
    refine ⟨?_, ⟨?_, by omega, by omega⟩, ?_, ?_, sk B n a, hs, ?_⟩ <;> simp (disch := decide) only [pk_us, pk_un, h1, h5]
theorem TF.ne {q : Nat → Int32} {n kd pl : Nat} (h : TF q n kd pl) : ¬ q 2 = 0 := by
  rw [h.2.1.1]; exact nI_ne0 h.2.1.2.1 (by have := h.2.1.2.2; omega)
theorem TF.nx {B : Nat → Int32} {n kd pl : Nat} {q : Nat → Int32} (hn : n ≤ 600) (h : TF q n kd pl) : t_next_ok q B ∧ (t_next q B).1 = -1 ∧ TF (t_next q B).2 n kd pl := by
  have h2 := h.ne
  obtain ⟨h1, hk, h3, h5, a, ha, h6⟩ := h
  obtain ⟨r1, r2⟩ := tnx (B := B) hn h5 h6 ha
  have hs := sk_le (B := B) ha
  rw [r2]
  refine ⟨r1, by simp only [h2, and_false, ↓reduceIte], ?_, ⟨?_, hk.2⟩, ?_, ?_, sk B n a, hs, ?_⟩ <;> simp (disch := decide) only [pk_us, pk_un, h1, hk.1, h3, h5]
theorem TF.fl {n kd pl : Nat} {q : Nat → Int32} (h : TF q n kd pl) (x y : Int32) : (t_fail q x y).2 = q := by
  simp only [t_fail, if_neg h.ne]
theorem TF.sg {B : Nat → Int32} {n kd pl : Nat} {q : Nat → Int32} (hn : n ≤ 600) (h : TF q n kd pl) {c : Int32} (hc : ¬ c = -1) : t_needSign_ok q B c ∧ TF (t_needSign q B c).2 n kd pl := by
  obtain ⟨r1, r2, r3⟩ := h.nx (B := B) hn
  have hc' : ¬ (-1 : Int32) = c := fun e => hc e.symm
  have e : t_next q B = (-1, (t_next q B).2) := by rw [← r2]
  generalize (t_next q B).2 = q' at e r3
  simp only [t_needSign_ok, t_needSign, r1, e, hc', ↓reduceIte, pu_n01, and_true, true_and]
  have := r3.fl (nI 1) (q' 6)
  generalize t_fail q' (nI 1) (q' 6) = w at this
  rcases w with ⟨w1, w2⟩
  simp only at this
  rw [this]
  exact r3
/-- a sign that must come: reference -/
theorem ms_sign {B T : Nat → Int32} {n a : Nat} {m : Nat → Int32} (hn : n ≤ 600) (hB : BY B T) (h : MS m n a) {c : Int32} (hc : ¬ c = nI 0) :
    k_sign_ok m T c ∧ Fm m (k_sign m T c).2 ∧ ((sk B n a < n ∧ B (sk B n a) = c ∧ MS (k_sign m T c).2 n (sk B n a + 1)) ∨ (¬ (sk B n a < n ∧ B (sk B n a) = c) ∧ MF (k_sign m T c).2 n 1 (sk B n a))) := by
  obtain ⟨h3, h4, h5, ha⟩ := h
  obtain ⟨r1, r2⟩ := khr hn hB h3 h4 ha
  have hs := sk_le (B := B) ha
  have e5 : upd m 4 (nI (sk B n a)) 5 = -1 := by rw [pk_un (by decide)]; exact h5
  have hmf : MF (upd (upd (upd m 4 (nI (sk B n a))) 5 (nI (sk B n a))) 6 (nI 1)) n 1 (sk B n a) := by
    refine ⟨?_, ?_, ?_, by omega, sk B n a, hs, ?_⟩ <;> simp (disch := decide) only [pk_us, pk_un, h3]
  have hfm : Fm m (upd (upd (upd m 4 (nI (sk B n a))) 5 (nI (sk B n a))) 6 (nI 1)) := fun j a b c => by rw [pk_un c, pk_un b, pk_un a]
  have ef : k_fine (upd (upd (upd m 4 (nI (sk B n a))) 5 (nI (sk B n a))) 6 (nI 1)) = nI 0 := k_fine_f hmf.2.1 hmf.2.2.2.1
  simp only [k_sign_ok, k_sign, k_fine_t h5, if_neg pu_n10, r1, r2, and_true, true_and]
  by_cases hl : sk B n a < n
  · by_cases hb : B (sk B n a) = c
    · simp only [hl, hb, ↓reduceIte, k_fine_t e5, if_neg pu_n10, true_and, and_self, not_true_eq_false, false_and, or_false]
      refine ⟨fun j a b c => by rw [pk_un a, pk_un a], ?_, ?_, ?_, by omega⟩ <;> simp (disch := decide) only [pk_us, pk_un, h3, h5, pu_p1]
    · simp only [hl, hb, ↓reduceIte, k_wrong, e5, pk_us, ef, pu_n01, true_and, false_and, and_false, not_false_eq_true, false_or]
      exact ⟨hfm, hmf⟩
  · have hc' : ¬ nI 0 = c := fun e => hc e.symm
    have hc2 : ¬ (0 : Int32) = c := by rw [← nI_0]; exact hc'
    simp only [hl, hc', hc2, ↓reduceIte, k_wrong, e5, pk_us, ef, pu_n01, false_and, not_false_eq_true, false_or, true_and]
    exact ⟨hfm, hmf⟩
theorem MF.sg {T : Nat → Int32} {n kd pl : Nat} {m : Nat → Int32} (h : MF m n kd pl) (c : Int32) : k_sign_ok m T c ∧ (k_sign m T c).2 = m := by
  simp only [k_sign_ok, k_sign, k_fine_f h.2.1 h.2.2.2.1, pu_n01, ↓reduceIte, and_self]
