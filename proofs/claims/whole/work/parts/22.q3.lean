/-! a town's text in both systems: states, more numbers -/
theorem MS.u {m : Nat → Int32} {n a j : Nat} {x : Int32} (h : MS m n a) (h3 : 3 ≠ j) (h4 : 4 ≠ j) (h5 : 5 ≠ j) : MS (upd m j x) n a :=
  ⟨by rw [pk_un h3]; exact h.1, by rw [pk_un h4]; exact h.2.1, by rw [pk_un h5]; exact h.2.2.1, h.2.2.2⟩
theorem MF.u {m : Nat → Int32} {n kd pl j : Nat} {x : Int32} (h : MF m n kd pl) (h3 : 3 ≠ j) (h4 : 4 ≠ j) (h5 : 5 ≠ j) (h6 : 6 ≠ j) : MF (upd m j x) n kd pl := by
  obtain ⟨a1, a2, a3, a4, a, a5, a6⟩ := h
  exact ⟨by rw [pk_un h3]; exact a1, by rw [pk_un h5]; exact a2, by rw [pk_un h6]; exact a3, a4, a, a5, by rw [pk_un h4]; exact a6⟩
theorem MF.u4 {m : Nat → Int32} {n kd pl s : Nat} (h : MF m n kd pl) (hs : s ≤ n) : MF (upd m 4 (nI s)) n kd pl := by
  obtain ⟨a1, a2, a3, a4, a, a5, a6⟩ := h
  exact ⟨by rw [pk_un (by decide)]; exact a1, by rw [pk_un (by decide)]; exact a2, by rw [pk_un (by decide)]; exact a3, a4, s, hs, pk_us⟩
theorem MS.u4 {m : Nat → Int32} {n a s : Nat} (h : MS m n a) (hs : s ≤ n) : MS (upd m 4 (nI s)) n s :=
  ⟨by rw [pk_un (by decide)]; exact h.1, pk_us, by rw [pk_un (by decide)]; exact h.2.2.1, hs⟩
theorem TF.uniq {q : Nat → Int32} {n kd pl kd' pl' : Nat} (h : TF q n kd pl) (h' : TF q n kd' pl') : kd = kd' := by
  obtain ⟨-, ⟨a1, -, a3⟩, -⟩ := h
  obtain ⟨-, ⟨b1, -, b3⟩, -⟩ := h'
  exact pu_inj (by omega) (by omega) (a1.symm.trans b1)
theorem TS.nf {q : Nat → Int32} {n a : Nat} (h : TS q n a) : t_isFaulty q = 0 := by
  simp only [t_isFaulty, h.2.1, ↓reduceIte]; exact nI_0
theorem TF.f {q : Nat → Int32} {n kd pl : Nat} (h : TF q n kd pl) : ¬ t_isFaulty q = 0 := by
  simp only [t_isFaulty, if_neg h.ne]; exact pu_n10
theorem TF.flp {q : Nat → Int32} {n kd pl : Nat} (h : TF q n kd pl) (x y : Int32) : t_fail q x y = (0, q) := by
  simp only [t_fail, if_neg h.ne]
def Bd (q m : Nat → Int32) (n : Nat) : Prop := ∃ kd pl, TF q n kd pl ∧ MF m n kd pl
theorem Bd.fi {q m : Nat → Int32} {n : Nat} (h : Bd q m n) : k_fine m = nI 0 := by
  obtain ⟨kd, pl, -, h⟩ := h
  exact k_fine_f h.2.1 h.2.2.2.1
theorem MS.fi {m : Nat → Int32} {n a : Nat} (h : MS m n a) : k_fine m = nI 1 := k_fine_t h.2.2.1
theorem Bd.is {q m : Nat → Int32} {n : Nat} (h : Bd q m n) : ¬ t_isFaulty q = 0 := by
  obtain ⟨kd, pl, h, -⟩ := h
  exact h.f
theorem Bd.fl {q m : Nat → Int32} {n : Nat} (h : Bd q m n) (x y : Int32) : t_fail q x y = (0, q) := by
  obtain ⟨kd, pl, h, -⟩ := h
  exact h.flp x y
theorem Bd.num {B T q m : Nat → Int32} {n : Nat} (hn : n ≤ 600) (h : Bd q m n) (lo hi : Int32) : t_number_ok q B lo hi ∧ k_readNumber_ok m T lo hi ∧ Bd (t_number q B lo hi).2 m n ∧ k_readNumber m T lo hi = (nI 0, m) := by
  obtain ⟨kd, pl, h1, h2⟩ := h
  obtain ⟨a1, a2, -⟩ := h1.num (B := B) hn lo hi
  obtain ⟨b1, b2⟩ := h2.num (T := T) lo hi
  exact ⟨a1, b1, ⟨kd, pl, a2, h2⟩, b2⟩
theorem Bd.here {B T q m : Nat → Int32} {n : Nat} (hn : n ≤ 600) (hB : BY B T) (h : Bd q m n) : k_here_ok m T ∧ ∃ c s, s ≤ n ∧ k_here m T = (c, upd m 4 (nI s)) ∧ Bd q (upd m 4 (nI s)) n := by
  obtain ⟨kd, pl, h1, h2⟩ := h
  obtain ⟨a1, a2, a3, a4, a, a5, a6⟩ := id h2
  obtain ⟨s1, s2⟩ := khr hn hB a1 a6 a5
  exact ⟨s1, _, sk B n a, sk_le a5, s2, kd, pl, h1, h2.u4 (sk_le a5)⟩
theorem Bd.u {q m : Nat → Int32} {n j : Nat} {x : Int32} (h : Bd q m n) (h3 : 3 ≠ j) (h4 : 4 ≠ j) (h5 : 5 ≠ j) (h6 : 6 ≠ j) : Bd q (upd m j x) n := by
  obtain ⟨kd, pl, h1, h2⟩ := h
  exact ⟨kd, pl, h1, h2.u h3 h4 h5 h6⟩
theorem Bd.sg {B T q m : Nat → Int32} {n : Nat} (hn : n ≤ 600) (h : Bd q m n) {c : Int32} (hc : ¬ c = -1) : t_needSign_ok q B c ∧ k_sign_ok m T c ∧ Bd (t_needSign q B c).2 (k_sign m T c).2 n ∧ (k_sign m T c).2 = m := by
  obtain ⟨kd, pl, h1, h2⟩ := h
  obtain ⟨a1, a2⟩ := h1.sg (B := B) hn hc
  obtain ⟨b1, b2⟩ := h2.sg (T := T) c
  exact ⟨a1, b1, ⟨kd, pl, a2, by rw [b2]; exact h2⟩, b2⟩
/-- a sign in both -/
theorem gd_sign {B T q m : Nat → Int32} {n a : Nat} (hn : n ≤ 600) (hB : BY B T) (hq : TS q n a) (hm : MS m n a) {c : Int32} (hc : ¬ c = -1) (hc0 : ¬ c = nI 0) :
    t_needSign_ok q B c ∧ k_sign_ok m T c ∧ Fm m (k_sign m T c).2 ∧ ((sk B n a < n ∧ B (sk B n a) = c ∧ TS (t_needSign q B c).2 n (sk B n a + 1) ∧ MS (k_sign m T c).2 n (sk B n a + 1)) ∨ Bd (t_needSign q B c).2 (k_sign m T c).2 n) := by
  obtain ⟨a1, a2⟩ := ts_sign (B := B) hn hq hc
  obtain ⟨b1, b2, b3⟩ := ms_sign hn hB hm hc0
  refine ⟨a1, b1, b2, ?_⟩
  rcases a2 with ⟨a3, a4, a5⟩ | ⟨a3, a5⟩
  · rcases b3 with ⟨b4, b5, b6⟩ | ⟨b4, b6⟩
    · exact Or.inl ⟨a3, a4, a5, b6⟩
    · exact absurd ⟨a3, a4⟩ b4
  · rcases b3 with ⟨b4, b5, b6⟩ | ⟨b4, b6⟩
    · exact absurd ⟨b4, b5⟩ a3
    · exact Or.inr ⟨_, _, a5, b6⟩
/-- a number in both -/
theorem gd_num {B T q m : Nat → Int32} {n a : Nat} (hn : n ≤ 600) (hB : BY B T) (hq : TS q n a) (hm : MS m n a) {lo hi : Int32} (hlo : lo.toInt ≤ 9999) (hhi : hi.toInt < 10000) :
    t_number_ok q B lo hi ∧ k_readNumber_ok m T lo hi ∧ Fm m (k_readNumber m T lo hi).2 ∧ (t_number q B lo hi).2 4 = nI (sk B n a) ∧
    ((∃ v a', v ≤ 9999 ∧ a < a' ∧ (t_number q B lo hi).1 = nI v ∧ (k_readNumber m T lo hi).1 = nI v ∧ ¬ nI v < lo ∧ nI v ≤ hi ∧ TS (t_number q B lo hi).2 n a' ∧ MS (k_readNumber m T lo hi).2 n a') ∨
      Bd (t_number q B lo hi).2 (k_readNumber m T lo hi).2 n) := by
  obtain ⟨a1, a2, a3, a4, a5⟩ := rd_num hn hB hq hm hlo hhi
  refine ⟨a1, a2, a3, a4, ?_⟩
  rcases a5 with ⟨v, a', b1, b2, b3⟩ | ⟨kd, v, b1, b2, b3⟩
  · exact Or.inl ⟨v, a', b1, Nat.lt_of_le_of_lt (sk_ge B n a) b2, b3⟩
  · exact Or.inr ⟨kd, _, b1, b2⟩
theorem kn_here {B T m : Nat → Int32} {n a : Nat} (hn : n ≤ 600) (hB : BY B T) (hm : MS m n a) (lo hi : Int32) :
    k_readNumber (upd m 4 (nI (sk B n a))) T lo hi = k_readNumber m T lo hi ∧ (k_readNumber_ok m T lo hi → k_readNumber_ok (upd m 4 (nI (sk B n a))) T lo hi) := by
  obtain ⟨g3, g4, g5, ha⟩ := hm
  obtain ⟨s1, s2⟩ := khr hn hB g3 g4 ha
  have hs := sk_le (B := B) ha
  obtain ⟨u1, u2⟩ := khr (m := upd m 4 (nI (sk B n a))) (a := sk B n a) hn hB (by rw [pk_un (by decide)]; exact g3) pk_us hs
  rw [sk_sk, upd_twice] at u2
  have f1 := k_fine_t g5
  have f2 : k_fine (upd m 4 (nI (sk B n a))) = nI 1 := k_fine_t (by rw [pk_un (by decide)]; exact g5)
  constructor
  · simp only [k_readNumber, f1, f2, s2, u2, if_neg pu_n10]
  · intro h
    simp only [k_readNumber_ok, f1, f2, s1, s2, u1, u2] at h ⊢
    exact h
theorem tn16 (B : Nat → Int32) (x1 x2 y1 y2 : Int32) : ∀ k s q, t_number_16 B x1 x2 k s q = t_number_16 B y1 y2 k s q
  | 0, s, q => rfl
  | k + 1, s, q => by simp only [t_number_16, tn16 B x1 x2 y1 y2 k]
theorem tn_hi {q B : Nat → Int32} {lo hi hi2 : Int32} (h : hi2 ≤ hi) : t_number q B lo hi2 = t_number q B lo hi ∨ (¬ (t_number q B lo hi).1 ≤ hi2 ∧ (t_number q B lo hi).1 = (t_number q B lo hi2).1 ∧ (t_number q B lo hi2).2 = (t_fail (t_number q B lo hi).2 (nI 2) ((t_number q B lo hi).2 4)).2) := by
  simp only [t_number, tn16 B lo hi2 lo hi]
  rcases t_next q B with ⟨v, r⟩
  by_cases h2 : r 2 = 0
  · simp only [h2, ↓reduceIte]
    rcases t_number_16 B lo hi FU (nI 0) r with ⟨w, r'⟩
    by_cases c1 : r' 6 = r' 4
    · left; simp only [c1, ↓reduceIte]
    · by_cases c2 : w < lo
      · left; simp only [c1, c2, ↓reduceIte]
      · by_cases c3 : w ≤ hi2
        · left; simp only [c1, c2, c3, Int32.le_trans c3 h, ↓reduceIte]
        · by_cases c4 : w ≤ hi
          · right
            simp only [c1, c2, c3, c4, ↓reduceIte]
            rcases t_fail r' (nI 2) (r' 4) with ⟨u, r9⟩
            refine ⟨?_, ?_, ?_⟩ <;> first | trivial | rfl | exact c3
          · left; simp only [c1, c2, c3, c4, ↓reduceIte]
  · left; simp only [if_neg h2]
theorem le_pred {v k : Nat} (hv : v ≤ 9999) (hk : k ≤ 1000) (h : nI v ≤ nI k - nI 1) : v < k := by
  rw [pu_le, pu_nI (by omega), pk_sub_toInt (by omega) (by omega)] at h
  omega
theorem hi_pred {k : Nat} (hk : k ≤ 1000) : (nI k - nI 1).toInt < 10000 := by
  rw [pk_sub_toInt (by omega) (by omega)]; omega
theorem hi_n {k : Nat} (hk : k < 10000) : (nI k).toInt < 10000 := by rw [pu_nI (by omega)]; omega
theorem lo_n {k : Nat} (hk : k < 10000) : (nI k).toInt ≤ 9999 := by rw [pu_nI (by omega)]; omega
/-! a town being read -/
def TLi (np nt nf : Nat) (FL FH FS NH : Nat → Int32) : Prop := ∀ t, t < nt → (∃ p, p < np ∧ FL t = nI p ∧ FH t = -1 ∧ NH (3 * t) = nI p ∧ NH (3 * t + 1) = -1) ∨ (∃ a, a < nf ∧ FL t = -1 ∧ FH t = nI a ∧ NH (3 * t + 1) = nI a ∧ NH (3 * t) = FS a)
def NW (np nr nt nf : Nat) (tw A B L W FL FH FS m NR NH NF : Nat → Int32) : Prop :=
  SZ np nr nt nf ∧ (tw 0 = nI np ∧ tw 1 = nI nr ∧ tw 2 = nI nt ∧ tw 3 = nI nf) ∧ (m 16 = nI np ∧ m 17 = nI nr ∧ m 18 = nI nt ∧ m 19 = nI nf) ∧
  TRo np nr A B L NR ∧ TW nt W NH ∧ TLi np nt nf FL FH FS NH ∧ (∀ a, a < nf → ∃ p, p < np ∧ FS a = nI p ∧ NF a = nI p)
def Ft (m m' : Nat → Int32) : Prop := ∀ j, j ≠ 4 → j ≠ 5 → j ≠ 6 → (j < 16 ∨ 20 ≤ j) → m' j = m j
theorem Ft.of {m m' : Nat → Int32} (h : Fm m m') : Ft m m' := fun j a b c _ => h j a b c
theorem Ft.tr {m m' m2 : Nat → Int32} (h : Ft m m') (h2 : Ft m' m2) : Ft m m2 := fun j a b c d => (h2 j a b c d).trans (h j a b c d)
theorem Ft.u {m : Nat → Int32} {k : Nat} (x : Int32) (hk : 16 ≤ k ∧ k < 20) : Ft m (upd m k x) := fun j _ _ _ d => pk_un (by omega)
theorem Ft.u4 (m : Nat → Int32) (x : Int32) : Ft m (upd m 4 x) := fun _ a _ _ _ => pk_un a
/-! the words are not alike -/
theorem of_n6_5 : ¬ k_of_s6 = k_of_s5 := by rw [of_6, of_5]; decide +kernel
theorem of_n8_5 : ¬ k_of_s8 = k_of_s5 := by rw [of_8, of_5]; decide +kernel
theorem of_n8_6 : ¬ k_of_s8 = k_of_s6 := by rw [of_8, of_6]; decide +kernel
theorem of_n7_5 : ¬ k_of_s7 = k_of_s5 := by rw [of_7, of_5]; decide +kernel
theorem of_n7_6 : ¬ k_of_s7 = k_of_s6 := by rw [of_7, of_6]; decide +kernel
theorem of_n7_8 : ¬ k_of_s7 = k_of_s8 := by rw [of_7, of_8]; decide +kernel
theorem of_n9_5 : ¬ k_of_s9 = k_of_s5 := by rw [of_9, of_5]; decide +kernel
theorem of_n9_6 : ¬ k_of_s9 = k_of_s6 := by rw [of_9, of_6]; decide +kernel
theorem of_n9_8 : ¬ k_of_s9 = k_of_s8 := by rw [of_9, of_8]; decide +kernel
theorem of_n9_7 : ¬ k_of_s9 = k_of_s7 := by rw [of_9, of_7]; decide +kernel
theorem of_n11_10 : ¬ k_of_s11 = k_of_s10 := by rw [of_11, of_10]; decide +kernel
theorem of_n12_10 : ¬ k_of_s12 = k_of_s10 := by rw [of_12, of_10]; decide +kernel
theorem of_n12_11 : ¬ k_of_s12 = k_of_s11 := by rw [of_12, of_11]; decide +kernel
theorem of_n13_10 : ¬ k_of_s13 = k_of_s10 := by rw [of_13, of_10]; decide +kernel
theorem of_n13_11 : ¬ k_of_s13 = k_of_s11 := by rw [of_13, of_11]; decide +kernel
theorem of_n13_12 : ¬ k_of_s13 = k_of_s12 := by rw [of_13, of_12]; decide +kernel
theorem of_n14_10 : ¬ k_of_s14 = k_of_s10 := by rw [of_14, of_10]; decide +kernel
theorem of_n14_11 : ¬ k_of_s14 = k_of_s11 := by rw [of_14, of_11]; decide +kernel
theorem of_n14_12 : ¬ k_of_s14 = k_of_s12 := by rw [of_14, of_12]; decide +kernel
theorem of_n14_13 : ¬ k_of_s14 = k_of_s13 := by rw [of_14, of_13]; decide +kernel
theorem of_n15_10 : ¬ k_of_s15 = k_of_s10 := by rw [of_15, of_10]; decide +kernel
theorem of_n15_11 : ¬ k_of_s15 = k_of_s11 := by rw [of_15, of_11]; decide +kernel
theorem of_n15_12 : ¬ k_of_s15 = k_of_s12 := by rw [of_15, of_12]; decide +kernel
theorem of_n15_13 : ¬ k_of_s15 = k_of_s13 := by rw [of_15, of_13]; decide +kernel
theorem of_n15_14 : ¬ k_of_s15 = k_of_s14 := by rw [of_15, of_14]; decide +kernel
theorem of_n16_10 : ¬ k_of_s16 = k_of_s10 := by rw [of_16, of_10]; decide +kernel
theorem of_n16_11 : ¬ k_of_s16 = k_of_s11 := by rw [of_16, of_11]; decide +kernel
theorem of_n16_12 : ¬ k_of_s16 = k_of_s12 := by rw [of_16, of_12]; decide +kernel
theorem of_n16_13 : ¬ k_of_s16 = k_of_s13 := by rw [of_16, of_13]; decide +kernel
theorem of_n16_14 : ¬ k_of_s16 = k_of_s14 := by rw [of_16, of_14]; decide +kernel
theorem of_n16_15 : ¬ k_of_s16 = k_of_s15 := by rw [of_16, of_15]; decide +kernel
theorem of_n17_10 : ¬ k_of_s17 = k_of_s10 := by rw [of_17, of_10]; decide +kernel
theorem of_n17_11 : ¬ k_of_s17 = k_of_s11 := by rw [of_17, of_11]; decide +kernel
theorem of_n17_12 : ¬ k_of_s17 = k_of_s12 := by rw [of_17, of_12]; decide +kernel
theorem of_n17_13 : ¬ k_of_s17 = k_of_s13 := by rw [of_17, of_13]; decide +kernel
theorem of_n17_14 : ¬ k_of_s17 = k_of_s14 := by rw [of_17, of_14]; decide +kernel
theorem of_n17_15 : ¬ k_of_s17 = k_of_s15 := by rw [of_17, of_15]; decide +kernel
theorem of_n17_16 : ¬ k_of_s17 = k_of_s16 := by rw [of_17, of_16]; decide +kernel
theorem of_n18_10 : ¬ k_of_s18 = k_of_s10 := by rw [of_18, of_10]; decide +kernel
theorem of_n18_11 : ¬ k_of_s18 = k_of_s11 := by rw [of_18, of_11]; decide +kernel
theorem of_n18_12 : ¬ k_of_s18 = k_of_s12 := by rw [of_18, of_12]; decide +kernel
theorem of_n18_13 : ¬ k_of_s18 = k_of_s13 := by rw [of_18, of_13]; decide +kernel
theorem of_n18_14 : ¬ k_of_s18 = k_of_s14 := by rw [of_18, of_14]; decide +kernel
theorem of_n18_15 : ¬ k_of_s18 = k_of_s15 := by rw [of_18, of_15]; decide +kernel
theorem of_n18_16 : ¬ k_of_s18 = k_of_s16 := by rw [of_18, of_16]; decide +kernel
theorem of_n18_17 : ¬ k_of_s18 = k_of_s17 := by rw [of_18, of_17]; decide +kernel
theorem of_n8_10 : ¬ k_of_s8 = k_of_s10 := by rw [of_8, of_10]; decide +kernel
theorem of_n8_11 : ¬ k_of_s8 = k_of_s11 := by rw [of_8, of_11]; decide +kernel
theorem of_n8_12 : ¬ k_of_s8 = k_of_s12 := by rw [of_8, of_12]; decide +kernel
theorem of_n8_13 : ¬ k_of_s8 = k_of_s13 := by rw [of_8, of_13]; decide +kernel
theorem of_n8_14 : ¬ k_of_s8 = k_of_s14 := by rw [of_8, of_14]; decide +kernel
theorem of_n8_15 : ¬ k_of_s8 = k_of_s15 := by rw [of_8, of_15]; decide +kernel
theorem of_n8_16 : ¬ k_of_s8 = k_of_s16 := by rw [of_8, of_16]; decide +kernel
theorem of_n8_17 : ¬ k_of_s8 = k_of_s17 := by rw [of_8, of_17]; decide +kernel
theorem of_n8_18 : ¬ k_of_s8 = k_of_s18 := by rw [of_8, of_18]; decide +kernel
theorem of_n20_19 : ¬ k_of_s20 = k_of_s19 := by rw [of_20, of_19]; decide +kernel
theorem of_n21_19 : ¬ k_of_s21 = k_of_s19 := by rw [of_21, of_19]; decide +kernel
theorem of_n21_20 : ¬ k_of_s21 = k_of_s20 := by rw [of_21, of_20]; decide +kernel
theorem of_n22_19 : ¬ k_of_s22 = k_of_s19 := by rw [of_22, of_19]; decide +kernel
theorem of_n22_20 : ¬ k_of_s22 = k_of_s20 := by rw [of_22, of_20]; decide +kernel
theorem of_n22_21 : ¬ k_of_s22 = k_of_s21 := by rw [of_22, of_21]; decide +kernel
theorem of_n23_19 : ¬ k_of_s23 = k_of_s19 := by rw [of_23, of_19]; decide +kernel
theorem of_n23_20 : ¬ k_of_s23 = k_of_s20 := by rw [of_23, of_20]; decide +kernel
theorem of_n23_21 : ¬ k_of_s23 = k_of_s21 := by rw [of_23, of_21]; decide +kernel
theorem of_n23_22 : ¬ k_of_s23 = k_of_s22 := by rw [of_23, of_22]; decide +kernel
theorem of_n24_19 : ¬ k_of_s24 = k_of_s19 := by rw [of_24, of_19]; decide +kernel
theorem of_n24_20 : ¬ k_of_s24 = k_of_s20 := by rw [of_24, of_20]; decide +kernel
theorem of_n24_21 : ¬ k_of_s24 = k_of_s21 := by rw [of_24, of_21]; decide +kernel
theorem of_n24_22 : ¬ k_of_s24 = k_of_s22 := by rw [of_24, of_22]; decide +kernel
theorem of_n24_23 : ¬ k_of_s24 = k_of_s23 := by rw [of_24, of_23]; decide +kernel
