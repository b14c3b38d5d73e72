/-! pure: numbers -/
theorem pu_or0 (x : Int32) : x ||| nI 0 = x := by rw [nI_0]; exact Int32.or_zero
theorem pu_add0 (x : Int32) : x + nI 0 = x := by rw [nI_0]; exact Int32.add_zero x
theorem pu_m1 : ((-1) : Int32).toInt = -1 := by decide
theorem pu_m99 : ((-99) : Int32).toInt = -99 := by decide
theorem pu_z : (0 : Int32).toInt = 0 := by decide
theorem pu_lt (a b : Int32) : a < b ↔ a.toInt < b.toInt := Int32.lt_iff_toInt_lt
theorem pu_le (a b : Int32) : a ≤ b ↔ a.toInt ≤ b.toInt := Int32.le_iff_toInt_le
theorem pu_eq (a b : Int32) : a = b ↔ a.toInt = b.toInt := Int32.toInt_inj.symm
theorem pu_bm {x : Int} (h1 : -2147483648 ≤ x) (h2 : x < 2147483648) : x.bmod (2 ^ 32) = x := by
  rw [Int.bmod_def]
  have e : ((2 ^ 32 : Nat) : Int) = 4294967296 := by decide
  rw [e]
  omega
theorem pu_add {a b : Int32} (h1 : -2147483648 ≤ a.toInt + b.toInt) (h2 : a.toInt + b.toInt < 2147483648) : (a + b).toInt = a.toInt + b.toInt := by
  rw [Int32.toInt_add]; exact pu_bm h1 h2
theorem pu_sub {a b : Int32} (h1 : -2147483648 ≤ a.toInt - b.toInt) (h2 : a.toInt - b.toInt < 2147483648) : (a - b).toInt = a.toInt - b.toInt := by
  rw [Int32.toInt_sub]; exact pu_bm h1 h2
theorem pu_neg {a : Int32} (h1 : -2147483648 ≤ -a.toInt) (h2 : -a.toInt < 2147483648) : (-a).toInt = -a.toInt := by
  rw [Int32.toInt_neg]; exact pu_bm h1 h2
theorem pu_nI {k : Nat} (h : k < 2147483648) : (nI k).toInt = (k : Int) := nI_toInt h
/-- a number that lies between two -/
theorem pu_of {x : Int32} {n : Nat} (h0 : ¬ x < 0) (h : x.toInt < n) : ∃ k : Nat, k < n ∧ x = nI k := by
  have h1 : 0 ≤ x.toInt := by
    rw [pu_lt, pu_z] at h0
    omega
  have h2 := Int32.toInt_lt x
  have h3 : (2 : Int) ^ 31 = 2147483648 := by decide
  rw [h3] at h2
  refine ⟨x.toInt.toNat, by omega, ?_⟩
  rw [pu_eq, pu_nI (by omega)]
  omega
theorem pu_in {x : Int32} {n : Nat} (hn : n < 2147483648) (h0 : ¬ x < 0) (h : x < nI n) : ∃ k : Nat, k < n ∧ x = nI k := by
  refine pu_of h0 ?_
  rw [pu_lt, pu_nI hn] at h
  exact h
theorem pu_le2 {x : Int32} {n : Nat} (hn : n < 2147483647) (h0 : ¬ x < 0) (h : x ≤ nI n) : ∃ k : Nat, k ≤ n ∧ x = nI k := by
  obtain ⟨k, hk, e⟩ := pu_of (n := n + 1) h0 (by rw [pu_le, pu_nI (by omega)] at h; omega)
  exact ⟨k, by omega, e⟩
theorem pu_nm {k : Nat} (h : k < 2147483648) : ¬ nI k = -1 := nI_nm h
theorem pu_ix {k : Nat} (h : k < 2147483648) : ix (nI k) = k := ix_nI h
theorem pu_isN {k : Nat} (h : k < 2147483648) : isN (nI k) := isN_nI h
theorem pu_lti {a b : Nat} (ha : a < 2147483648) (hb : b < 2147483648) : nI a < nI b ↔ a < b := nI_ltI ha hb
theorem pu_lei {a b : Nat} (ha : a < 2147483648) (hb : b < 2147483648) : nI a ≤ nI b ↔ a ≤ b := nI_leI ha hb
theorem pu_eqi {a b : Nat} (ha : a < 2147483648) (hb : b < 2147483648) : nI a = nI b ↔ a = b := nI_eq ha hb
theorem pu_inj {a b : Nat} (ha : a < 2147483648) (hb : b < 2147483648) (h : nI a = nI b) : a = b := (nI_eq ha hb).mp h
theorem pu_p1 (a : Nat) : nI a + nI 1 = nI (a + 1) := nI_add a 1
theorem pu_s1 (a : Nat) : nI (a + 1) - nI 1 = nI a := by
  rw [pk_sub (by omega)]; rfl
/-- the last bit of a number -/
theorem pu_bit (x : Int32) : x &&& nI 1 = nI 0 ∨ x &&& nI 1 = nI 1 := by
  obtain ⟨j, hj, e⟩ := pk_andE x (m := nI 1) 1 (by decide)
  have : j = 0 ∨ j = 1 := by omega
  rcases this with rfl | rfl
  · exact Or.inl e
  · exact Or.inr e
theorem pu_n10 : ¬ nI 1 = 0 := by decide
theorem pu_n01 : nI 0 = 0 := nI_0
/-! the rows of a day in both systems -/
def DR (np nt nf : Nat) (R S : Nat → Int32) : Prop :=
  S 50 = R 0 ∧
  (∀ a, a < nf → S (20 + a) = R (1 + a) ∧ S (26 + a) = R (7 + a) ∧ S (32 + a) = R (13 + a) ∧ S (38 + a) = R (19 + a) ∧ S (44 + a) = R (25 + a)) ∧
  (∀ a, a < nf → ∃ p, p < np ∧ R (1 + a) = nI p) ∧
  (∀ t, t < nt → S (10 + t) = R (41 + t)) ∧
  (∀ t, t < nt → (R (41 + t) = -1 ∧ S t = R (31 + t) ∧ ∃ p, p < np ∧ R (31 + t) = nI p) ∨ (∃ a, a < nf ∧ R (41 + t) = nI a ∧ R (31 + t) = -1 ∧ S t = R (1 + a))) ∧
  (∀ a, a < nf → -99 ≤ (R (7 + a)).toInt ∧ (R (7 + a)).toInt ≤ 99 ∧ ∃ w, w ≤ 24 ∧ R (13 + a) = nI w)
/-- the sizes -/
def SZ (np nr nt nf : Nat) : Prop := np ≤ 8 ∧ nr ≤ 12 ∧ nt ≤ 10 ∧ nf ≤ 6
/-- the towns: worths and roads -/
def TW (nt : Nat) (W TH : Nat → Int32) : Prop := ∀ t, t < nt → TH (3 * t + 2) = W t ∧ ∃ w, 1 ≤ w ∧ w ≤ 60 ∧ W t = nI w
def TRo (np nr : Nat) (A B L RO : Nat → Int32) : Prop := ∀ r, r < nr → RO (3 * r) = A r ∧ RO (3 * r + 1) = B r ∧ RO (3 * r + 2) = L r ∧ ∃ a b l, a < np ∧ b < np ∧ a ≠ b ∧ 1 ≤ l ∧ l ≤ 9 ∧ A r = nI a ∧ B r = nI b ∧ L r = nI l
theorem hb_eq {R S : Nat → Int32} (x : Int32) : ∀ n, (∀ t, t < n → S (10 + t) = R (41 + t)) → k_heldBy_4 S x n = d_heldBy_4 R x n
  | 0, _ => rfl
  | n + 1, h => by
    simp only [k_heldBy_4, d_heldBy_4, hb_eq x n (fun t ht => h t (by omega)), h n (by omega), pu_or0]
theorem al_eq {R S : Nat → Int32} : ∀ n, (∀ t, t < n → S (10 + t) = R (41 + t)) → k_allLying_4 S n = d_heldBy_4 R (-1) n
  | 0, _ => rfl
  | n + 1, h => by
    simp only [k_allLying_4, d_heldBy_4, al_eq n (fun t ht => h t (by omega)), h n (by omega), pu_or0]
theorem la_eq {np nt nf : Nat} {R S : Nat → Int32} (hD : DR np nt nf R S) {p : Nat} (hp : p < 2147483648) (hf : nf ≤ 6) : ∀ n, n ≤ nt → k_lyingAt_4 S (nI p) n = d_lyingAt_4 R (nI p) n
  | 0, _ => rfl
  | n + 1, h => by
    have ih := la_eq hD hp hf n (by omega)
    have e1 := hD.2.2.2.1 n (by omega)
    simp only [k_lyingAt_4, d_lyingAt_4, ih, e1, pu_or0, Nat.zero_add]
    rcases hD.2.2.2.2.1 n (by omega) with ⟨h1, h2, -⟩ | ⟨a, ha, h1, h2, -⟩
    · rw [if_pos h1, h2]
    · rw [if_neg (by rw [h1]; exact pu_nm (by omega)), if_neg (by rw [h2]; exact fun e => pu_nm hp e.symm)]
theorem wo_eq {nt : Nat} {W TH : Nat → Int32} (h : TW nt W TH) (x : Int32) : ∀ n, n ≤ nt → k_worthOf_4 TH x n = v_worthOf_4 W x n
  | 0, _ => rfl
  | n + 1, hn => by
    simp only [k_worthOf_4, v_worthOf_4, wo_eq h x n (by omega), (h n (by omega)).1]
    rcases pu_bit (x >>> (nI n &&& 31)) with e | e
    · rw [e, if_pos pu_n01, pu_n01, Int32.zero_mul, Int32.add_zero]
    · rw [e, if_neg pu_n10, show nI 1 = (1 : Int32) from rfl, Int32.one_mul]
/-! steps -/
theorem sm_can {np nt nf : Nat} {R S : Nat → Int32} (hD : DR np nt nf R S) (hz : np ≤ 8 ∧ nf ≤ 6) {a t : Nat} (ha : a < nf) (ht : t < nt) : k_canFind S a t = d_mayFind R a t := by
  obtain ⟨p, hp, ep⟩ := hD.2.2.1 a ha
  simp only [k_canFind, d_mayFind, hD.2.2.2.1 t ht, (hD.2.1 a ha).1, (hD.2.1 a ha).2.1, Nat.zero_add]
  rcases hD.2.2.2.2.1 t ht with ⟨h1, h2, -⟩ | ⟨b, hb, h1, h2, -⟩
  · rw [if_pos h1, h2]
  · rw [if_neg (by rw [h1]; exact pu_nm (by omega)), if_neg (by rw [h2, ep]; exact fun e => pu_nm (by omega) e.symm)]
