/-! bits -/
theorem pu_sl : ∀ n, n < 31 → nI 1 <<< (nI n &&& 31) = nI (2 ^ n) := by decide +kernel
theorem pu_or {a b : Nat} (ha : a < 2 ^ 31) (hb : b < 2 ^ 31) : nI a ||| nI b = nI (a ||| b) := by
  apply Int32.toBitVec_inj.mp
  apply BitVec.eq_of_toNat_eq
  have hc : a ||| b < 2 ^ 31 := Nat.or_lt_two_pow ha hb
  rw [Int32.toBitVec_or, BitVec.toNat_or, pk_tn (by omega), pk_tn (by omega), pk_tn (by omega)]
theorem pu_orb {b n : Nat} (hn : n < 31) (hb : b < 2 ^ n) : nI b ||| (nI 1 <<< (nI n &&& 31)) = nI (b + 2 ^ n) := by
  have h2 : 2 ^ n < 2 ^ 31 := Nat.pow_lt_pow_right (by omega) hn
  rw [pu_sl n hn, pu_or (by omega) h2]
  congr 1
  have := Nat.two_pow_add_eq_or_of_lt hb 1
  rw [Nat.mul_one] at this
  rw [Nat.add_comm, this, Nat.or_comm]
/-- a set of bits as a number -/
def bsn (P : Nat → Prop) [∀ i, Decidable (P i)] : Nat → Nat
  | 0 => 0
  | n + 1 => if P n then bsn P n + 2 ^ n else bsn P n
theorem bsn_lt (P : Nat → Prop) [∀ i, Decidable (P i)] : ∀ n, bsn P n < 2 ^ n
  | 0 => by simp [bsn]
  | n + 1 => by
    have := bsn_lt P n
    simp only [bsn, Nat.pow_succ]
    split <;> omega
theorem bsn_bit (P : Nat → Prop) [∀ i, Decidable (P i)] : ∀ n i, (bsn P n).testBit i = decide (i < n ∧ P i)
  | 0, i => by simp [bsn]
  | n + 1, i => by
    have hl := bsn_lt P n
    have ih := bsn_bit P n i
    simp only [bsn]
    by_cases hp : P n
    · rw [if_pos hp, Nat.add_comm]
      by_cases hi : i = n
      · subst hi
        rw [Nat.testBit_two_pow_add_eq, Nat.testBit_lt_two_pow hl]
        simp [hp]
      · rcases Nat.lt_or_gt_of_ne hi with h | h
        · rw [Nat.testBit_two_pow_add_gt h, ih]
          simp [h, show i < n + 1 by omega]
        · rw [Nat.testBit_lt_two_pow (Nat.lt_of_lt_of_le (by omega : 2 ^ n + bsn P n < 2 ^ (n + 1)) (Nat.pow_le_pow_right (by omega) h))]
          simp [show ¬ i < n + 1 by omega]
    · rw [if_neg hp, ih]
      by_cases hi : i = n
      · subst hi; simp [hp]
      · exact decide_eq_decide.mpr ⟨fun h => ⟨by omega, h.2⟩, fun h => ⟨by omega, h.2⟩⟩
theorem bsn_congr {P Q : Nat → Prop} [∀ i, Decidable (P i)] [∀ i, Decidable (Q i)] : ∀ n, (∀ i, i < n → (P i ↔ Q i)) → bsn P n = bsn Q n
  | 0, _ => rfl
  | n + 1, h => by
    simp only [bsn, bsn_congr n (fun i hi => h i (by omega)), h n (by omega)]
theorem hb_bs (R : Nat → Int32) (x : Int32) : ∀ n, n ≤ 30 → d_heldBy_4 R x n = nI (bsn (fun t => R (41 + t) = x) n)
  | 0, _ => rfl
  | n + 1, hn => by
    simp only [d_heldBy_4, bsn, hb_bs R x n (by omega)]
    split
    · exact pu_orb (by omega) (bsn_lt _ n)
    · rfl
theorem ly_bs (R : Nat → Int32) (x : Int32) : ∀ n, n ≤ 30 → d_lyingAt_4 R x n = nI (bsn (fun t => R (31 + t) = x) n)
  | 0, _ => rfl
  | n + 1, hn => by
    simp only [d_lyingAt_4, bsn, ly_bs R x n (by omega)]
    split
    · exact pu_orb (by omega) (bsn_lt _ n)
    · rfl
theorem ones_bc : ∀ b, b < 1024 → J6_bitCount_0f7a4 (nI b) = k_ones_4 (nI b) 10 := by decide +kernel
theorem ones_eq {n b : Nat} (hn : n ≤ 10) (hb : b < 2 ^ n) : k_ones (nI b) = J6_bitCount_0f7a4 (nI b) := by
  have : 2 ^ n ≤ 2 ^ 10 := Nat.pow_le_pow_right (by omega) hn
  rw [k_ones, cN_eq, ones_bc b (by omega)]
/-! finding -/
theorem DR_find {np nt nf : Nat} {R S : Nat → Int32} (hD : DR np nt nf R S) (hz : np ≤ 8 ∧ nt ≤ 10 ∧ nf ≤ 6) {a t : Nat} {o x : Int32} (ha : a < nf) (ht : t < nt) (hh : R (41 + t) = -1) (hs : R (31 + t) = R (1 + a)) (ho : -99 ≤ o.toInt ∧ o.toInt ≤ 99) :
    DR np nt nf (upd (upd (upd (upd R (7 + a) o) (19 + a) x) (31 + t) (-1)) (41 + t) (nI a)) (upd (upd (upd S (10 + t) (nI a)) (26 + a) o) (38 + a) x) := by
  obtain ⟨hz1, hz2, hz3⟩ := hz
  obtain ⟨h1, h2, h3, h4, h5, h6⟩ := hD
  refine ⟨?_, fun b hb => ?_, fun b hb => ?_, fun u hu => ?_, fun u hu => ?_, fun b hb => ?_⟩
  · simp (disch := omega) only [pk_un, h1]
  · obtain ⟨g1, g2, g3, g4, g5⟩ := h2 b hb
    by_cases e : b = a
    · subst e
      simp (disch := omega) only [pk_us, pk_un, g1, g3, g5, and_self]
    · simp (disch := omega) only [pk_un, g1, g2, g3, g4, g5, and_self]
  · obtain ⟨q, hq, eq⟩ := h3 b hb
    exact ⟨q, hq, by simp (disch := omega) only [pk_un, eq]⟩
  · by_cases e : u = t
    · subst e
      simp (disch := omega) only [pk_us, pk_un]
    · simp (disch := omega) only [pk_un, h4 u hu]
  · by_cases e : u = t
    · subst e
      right
      refine ⟨a, ha, by simp (disch := omega) only [pk_us], by simp (disch := omega) only [pk_us, pk_un], ?_⟩
      simp (disch := omega) only [pk_un]
      rcases h5 u hu with ⟨-, g2, -⟩ | ⟨b, hb, g1, -, -⟩
      · rw [g2, hs]
      · rw [hh] at g1
        exact absurd g1.symm (pu_nm (by omega))
    · rcases h5 u hu with ⟨g1, g2, q, hq, eq⟩ | ⟨b, hb, g1, g2, g3⟩
      · left
        exact ⟨by simp (disch := omega) only [pk_un, g1], by simp (disch := omega) only [pk_un, g2], q, hq, by simp (disch := omega) only [pk_un, eq]⟩
      · right
        exact ⟨b, hb, by simp (disch := omega) only [pk_un, g1], by simp (disch := omega) only [pk_un, g2], by simp (disch := omega) only [pk_un, g3]⟩
  · obtain ⟨g1, g2, v, hv, ev⟩ := h6 b hb
    by_cases e : b = a
    · subst e
      simp (disch := omega) only [pk_us, pk_un]
      exact ⟨ho.1, ho.2, v, hv, ev⟩
    · simp (disch := omega) only [pk_un]
      exact ⟨g1, g2, v, hv, ev⟩
theorem sm_duty {np nr nt nf : Nat} {R S W TH L G C Vs Rmd O V St F : Nat → Int32} (hD : DR np nt nf R S) (hT : TW nt W TH) (hz : SZ np nr nt nf) (hL : LWr L C Rmd O V) {a t : Nat} (ha : a < nf) (ht : t < nt) :
    d_dutyOf_ok W L G C Vs R nt a t ∧ k_dutyBy_ok Rmd TH O V St F S nt a t ∧ (k_dutyBy Rmd TH O V St F S nt a t).1 = (d_dutyOf W L G C Vs R nt a t).1 ∧ ∃ v, v ≤ 99 ∧ (d_dutyOf W L G C Vs R nt a t).1 = nI v := by
  obtain ⟨z1, z2, z3, z4⟩ := hz
  obtain ⟨p, hp, ep⟩ := hD.2.2.1 a ha
  obtain ⟨g1, g2, g3, g4, g5⟩ := hD.2.1 a ha
  have e1 : k_heldBy S nt (nI a) = d_heldBy R nt (nI a) := hb_eq (nI a) nt hD.2.2.2.1
  have e2 : k_lyingAt S nt (nI p) = d_lyingAt R nt (nI p) := la_eq hD (by omega) z4 nt (Nat.le_refl _)
  have e3 : k_ones (d_heldBy R nt (nI a)) = J6_bitCount_0f7a4 (d_heldBy R nt (nI a)) := by
    rw [d_heldBy, hb_bs R _ nt (by omega)]
    exact ones_eq (n := nt) z3 (bsn_lt _ nt)
  have e4 : k_ones (d_lyingAt R nt (nI p)) = J6_bitCount_0f7a4 (d_lyingAt R nt (nI p)) := by
    rw [d_lyingAt, ly_bs R _ nt (by omega)]
    exact ones_eq (n := nt) z3 (bsn_lt _ nt)
  have hG : ∀ f, f < 8 → (upd (upd (upd (upd (upd (upd (upd (upd G 0 (W t)) 1 (R (7 + a))) 2 (J6_bitCount_0f7a4 (d_heldBy R nt (nI a)))) 3 (R (19 + a))) 4 (J6_bitCount_0f7a4 (d_lyingAt R nt (nI p)))) 5 (R 0)) 6 (R (25 + a))) 7 (nI a)) f = (upd (upd (upd (upd (upd (upd (upd (upd F 0 (W t)) 1 (R (7 + a))) 2 (J6_bitCount_0f7a4 (d_heldBy R nt (nI a)))) 3 (R (19 + a))) 4 (J6_bitCount_0f7a4 (d_lyingAt R nt (nI p)))) 5 (R 0)) 6 (R (25 + a))) 7 (nI a)) f := by
    intro f hf
    have : f = 0 ∨ f = 1 ∨ f = 2 ∨ f = 3 ∨ f = 4 ∨ f = 5 ∨ f = 6 ∨ f = 7 := by omega
    rcases this with rfl | rfl | rfl | rfl | rfl | rfl | rfl | rfl <;> simp (disch := omega) only [pk_us, pk_un]
  obtain ⟨r1, r2, r3, v, hv, r4⟩ := sm_law (Vs := Vs) (St := St) hL hG
  simp only [d_dutyOf_ok, k_dutyBy_ok, k_dutyBy, d_dutyOf, k_dutyOf_ok, k_dutyOf, (hT t ht).1, g1, g2, g4, g5, hD.1, ep, e1, e2, e3, e4, true_and, and_true]
  exact ⟨r1, r2, r3.symm, v, hv, r3.trans r4⟩
theorem sm_finds {np nr nt nf : Nat} {R S W TH L G C Vs Rmd O V St F : Nat → Int32} (hD : DR np nt nf R S) (hT : TW nt W TH) (hz : SZ np nr nt nf) (hL : LWr L C Rmd O V) {a t : Nat} (ha : a < nf) (ht : t < nt) :
    d_finds_ok W L G C Vs R nt a t ∧ k_finds_ok Rmd TH O V St F S nt a t ∧ (k_finds Rmd TH O V St F S nt a t).1 = (d_finds W L G C Vs R nt a t).1 ∧ DR np nt nf (d_finds W L G C Vs R nt a t).2.2.2 (k_finds Rmd TH O V St F S nt a t).2.2.2 ∧
    ((d_finds W L G C Vs R nt a t).1 = nI 0 ∨ (d_finds W L G C Vs R nt a t).1 = nI 1) ∧
    (∀ b, b < nf → (k_finds Rmd TH O V St F S nt a t).2.2.2 (38 + b) = S (38 + b) + (if b = a then (d_finds W L G C Vs R nt a t).1 else nI 0)) := by
  obtain ⟨r1, r2, r3, v, hv, r4⟩ := sm_duty (G := G) (Vs := Vs) (St := St) (F := F) hD hT hz hL ha ht
  obtain ⟨z1, z2, z3, z4⟩ := hz
  have ec := sm_can hD ⟨z1, z4⟩ ha ht
  have g2 := (hD.2.1 a ha).2.1
  have g4 := (hD.2.1 a ha).2.2.2.1
  have g6 := hD.2.2.2.2.2 a ha
  simp only [d_finds_ok, k_finds_ok, d_finds, k_finds, ec]
  by_cases h : d_mayFind R a t = 0
  · simp only [if_pos h, true_and]
    refine ⟨hD, by decide, fun b hb => ?_⟩
    split <;> rw [pu_add0]
  · simp only [if_neg h, true_and, and_true]
    have h' : R (31 + t) = R (1 + a) ∧ ¬ 0 < R (7 + a) := by
      simp only [d_mayFind] at h
      by_cases q1 : R (31 + t) = R (1 + a)
      · by_cases q2 : 0 < R (7 + a)
        · rw [if_pos q1, if_pos q2] at h
          exact absurd pu_n01 h
        · exact ⟨q1, q2⟩
      · rw [if_neg q1] at h
        exact absurd pu_n01 h
    have hh : R (41 + t) = -1 := by
      rcases hD.2.2.2.2.1 t ht with ⟨h1, -, -⟩ | ⟨b, hb, h1, h2, -⟩
      · exact h1
      · obtain ⟨p, hp, ep⟩ := hD.2.2.1 a ha
        rw [h2, ep] at h'
        exact absurd h'.1.symm (pu_nm (by omega))
    have ex1 : ∀ x, upd S (10 + t) x (26 + a) = S (26 + a) := fun x => pk_un (by omega)
    have ex2 : ∀ x y, upd (upd S (10 + t) x) (26 + a) y (38 + a) = S (38 + a) := fun x y => by
      rw [pk_un (by omega), pk_un (by omega)]
    have ex3 : ∀ y, upd R (7 + a) y (19 + a) = R (19 + a) := fun y => pk_un (by omega)
    simp only [ex1, ex2, ex3, r3, r4, g2, g4]
    have ho : (R (7 + a) + nI v).toInt = (R (7 + a)).toInt + v := by
      rw [pu_add] <;> rw [pu_nI (by omega)] <;> omega
    have h0 := h'.2
    rw [pu_lt, pu_z] at h0
    refine ⟨r1, r2, DR_find hD ⟨z1, z3, z4⟩ ha ht hh h'.1 ⟨by omega, by omega⟩, Or.inr trivial, fun b hb => ?_⟩
    by_cases e : b = a
    · subst e
      rw [if_pos rfl, pk_us, g4]
    · rw [if_neg e, pk_un (by omega), pk_un (by omega), pk_un (by omega), pu_add0]
