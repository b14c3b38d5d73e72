/-! where all best meet -/
def EdS (E : Nat → Nat) : Nat → Nat
  | 0 => 0
  | n + 1 => EdS E n + E n
theorem EdS_le {E : Nat → Nat} : ∀ n, (∀ i, i < n → E i ≤ 9999) → EdS E n ≤ 9999 * n
  | 0, _ => Nat.le_refl 0
  | n + 1, h => by
    have := EdS_le n (fun i hi => h i (by omega))
    have := h n (by omega)
    simp only [EdS]; omega
theorem EdS_lt {E : Nat → Nat} : ∀ n, (∀ i, i < n → E i < 1000) → EdS E n ≤ 999 * n
  | 0, _ => Nat.le_refl 0
  | n + 1, h => by
    have := EdS_lt n (fun i hi => h i (by omega))
    have := h n (by omega)
    simp only [EdS]; omega
theorem EdS_ge {E : Nat → Nat} : ∀ n j, j < n → E j ≤ EdS E n
  | 0, j, h => by omega
  | n + 1, j, h => by
    simp only [EdS]
    by_cases e : j = n
    · subst e; omega
    · have := EdS_ge (E := E) n j (by omega); omega
theorem me_53 {N Fo : Nat → Int32} {E : Nat → Nat} {p : Nat} (x y z : Int32) : ∀ n, (∀ i, i < n → Fo (8 * ix (N (20 + i)) + p) = nI (E i)) → k_meet_53 N Fo x y z p n = nI (EdS E n)
  | 0, _ => rfl
  | n + 1, h => by simp only [k_meet_53, EdS, me_53 x y z n (fun i hi => h i (by omega)), h n (by omega), nI_add]
theorem wa_4 {R Fa : Nat → Int32} {E : Nat → Nat} {p nf : Nat} (hE : ∀ i, i < nf → isN (R (1 + i)) ∧ ix (R (1 + i)) < 8 ∧ ((E i < 1000 ∧ v_farFrom Fa (ix (R (1 + i))) p = nI (E i)) ∨ (E i = 9999 ∧ v_farFrom Fa (ix (R (1 + i))) p = -1))) : ∀ k i, i + k = nf → (∀ j, j < i → E j < 1000) →
    w_walkOfAll_4_ok Fa R p k i (nI (EdS E i)) ∧ ((w_walkOfAll_4 Fa R p k i (nI (EdS E i)) = .inr (nI (EdS E nf)) ∧ ∀ j, j < nf → E j < 1000) ∨ (w_walkOfAll_4 Fa R p k i (nI (EdS E i)) = .inl (-1) ∧ ∃ j, j < nf ∧ E j = 9999))
  | 0, i, h, hj => by
    have e : i = nf := by omega
    subst e
    exact ⟨trivial, Or.inl ⟨rfl, hj⟩⟩
  | k + 1, i, h, hj => by
    obtain ⟨h1, h2, h3⟩ := hE i (by omega)
    simp only [w_walkOfAll_4_ok, w_walkOfAll_4, h1, h2, true_and]
    rcases h3 with ⟨g1, g2⟩ | ⟨g1, g2⟩
    · have gn : ¬ nI (E i) = -1 := pu_nm (by omega)
      rw [g2, if_neg gn, if_neg gn, nI_add]
      exact wa_4 hE k (i + 1) (by omega) (fun j hj' => by
        by_cases e : j = i
        · subst e; exact g1
        · exact hj j (by omega))
    · rw [g2, if_pos rfl, if_pos rfl]
      exact ⟨trivial, Or.inr ⟨rfl, i, by omega, g1⟩⟩
theorem me_p {np nt nf : Nat} {R N Fa Fo : Nat → Int32} (hD : DR np nt nf R N) (hF : FR np Fa Fo) (h8 : np ≤ 8 ∧ nf ≤ 6) {p : Nat} (hp : p < np) :
    w_walkOfAll_ok Fa R nf p ∧ (∀ x y z i, i < nf → k_meet_53_ok N Fo x y z p i) ∧ ∃ s, s ≤ 59994 ∧ (∀ x y z, k_meet_53 N Fo x y z p nf = nI s) ∧ ((s ≤ 5994 ∧ w_walkOfAll Fa R nf p = nI s) ∨ (9999 ≤ s ∧ w_walkOfAll Fa R nf p = -1)) := by
  obtain ⟨h8, h6⟩ := h8
  have hx : ∀ i, ∃ e, i < nf → isN (R (1 + i)) ∧ ix (R (1 + i)) < 8 ∧ isN (N (20 + i)) ∧ 8 * ix (N (20 + i)) + p < 64 ∧ e ≤ 9999 ∧ Fo (8 * ix (N (20 + i)) + p) = nI e ∧ ((e < 1000 ∧ v_farFrom Fa (ix (R (1 + i))) p = nI e) ∨ (e = 9999 ∧ v_farFrom Fa (ix (R (1 + i))) p = -1)) := by
    intro i
    by_cases hi : i < nf
    · obtain ⟨q, hq, eq⟩ := hD.2.2.1 i hi
      have e1 : N (20 + i) = nI q := (hD.2.1 i hi).1.trans eq
      rw [e1, eq, pu_ix (show q < 2147483648 by omega)]
      have hn := pu_isN (show q < 2147483648 by omega)
      rcases fr_cases hF hq hp with ⟨d, d1, d2, d3⟩ | ⟨d2, d3⟩
      · exact ⟨d, fun _ => ⟨hn, by omega, hn, by omega, by omega, d3, Or.inl ⟨d1, d2⟩⟩⟩
      · exact ⟨9999, fun _ => ⟨hn, by omega, hn, by omega, by omega, d3, Or.inr ⟨rfl, d2⟩⟩⟩
    · exact ⟨0, fun h => absurd h hi⟩
  obtain ⟨E, hE⟩ := Classical.axiomOfChoice hx
  have hs := EdS_le (E := E) nf (fun i hi => (hE i hi).2.2.2.2.1)
  obtain ⟨w1, w2⟩ := wa_4 (R := R) (Fa := Fa) (E := E) (p := p) (nf := nf) (fun i hi => ⟨(hE i hi).1, (hE i hi).2.1, (hE i hi).2.2.2.2.2.2⟩) nf 0 (by omega) (fun j hj => by omega)
  have e0 : nI (EdS E 0) = nI 0 := rfl
  rw [e0] at w1 w2
  refine ⟨?_, fun x y z i hi => ⟨(hE i hi).2.2.1, (hE i hi).2.2.2.1, trivial⟩, EdS E nf, by omega, fun x y z => me_53 x y z nf (fun i hi => (hE i hi).2.2.2.2.2.1), ?_⟩
  · simp only [w_walkOfAll_ok]
    refine ⟨w1, ?_⟩
    split <;> trivial
  · rcases w2 with ⟨w2, w3⟩ | ⟨w2, j, hj, ej⟩
    · left
      have := EdS_lt nf w3
      exact ⟨by omega, by simp only [w_walkOfAll, w2]⟩
    · right
      have := EdS_ge (E := E) nf j hj
      exact ⟨by omega, by simp only [w_walkOfAll, w2]⟩
theorem me_lp {np nt nf : Nat} {R N Fa Fo : Nat → Int32} (hD : DR np nt nf R N) (hF : FR np Fa Fo) (h8 : np ≤ 8 ∧ nf ≤ 6) (x : Int32) : ∀ k i (s1 s2 s3 : Int32), i + k = np → ((s1 = -1 ∧ s2 = nI 1000000 ∧ s3 = nI 9999) ∨ (∃ p d, p < np ∧ d ≤ 5994 ∧ s1 = nI p ∧ s2 = nI d ∧ s3 = nI d ∧ w_walkOfAll Fa R nf p = nI d)) →
    w_meetingPlace_7_ok Fa R nf k i s1 s2 ∧ k_meet_31_ok N Fo nf x k i s1 s3 ∧ ((w_meetingPlace_7 Fa R nf k i s1 s2 = (-1, nI 1000000) ∧ k_meet_31 N Fo nf x k i s1 s3 = (-1, nI 9999)) ∨ (∃ p d, p < np ∧ d ≤ 5994 ∧ w_meetingPlace_7 Fa R nf k i s1 s2 = (nI p, nI d) ∧ k_meet_31 N Fo nf x k i s1 s3 = (nI p, nI d) ∧ w_walkOfAll Fa R nf p = nI d))
  | 0, i, s1, s2, s3, _, h => by
    refine ⟨trivial, trivial, ?_⟩
    rcases h with ⟨rfl, rfl, rfl⟩ | ⟨p, d, h1, h2, rfl, rfl, rfl, h3⟩
    · exact Or.inl ⟨rfl, rfl⟩
    · exact Or.inr ⟨p, d, h1, h2, rfl, rfl, h3⟩
  | k + 1, i, s1, s2, s3, hi, h => by
    simp only [w_meetingPlace_7_ok, w_meetingPlace_7, k_meet_31_ok, k_meet_31]
    by_cases c0 : nI nf ≤ 0
    · simp only [if_pos c0, true_and]
      rcases h with ⟨rfl, rfl, rfl⟩ | ⟨p, d, h1, h2, rfl, rfl, rfl, h3⟩
      · exact Or.inl ⟨rfl, rfl⟩
      · exact Or.inr ⟨p, d, h1, h2, rfl, rfl, h3⟩
    · obtain ⟨m1, m2, s, hs, m3, m4⟩ := me_p hD hF h8 (show i < np by omega)
      simp only [if_neg c0, m1, true_and, m3]
      have hk9 : ∀ j, j < nf → k_meet_53_ok N Fo x s1 s3 i j := fun j hj => m2 x s1 s3 j hj
      rcases m4 with ⟨g1, g2⟩ | ⟨g1, g2⟩
      · have gn : ¬ nI s = -1 := pu_nm (by omega)
        rw [g2, if_neg gn, if_neg gn]
        rcases h with ⟨rfl, rfl, rfl⟩ | ⟨p, d, h1, h2, rfl, rfl, rfl, h3⟩
        · have f1 : ¬ nI 1000000 ≤ nI s := fun z => by have := (pu_lei (by omega) (by omega)).mp z; omega
          have f2 : nI s < nI 9999 := (pu_lti (by omega) (by omega)).mpr (by omega)
          simp only [if_neg f1, if_pos f2]
          obtain ⟨i1, i2, i3⟩ := me_lp hD hF h8 x k (i + 1) (nI i) (nI s) (nI s) (by omega) (Or.inr ⟨i, s, by omega, g1, rfl, rfl, rfl, g2⟩)
          exact ⟨i1, ⟨hk9, i2⟩, i3⟩
        · by_cases c : s < d
          · have f1 : ¬ nI d ≤ nI s := fun z => by have := (pu_lei (by omega) (by omega)).mp z; omega
            have f2 : nI s < nI d := (pu_lti (by omega) (by omega)).mpr c
            simp only [if_neg f1, if_pos f2]
            obtain ⟨i1, i2, i3⟩ := me_lp hD hF h8 x k (i + 1) (nI i) (nI s) (nI s) (by omega) (Or.inr ⟨i, s, by omega, g1, rfl, rfl, rfl, g2⟩)
            exact ⟨i1, ⟨hk9, i2⟩, i3⟩
          · have f1 : nI d ≤ nI s := (pu_lei (by omega) (by omega)).mpr (by omega)
            have f2 : ¬ nI s < nI d := fun z => c ((pu_lti (by omega) (by omega)).mp z)
            simp only [if_pos f1, if_neg f2]
            obtain ⟨i1, i2, i3⟩ := me_lp hD hF h8 x k (i + 1) (nI p) (nI d) (nI d) (by omega) (Or.inr ⟨p, d, h1, h2, rfl, rfl, rfl, h3⟩)
            exact ⟨i1, ⟨hk9, i2⟩, i3⟩
      · have hlt : ¬ nI s < s3 := by
          rcases h with ⟨rfl, rfl, rfl⟩ | ⟨p, d, h1, h2, rfl, rfl, rfl, h3⟩
          · exact fun z => by have := (pu_lti (by omega) (by omega)).mp z; omega
          · exact fun z => by have := (pu_lti (by omega) (by omega)).mp z; omega
        rw [g2]
        simp only [↓reduceIte, if_neg hlt]
        obtain ⟨i1, i2, i3⟩ := me_lp hD hF h8 x k (i + 1) s1 s2 s3 (by omega) h
        exact ⟨i1, ⟨hk9, i2⟩, i3⟩
/-! what can still be walked to -/
theorem re_eq {np nt nf : Nat} {R S Fa Fo : Nat → Int32} (hD : DR np nt nf R S) (hF : FR np Fa Fo) (h8 : np ≤ 8 ∧ nf ≤ 6) (h10 : nt ≤ 10) {a : Nat} (ha : a < nf) : k_reach_24 S Fo nt (nI a) np = w_inReach_4 Fa R a nt ∧ ∀ i, i < np → k_reach_24_ok S Fo nt (nI a) i := by
  obtain ⟨h8', h6⟩ := id h8
  have ia : ix (nI a) = a := pu_ix (by omega)
  have ya : isN (nI a) := pu_isN (by omega)
  obtain ⟨sp, hsp, esp⟩ := hD.2.2.1 a ha
  have e20 : S (20 + a) = nI sp := (hD.2.1 a ha).1.trans esp
  obtain ⟨w, hw, ew⟩ := (hD.2.2.2.2.2 a ha).2.2
  have e32 : S (32 + a) = nI w := (hD.2.1 a ha).2.2.1.trans ew
  have isp : ix (nI sp) = sp := pu_ix (by omega)
  refine ⟨?_, fun i hi => ⟨ya, by rw [ia]; omega, by rw [ia, e20]; exact pu_isN (by omega), by rw [ia, e20, isp]; omega, by rw [ia]; omega, trivial⟩⟩
  have hcls : ∀ n, n ≤ nt → w_inReach_4 Fa R a n = nI (bsc (fun t => ∃ d, w_wayTo Fa R a t = nI d ∧ d < 1000 ∧ w + d ≤ 24) n) := by
    intro n
    induction n with
    | zero => intro _; rfl
    | succ n ih =>
      intro hn
      have hlt := bsc_lt (fun t => ∃ d, w_wayTo Fa R a t = nI d ∧ d < 1000 ∧ w + d ≤ 24) n
      simp only [w_inReach_4, ih (by omega), ew]
      obtain ⟨-, -, -, -, hc⟩ := wy_cases hD hF h8 ha (show n < nt by omega)
      rcases hc with ⟨d, hd, g1, -, -⟩ | ⟨g1, -⟩
      · have gn : ¬ nI d = -1 := pu_nm (by omega)
        rw [g1, if_neg gn, nI_add]
        by_cases c : w + d ≤ 24
        · rw [if_neg (fun z => by have := (pu_lti (by omega) (by omega)).mp z; omega), pu_orb (by omega) hlt, bsc_t (P := fun t => ∃ d, w_wayTo Fa R a t = nI d ∧ d < 1000 ∧ w + d ≤ 24) ⟨d, g1, hd, c⟩]
        · rw [if_pos ((pu_lti (by omega) (by omega)).mpr (by omega)), bsc_f (P := fun t => ∃ d, w_wayTo Fa R a t = nI d ∧ d < 1000 ∧ w + d ≤ 24)]
          rintro ⟨d', h1, h2, h3⟩
          have := pu_inj (by omega) (by omega) (g1.symm.trans h1)
          omega
      · rw [g1, if_pos rfl, bsc_f (P := fun t => ∃ d, w_wayTo Fa R a t = nI d ∧ d < 1000 ∧ w + d ≤ 24)]
        rintro ⟨d', h1, h2, h3⟩
        exact pu_nm (by omega) (h1.symm.trans g1)
  have hmod : ∀ n, n ≤ np → k_reach_24 S Fo nt (nI a) n = nI (bsc (fun t => ∃ p, p < n ∧ R (31 + t) = nI p ∧ ∃ d, Fo (8 * sp + p) = nI d ∧ d < 1000 ∧ w + d ≤ 24) nt) := by
    intro n
    induction n with
    | zero =>
      intro _
      show nI 0 = _
      rw [(bsc_0 _ nt).mpr (fun i _ => by rintro ⟨p, hp, -⟩; omega)]
    | succ n ih =>
      intro hn
      have hl : k_lyingAt S nt (nI n) = nI (bsc (fun t => R (31 + t) = nI n) nt) := by
        rw [show k_lyingAt S nt (nI n) = d_lyingAt R nt (nI n) from la_eq hD (by omega) h6 nt (Nat.le_refl _), show d_lyingAt R nt (nI n) = nI (bsn (fun t => R (31 + t) = nI n) nt) from ly_bs R (nI n) nt (by omega), bsc_eq]
      simp only [k_reach_24, ih (by omega), ia, e20, e32, isp, hl]
      have hmain : ∀ (good : Prop), ((∃ d, Fo (8 * sp + n) = nI d ∧ d < 1000 ∧ w + d ≤ 24) ↔ good) → (nI 24 - nI w < Fo (8 * sp + n) ↔ ¬ good) := by
        intro good hg
        have hsub : (nI 24 - nI w).toInt = 24 - w := pk_sub_toInt (by omega) (by omega)
        rw [pu_lt, hsub, ← hg]
        rcases fr_cases hF hsp (show n < np by omega) with ⟨d, d1, -, d3⟩ | ⟨-, d3⟩
        · rw [d3, pu_nI (by omega)]
          refine ⟨fun z => ?_, fun z => ?_⟩
          · rintro ⟨d', h1, h2, h3⟩
            have := pu_inj (by omega) (by omega) h1
            omega
          · by_cases c : w + d ≤ 24
            · exact absurd ⟨d, rfl, d1, c⟩ z
            · omega
        · rw [d3, pu_nI (by omega)]
          refine ⟨fun _ => ?_, fun _ => by omega⟩
          rintro ⟨d', h1, h2, h3⟩
          have := pu_inj (by omega) (by omega) h1
          omega
      by_cases c : ∃ d, Fo (8 * sp + n) = nI d ∧ d < 1000 ∧ w + d ≤ 24
      · rw [if_neg (fun z => ((hmain _ Iff.rfl).mp z) c), bsc_or (by omega)]
        congr 1
        refine bsc_congr nt (fun t _ => ⟨?_, ?_⟩)
        · rintro (⟨p, hp, h1, h2⟩ | h1)
          · exact ⟨p, by omega, h1, h2⟩
          · exact ⟨n, by omega, h1, c⟩
        · rintro ⟨p, hp, h1, h2⟩
          by_cases e : p = n
          · subst e; exact Or.inr h1
          · exact Or.inl ⟨p, by omega, h1, h2⟩
      · rw [if_pos ((hmain _ Iff.rfl).mpr c)]
        congr 1
        refine bsc_congr nt (fun t _ => ⟨?_, ?_⟩)
        · rintro ⟨p, hp, h1, h2⟩
          exact ⟨p, by omega, h1, h2⟩
        · rintro ⟨p, hp, h1, h2⟩
          by_cases e : p = n
          · subst e; exact absurd h2 c
          · exact ⟨p, by omega, h1, h2⟩
  rw [hmod np (Nat.le_refl _), hcls nt (Nat.le_refl _)]
  congr 1
  refine bsc_congr nt (fun t ht => ?_)
  simp only [w_wayTo, esp, isp]
  rcases hD.2.2.2.2.1 t ht with ⟨g1, g2, q, hq, eq⟩ | ⟨b, hb, g1, g2, g3⟩
  · have gn : ¬ nI q = -1 := pu_nm (by omega)
    rw [eq, if_neg gn, pu_ix (show q < 2147483648 by omega)]
    rcases fr_cases hF hsp hq with ⟨d, d1, d2, d3⟩ | ⟨d2, d3⟩
    · refine ⟨?_, ?_⟩
      · rintro ⟨p, hp, h1, d', h2, h3, h4⟩
        have e := pu_inj (by omega) (by omega) h1
        subst e
        have := pu_inj (by omega) (by omega) (d3.symm.trans h2)
        exact ⟨d, d2, d1, by omega⟩
      · rintro ⟨d', h2, h3, h4⟩
        have := pu_inj (by omega) (by omega) (d2.symm.trans h2)
        exact ⟨q, hq, rfl, d, d3, d1, by omega⟩
    · refine ⟨?_, ?_⟩
      · rintro ⟨p, hp, h1, d', h2, h3, h4⟩
        have e := pu_inj (by omega) (by omega) h1
        subst e
        have := pu_inj (by omega) (by omega) (d3.symm.trans h2)
        omega
      · rintro ⟨d', h2, h3, h4⟩
        exact absurd (h2.symm.trans d2) (pu_nm (by omega))
  · rw [g2, if_pos rfl]
    refine ⟨?_, ?_⟩
    · rintro ⟨p, hp, h1, -⟩
      exact absurd h1.symm (pu_nm (by omega))
    · rintro ⟨d', h2, h3, h4⟩
      exact absurd h2.symm (pu_nm (by omega))
