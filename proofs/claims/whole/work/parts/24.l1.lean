/-! a law's text: pieces -/
theorem un_c {f : FnA} {g : GnA} {B : Nat → Int32} {n : Nat} (hn : n ≤ 600) : Pc B n (l_readUnit f) (l_readUnit_ok f g) := by
  intro q lw C x kd pl h hc
  obtain ⟨a1, a2, a3⟩ := h.nx (B := B) hn
  rcases x1 : t_next q B with ⟨v, q1⟩
  rw [x1] at a2 a3
  simp only at a2 a3
  subst a2
  obtain ⟨b1, b2, b3⟩ := a3.w_s2 (B := B) hn
  rcases x2 : t_word_s2 q1 B with ⟨w, q2⟩
  rw [x2] at b2 b3
  simp only at b2 b3
  subst b3
  simp only [l_readUnit_ok, l_readUnit, a1, x1, if_neg (show ¬ (-1 : Int32) = nI 40 by decide), if_pos (show t_isDigit (-1) = 0 by decide), b1, x2, if_pos (show (-1 : Int32) < nI 8 by decide), ↓reduceIte, true_and]
  exact ⟨q2, lw, C, rfl, b2, hc⟩
theorem un_m {f : FnB} {g : GnB} {T : Nat → Int32} {n : Nat} : Pm T n (k_readUnit f) (k_readUnit_ok f g) := by
  intro m O V kd pl h
  simp only [k_readUnit_ok, k_readUnit, k_fine_f h.2.1 h.2.2.2.1, if_pos pu_n01, true_and]
  exact ⟨m, O, V, rfl, h, Fl.rf m⟩
/-- least, most -/
theorem un_two {f : FnA} {g : GnA} {f' : FnB} {g' : GnB} {B T q m lw C O V : Nat → Int32} {n o s len c e : Nat} (hn : n ≤ 150) (hB : BY B T) (ho : o ≤ 6) (hR : o < 6 → FP B T n (o + 1) f g f' g') (hP : Pm T n f' g')
    (hq : TS q n (s + len)) (hq4 : q 4 = nI s) (hm : MS m n s) (h7 : m 7 = nI o) (hL : LI c lw C m O V) (hce : c + e ≤ s) (hl : 1 ≤ len) {x y : Int32} (hx : opr (nI 2000 + x) y) :
    l_readPair_ok f g q B lw C (nI o) x ∧ k_readTwo_ok f' g' m T O V (nI len) y ∧ ∃ q' lw' C' m' O' V', l_readPair f q B lw C (nI o) x = (0, q', lw', C') ∧ k_readTwo f' m T O V (nI len) y = (0, m', O', V') ∧ Fl m m' ∧ ST n o e (dp C c + 1) (s + 1) q' m' lw' C' O' V' := by
  by_cases h6 : o < 6
  · have f1 : nI o < nI 6 := (pu_lti (by omega) (by omega)).mpr h6
    have f2 : ¬ nI o = nI 6 := fun h => by have := pu_inj (by omega) (by omega) h; omega
    have hR' := hR h6
    have hon : k_opensOne m (nI len) = (0, upd (upd m 4 (nI (s + len))) 7 (nI (o + 1))) := by
      simp only [k_opensOne, hm.fi, if_neg pu_n10, h7, if_neg f2, hm.2.1, nI_add]
    have S0 : ST n (o + 1) (e + 1) (dp C c) (s + len) q (upd (upd m 4 (nI (s + len))) 7 (nI (o + 1))) lw C O V := by
      refine Or.inl ⟨s + len, c, Nat.le_refl _, hq, (hm.u4 hq.2.2.2.2.2).u (by decide) (by decide) (by decide), pk_us, hL.mv ?_, rfl, by omega⟩
      rw [pk_un (by decide), pk_un (by decide)]
    have F0 : Fl m (upd (upd m 4 (nI (s + len))) 7 (nI (o + 1))) := (Fl.u4 _ _).tr (Fl.u7 _ _)
    simp only [l_readPair_ok, l_readPair, k_readTwo_ok, k_readTwo, if_pos f1, hon, pu_p1, true_and]
    generalize upd (upd m 4 (nI (s + len))) 7 (nI (o + 1)) = m0 at *
    obtain ⟨a1, a2, q1, m1, a3, a4, F1, S1⟩ := S0.sg (T := T) (by omega) hB (x := nI 91) (by decide) (by decide)
    obtain ⟨b1, b2, q2, lw2, C2, m2, O2, V2, b3, b4, F2, S2⟩ := hR'.st S1
    obtain ⟨d1, d2, q3, m3, d3, d4, F3, S3⟩ := S2.sg (T := T) (by omega) hB (x := nI 44) (by decide) (by decide)
    obtain ⟨e1, e2, q4, lw4, C4, m4, O4, V4, e3, e4, F4, S4⟩ := hR'.st S3
    obtain ⟨g1, g2, q5, m5, g3, g4, F5, S5⟩ := S4.sg (T := T) (by omega) hB (x := nI 93) (by decide) (by decide)
    obtain ⟨i1, i2, lw6, C6, m6, O6, V6, i3, i4, F6, S6⟩ := (S5.u7).put hn (x := nI 2000 + x) (y := y) (v := nI 0) hx
    simp only [a1, a2, a3, a4, b1, b2, b3, b4, d1, d2, d3, d4, e1, e2, e3, e4, g1, g2, g3, g4, i1, i2, i3, i4, true_and]
    refine ⟨q5, lw6, C6, m6, O6, V6, rfl, rfl, (((((F0.tr F1).tr F2).tr F3).tr F4).tr F5).tr ((Fl.u7 _ _).tr F6), ?_⟩
    rcases S6 with ⟨a', c', k1, k2⟩ | S6
    · exact Or.inl ⟨a', c', by omega, k2⟩
    · exact Or.inr S6
  · have ho6 : o = 6 := by omega
    subst ho6
    have f1 : ¬ nI 6 < nI 6 := fun h => by have := (pu_lti (by omega) (by omega)).mp h; omega
    have hsn := hm.2.2.2
    obtain ⟨hT, -⟩ := TF.of (kd := 3) (s := s) hq.1 hq.2.1 hq.2.2.2.1 hq.2.2.2.2.1 hq.2.2.2.2.2 ⟨by omega, by omega⟩
    obtain ⟨g1, g2⟩ := MF.of (kd := 3) (s := s) hm.1 hm.2.1 hm.2.2.1 hm.2.2.2 (by omega)
    rcases hf : t_fail q (nI 3) (nI s) with ⟨x9, q9⟩
    rcases hg : k_wrong m (nI 3) (nI s) with ⟨y9, m9⟩
    rw [hf] at hT
    rw [hg] at g1 g2
    simp only at hT g1 g2
    have hon : k_opensOne m (nI len) = (0, upd m9 7 (m9 7 + nI 1)) := by
      simp only [k_opensOne, hm.fi, if_neg pu_n10, h7, hm.2.1, ↓reduceIte, hg, k_fine_f g1.2.1 g1.2.2.2.1, if_pos pu_n01]
    have M0 : MF (upd m9 7 (m9 7 + nI 1)) n 3 s := g1.u (by decide) (by decide) (by decide) (by decide)
    have F0 : Fl m (upd m9 7 (m9 7 + nI 1)) := (Fl.of g2).tr (Fl.u7 _ _)
    simp only [l_readPair_ok, l_readPair, k_readTwo_ok, k_readTwo, if_neg f1, hq4, hf, hon, true_and]
    generalize upd m9 7 (m9 7 + nI 1) = m0 at *
    obtain ⟨a1, a2⟩ := M0.sg (T := T) (nI 91)
    obtain ⟨m1, a3⟩ := ksign0 m0 T (nI 91)
    rw [a3] at a2
    have a2' := a2.symm
    simp only at a2'
    subst a2'
    obtain ⟨b1, m2, O2, V2, b2, b3, F2⟩ := hP m0 O V 3 s M0
    obtain ⟨d1, d2⟩ := b3.sg (T := T) (nI 44)
    obtain ⟨m3, d3⟩ := ksign0 m2 T (nI 44)
    rw [d3] at d2
    have d2' := d2.symm
    simp only at d2'
    subst d2'
    obtain ⟨e1, m4, O4, V4, e2, e3, F4⟩ := hP m2 O2 V2 3 s b3
    obtain ⟨i1, i2⟩ := e3.sg (T := T) (nI 93)
    obtain ⟨m5, i3⟩ := ksign0 m4 T (nI 93)
    rw [i3] at i2
    have i2' := i2.symm
    simp only at i2'
    subst i2'
    have hbd : Bd q9 (upd m4 7 (m4 7 - nI 1)) n := ⟨3, s, hT, e3.u (by decide) (by decide) (by decide) (by decide)⟩
    obtain ⟨j1, j2⟩ := hbd.em (O := O4) (V := V4) y (nI 0)
    simp only [a1, a3, b1, b2, d1, d3, e1, e2, i1, i3, j1, j2, true_and]
    exact ⟨q9, lw, C, _, O4, V4, rfl, rfl, ((F0.tr F2).tr F4).tr (Fl.u7 _ _), Or.inr ⟨hbd, hL.cb (by omega)⟩⟩
theorem oc2_lt {k : Nat} (hk : k < 8) : ¬ oc_s2 k = k_of_s10 ∧ ¬ oc_s2 k = k_of_s11 := by
  have hc : k = 0 ∨ k = 1 ∨ k = 2 ∨ k = 3 ∨ k = 4 ∨ k = 5 ∨ k = 6 ∨ k = 7 := by omega
  rcases hc with rfl | rfl | rfl | rfl | rfl | rfl | rfl | rfl
  · exact ⟨of_n12_10, of_n12_11⟩
  · exact ⟨of_n13_10, of_n13_11⟩
  · exact ⟨of_n14_10, of_n14_11⟩
  · exact ⟨of_n15_10, of_n15_11⟩
  · exact ⟨of_n16_10, of_n16_11⟩
  · exact ⟨of_n17_10, of_n17_11⟩
  · exact ⟨of_n18_10, of_n18_11⟩
  · exact ⟨of_n8_10, of_n8_11⟩
theorem fact_k {m T m' : Nat → Int32} {k : Nat} (hk : k < 8) (h : k_word m T = (oc_s2 k, m')) : k_factHere m T = (nI k, m') := by
  have hc : k = 0 ∨ k = 1 ∨ k = 2 ∨ k = 3 ∨ k = 4 ∨ k = 5 ∨ k = 6 ∨ k = 7 := by omega
  rcases hc with rfl | rfl | rfl | rfl | rfl | rfl | rfl | rfl
  · simp only [k_factHere, h, oc_s2, ↓reduceIte]
  · simp only [k_factHere, h, oc_s2, ↓reduceIte, if_neg of_n13_12]
  · simp only [k_factHere, h, oc_s2, ↓reduceIte, if_neg of_n14_12, if_neg of_n14_13]
  · simp only [k_factHere, h, oc_s2, ↓reduceIte, if_neg of_n15_12, if_neg of_n15_13, if_neg of_n15_14]
  · simp only [k_factHere, h, oc_s2, ↓reduceIte, if_neg of_n16_12, if_neg of_n16_13, if_neg of_n16_14, if_neg of_n16_15]
  · simp only [k_factHere, h, oc_s2, ↓reduceIte, if_neg of_n17_12, if_neg of_n17_13, if_neg of_n17_14, if_neg of_n17_15, if_neg of_n17_16]
  · simp only [k_factHere, h, oc_s2, ↓reduceIte, if_neg of_n18_12, if_neg of_n18_13, if_neg of_n18_14, if_neg of_n18_15, if_neg of_n18_16, if_neg of_n18_17]
  · simp only [k_factHere, h, oc_s2, ↓reduceIte, if_neg of_n8_12, if_neg of_n8_13, if_neg of_n8_14, if_neg of_n8_15, if_neg of_n8_16, if_neg of_n8_17, if_neg of_n8_18]
theorem fact_n {m T m' : Nat → Int32} {w : Int32} (hw : ∀ k, k < 10 → ¬ w = oc_s2 k) (h : k_word m T = (w, m')) : k_factHere m T = (-1, m') ∧ ¬ w = k_of_s10 ∧ ¬ w = k_of_s11 := by
  have h0 : ¬ w = k_of_s12 := hw 0 (by omega)
  have h1 : ¬ w = k_of_s13 := hw 1 (by omega)
  have h2 : ¬ w = k_of_s14 := hw 2 (by omega)
  have h3 : ¬ w = k_of_s15 := hw 3 (by omega)
  have h4 : ¬ w = k_of_s16 := hw 4 (by omega)
  have h5 : ¬ w = k_of_s17 := hw 5 (by omega)
  have h6 : ¬ w = k_of_s18 := hw 6 (by omega)
  have h7 : ¬ w = k_of_s8 := hw 7 (by omega)
  refine ⟨?_, hw 8 (by omega), hw 9 (by omega)⟩
  simp only [k_factHere, h, if_neg h0, if_neg h1, if_neg h2, if_neg h3, if_neg h4, if_neg h5, if_neg h6, if_neg h7]
theorem un_a {f : FnA} {g : GnA} {f' : FnB} {g' : GnB} {B T : Nat → Int32} {n o : Nat} (hn : n ≤ 150) (hB : BY B T) (ho : o ≤ 6) (hR : o < 6 → FP B T n (o + 1) f g f' g') (hP : Pm T n f' g') : PA B T n o (l_readUnit f) (l_readUnit_ok f g) (k_readUnit f') (k_readUnit_ok f' g') := by
  intro q m lw C O V a c e hq hm h7 hL hce
  obtain ⟨n1, n2, q1, v, w, s, x1, x2, x3, x4, es, has, hsn, hss, Q1, M1, q14, hv⟩ := gd_next (T := T) (by omega) hB hq hm
  have L1 : LI c lw C (upd m 4 (nI s)) O V := hL.mv (pk_un (by decide))
  have g7 : upd m 4 (nI s) 7 = nI o := by rw [pk_un (by decide)]; exact h7
  have F1 : Fl m (upd m 4 (nI s)) := Fl.u4 _ _
  simp only [l_readUnit_ok, l_readUnit, k_readUnit_ok, k_readUnit, hm.fi, if_neg pu_n10, n1, n2, x1, x2, x3, x4, true_and]
  generalize upd m 4 (nI s) = m1 at *
  clear es x1 x2 x4
  by_cases c40 : v = nI 40
  · have hw : w = nI 40 ∧ s < n ∧ B s = nI 40 := by
      rcases hv with ⟨h1, h2, h3, -⟩ | ⟨h1, h2, h3⟩
      · exact ⟨by rw [h3, ← h2]; exact c40, h1, by rw [← h2]; exact c40⟩
      · rw [h2] at c40; exact absurd c40 (by decide)
    obtain ⟨hw, hl, hBs⟩ := hw
    subst hw c40
    simp only [↓reduceIte, l_readBracket_ok, l_readBracket]
    by_cases h6 : o < 6
    · have f1 : nI o < nI 6 := (pu_lti (by omega) (by omega)).mpr h6
      have f2 : ¬ nI o = nI 6 := fun h => by have := pu_inj (by omega) (by omega) h; omega
      obtain ⟨a1, q2, a2, Q2⟩ := ts_at (by omega) Q1 hss hl (by omega) hBs
      have hon : k_opensOne m1 (nI 1) = (0, upd (upd m1 4 (nI (s + 1))) 7 (nI (o + 1))) := by
        simp only [k_opensOne, M1.fi, if_neg pu_n10, g7, if_neg f2, M1.2.1, nI_add]
      have S0 : ST n (o + 1) e (dp C c) (s + 1) q2 (upd (upd m1 4 (nI (s + 1))) 7 (nI (o + 1))) lw C O V := by
        refine Or.inl ⟨s + 1, c, Nat.le_refl _, Q2, (M1.u4 (by omega)).u (by decide) (by decide) (by decide), pk_us, L1.mv ?_, rfl, by omega⟩
        rw [pk_un (by decide), pk_un (by decide)]
      have F2 : Fl m (upd (upd m1 4 (nI (s + 1))) 7 (nI (o + 1))) := F1.tr ((Fl.u4 _ _).tr (Fl.u7 _ _))
      simp only [if_pos f1, hon, pu_p1, a1, a2, true_and]
      generalize upd (upd m1 4 (nI (s + 1))) 7 (nI (o + 1)) = m2 at *
      obtain ⟨b1, b2, q3, lw3, C3, m3, O3, V3, b3, b4, F3, S3⟩ := (hR h6).st S0
      obtain ⟨d1, d2, q4, m4, d3, d4, F4, S4⟩ := S3.sg (T := T) (by omega) hB (x := nI 41) (by decide) (by decide)
      simp only [b1, b2, b3, b4, d1, d2, d3, d4, true_and, and_true]
      refine ⟨q4, lw3, C3, _, O3, V3, rfl, rfl, ((F2.tr F3).tr F4).tr (Fl.u7 _ _), ?_⟩
      rcases S4.u7 with ⟨a', c', k1, k2⟩ | S6
      · exact Or.inl ⟨a', c', by omega, k2⟩
      · exact Or.inr S6
    · have ho6 : o = 6 := by omega
      subst ho6
      have f1 : ¬ nI 6 < nI 6 := fun h => by have := (pu_lti (by omega) (by omega)).mp h; omega
      obtain ⟨hT, -⟩ := TF.of (kd := 3) (s := s) Q1.1 Q1.2.1 Q1.2.2.2.1 Q1.2.2.2.2.1 Q1.2.2.2.2.2 ⟨by omega, by omega⟩
      obtain ⟨g1, g2⟩ := MF.of (kd := 3) (s := s) M1.1 M1.2.1 M1.2.2.1 M1.2.2.2 (by omega)
      rcases hf : t_fail q1 (nI 3) (nI s) with ⟨x9, q9⟩
      rcases hg : k_wrong m1 (nI 3) (nI s) with ⟨y9, m9⟩
      rw [hf] at hT
      rw [hg] at g1 g2
      simp only at hT g1 g2
      have hon : k_opensOne m1 (nI 1) = (0, upd m9 7 (m9 7 + nI 1)) := by
        simp only [k_opensOne, M1.fi, if_neg pu_n10, g7, M1.2.1, ↓reduceIte, hg, k_fine_f g1.2.1 g1.2.2.2.1, if_pos pu_n01]
      have M0 : MF (upd m9 7 (m9 7 + nI 1)) n 3 s := g1.u (by decide) (by decide) (by decide) (by decide)
      have F0 : Fl m (upd m9 7 (m9 7 + nI 1)) := F1.tr ((Fl.of g2).tr (Fl.u7 _ _))
      simp only [if_neg f1, q14, hf, hon, true_and]
      generalize upd m9 7 (m9 7 + nI 1) = m0 at *
      obtain ⟨b1, m2, O2, V2, b2, b3, F2⟩ := hP m0 O V 3 s M0
      obtain ⟨d1, d2⟩ := b3.sg (T := T) (nI 41)
      obtain ⟨m3, d3⟩ := ksign0 m2 T (nI 41)
      rw [d3] at d2
      have d2' := d2.symm
      simp only at d2'
      subst d2'
      simp only [b1, b2, d1, d3, true_and, and_true]
      exact ⟨q9, lw, C, _, O2, V2, rfl, rfl, (F0.tr F2).tr (Fl.u7 _ _), Or.inr ⟨⟨3, s, hT, b3.u (by decide) (by decide) (by decide) (by decide)⟩, hL.cb (by omega)⟩⟩
  · have hw40 : ¬ w = nI 40 := by
      rcases hv with ⟨h1, h2, h3, -⟩ | ⟨h1, h2, h3⟩
      · rw [h3, ← h2]; exact c40
      · rw [h3]; decide
    have hdd : t_isDigit v = 0 ↔ k_isDigit w = 0 := by
      rw [kd_eq]
      rcases hv with ⟨h1, h2, h3, -⟩ | ⟨h1, h2, h3⟩
      · rw [h2, h3]
      · rw [h2, h3]
        exact ⟨fun _ => by decide, fun _ => by decide⟩
    by_cases hd : t_isDigit v = 0
    · obtain ⟨w1, w2, w3⟩ := rd_s2 (by omega) hB Q1 M1
      obtain ⟨y1, y2, y4⟩ := kword (by omega) hB M1
      rw [hss] at w2 w3 y2 y4
      rw [show upd m1 4 (nI s) = m1 from by rw [← M1.2.1]; exact upd_self m1 4] at y2
      have hle := le_le (B := B) hsn
      have hge := le_ge B n s
      simp only [if_neg c40, if_neg hw40, if_pos hd, if_pos (hdd.mp hd), x3, w1, y1, true_and]
      rcases z1 : t_word_s2 q1 B with ⟨v14, q2⟩
      rcases z2 : k_word m1 T with ⟨wd, m2⟩
      simp only [z1, z2] at w2 w3 y2 y4
      have y3 := y2.symm
      subst y3
      rcases w3 with ⟨k0, hk0, e1, e2, T2, he⟩ | ⟨e1, e2, T2⟩
      · by_cases h8 : k0 < 8
        · subst e1 e2
          have f1 : nI k0 < nI 8 := (pu_lti (by omega) (by omega)).mpr h8
          have f2 : ¬ nI k0 = -1 := pu_nm (by omega)
          obtain ⟨p1, p2⟩ := kpass (by omega) hB FU s m1 M1.1 M1.2.1 hsn (by rw [FU_eq]; omega)
          have M2 := M1.u4 (s := le' B n s) hle
          have L2 : LI c lw C (upd m1 4 (nI (le' B n s))) O V := L1.mv (pk_un (by decide))
          obtain ⟨i1, i2, i3, i4, i5, i6⟩ := L2.put (x := nI (1000 + k0)) (o := nI 1) (v := nI k0) M2 (by omega) (Or.inr (Or.inl ⟨k0, h8, rfl, rfl, rfl⟩)) (fun h => by rw [pu_lei (by omega) (by omega)] at h; omega)
          simp only [if_pos f1, if_neg f2, if_neg (oc2_lt h8).1, if_neg (oc2_lt h8).2, z2, y1, k_factHere_ok, fact_k h8 z2, M1.fi, if_neg pu_n10, k_pass_ok, k_pass, p1, p2, nI_add, i1, i2, i3, i4, true_and, and_true]
          refine ⟨q2, _, _, _, _, _, rfl, rfl, F1.tr ((Fl.u4 _ _).tr (Fl.u29 _ _)), Or.inl ⟨le' B n s, c + 1, by omega, T2, M2.u (by decide) (by decide) (by decide), ?_, i5, ?_, by omega⟩⟩
          · rw [pk_un (by decide), pk_un (by decide)]; exact g7
          · rw [i6, if_pos ((pu_lti (by omega) (by omega)).mpr (by omega))]
        · have hc : k0 = 8 ∨ k0 = 9 := by omega
          have hL4 : ∀ j, s ≤ j → j < le' B n s → isL (B j) := fun j h1 h2 => le_in h1 h2
          rcases hc with rfl | rfl
          · have hlen := w_len (X := 10) (len := 5) hB (by omega) hge ⟨by omega, by omega⟩ hL4 ob_10 y4 (e2.trans of_10)
            rw [hlen] at T2
            subst e1
            have e2' : wd = k_of_s10 := e2
            subst e2'
            obtain ⟨i1, i2, q', lw', C', m', O', V', i3, i4, i5, i6⟩ := un_two (f := f) (g := g) (f' := f') (g' := g') (x := nI 60) (y := nI 6) hn hB ho hR hP T2 w2 M1 g7 L1 (show c + e ≤ s by omega) (by omega) (Or.inr (Or.inr (Or.inr (Or.inr (Or.inl ⟨by rw [nI_add], rfl⟩)))))
            simp only [if_neg (show ¬ nI 8 < nI 8 by decide), ↓reduceIte, i1, i2, i3, i4, true_and]
            refine ⟨q', lw', C', m', O', V', rfl, rfl, F1.tr i5, ?_⟩
            rcases i6 with ⟨a', c', k1, k2⟩ | i6
            · exact Or.inl ⟨a', c', by omega, k2⟩
            · exact Or.inr i6
          · have hlen := w_len (X := 11) (len := 4) hB (by omega) hge ⟨by omega, by omega⟩ hL4 ob_11 y4 (e2.trans of_11)
            rw [hlen] at T2
            subst e1
            have e2' : wd = k_of_s11 := e2
            subst e2'
            obtain ⟨i1, i2, q', lw', C', m', O', V', i3, i4, i5, i6⟩ := un_two (f := f) (g := g) (f' := f') (g' := g') (x := nI 62) (y := nI 7) hn hB ho hR hP T2 w2 M1 g7 L1 (show c + e ≤ s by omega) (by omega) (Or.inr (Or.inr (Or.inr (Or.inr (Or.inr (Or.inl ⟨by rw [nI_add], rfl⟩))))))
            simp only [if_neg (show ¬ nI 9 < nI 8 by decide), if_neg (show ¬ nI 9 = nI 8 by decide), if_neg of_n11_10, z2, y1, ↓reduceIte, i1, i2, i3, i4, true_and]
            refine ⟨q', lw', C', m', O', V', rfl, rfl, F1.tr i5, ?_⟩
            rcases i6 with ⟨a', c', k1, k2⟩ | i6
            · exact Or.inl ⟨a', c', by omega, k2⟩
            · exact Or.inr i6
      · subst e1
        obtain ⟨j1, j2, j3⟩ := fact_n e2 z2
        obtain ⟨g1, g2⟩ := MF.of (kd := 1) (s := s) M1.1 M1.2.1 M1.2.2.1 M1.2.2.2 (by omega)
        rcases hg : k_wrong m1 (nI 1) (nI s) with ⟨y9, m9⟩
        rw [hg] at g1 g2
        simp only at g1 g2
        simp only [if_pos (show (-1 : Int32) < nI 8 by decide), ↓reduceIte, if_neg j2, if_neg j3, z2, y1, k_factHere_ok, j1, M1.2.1, hg, k_fine_f g1.2.1 g1.2.2.2.1, if_pos pu_n01, true_and, and_true]
        exact ⟨q2, lw, C, m9, O, V, rfl, rfl, F1.tr (Fl.of g2), Or.inr ⟨⟨1, s, T2, g1⟩, hL.cb (by omega)⟩⟩
    · obtain ⟨i1, i2, i3, i4, i5⟩ := gd_num (lo := nI 0) (hi := nI 999) (by omega) hB Q1 M1 (lo_n (by omega)) (hi_n (by omega))
      simp only [if_neg c40, if_neg hw40, if_neg hd, if_neg (fun h => hd (hdd.mpr h)), x3, i1, i2, true_and]
      rcases z1 : t_number q1 B (nI 0) (nI 999) with ⟨v1, q2⟩
      rcases z2 : k_readNumber m1 T (nI 0) (nI 999) with ⟨w1, m2⟩
      simp only [z1, z2] at i3 i4 i5
      rcases i5 with ⟨x, a', hx, ha', e1, e2, e3, e4, T2, M2⟩ | hb
      · subst e1 e2
        have hx9 : x ≤ 999 := (pu_lei (by omega) (by omega)).mp e4
        have han := M2.2.2.2
        have L2 : LI c lw C m2 O V := L1.mv (i3 29 (by decide) (by decide) (by decide))
        obtain ⟨j1, j2, j3, j4, j5, j6⟩ := L2.put (x := nI x) (o := nI 0) (v := nI x) M2 (by omega) (Or.inl ⟨x, hx9, rfl, rfl, rfl⟩) (fun h => by rw [pu_lei (by omega) (by omega)] at h; omega)
        simp only [j1, j2, j3, j4, true_and, and_true]
        refine ⟨q2, _, _, _, _, _, rfl, rfl, F1.tr ((Fl.of i3).tr (Fl.u29 _ _)), Or.inl ⟨a', c + 1, by omega, T2, M2.u (by decide) (by decide) (by decide), ?_, j5, ?_, by omega⟩⟩
        · rw [pk_un (by decide), i3 7 (by decide) (by decide) (by decide)]; exact g7
        · rw [j6, if_pos ((pu_lti (by omega) (by omega)).mpr (by omega))]
      · obtain ⟨j1, lw', C', j2, j3⟩ := (hL.cb (by omega)).put (C := C) v1
        obtain ⟨j4, j5⟩ := hb.em (O := O) (V := V) (nI 0) w1
        simp only [j1, j2, j4, j5, true_and, and_true]
        exact ⟨q2, lw', C', m2, O, V, rfl, rfl, F1.tr (Fl.of i3), Or.inr ⟨hb, j3⟩⟩
