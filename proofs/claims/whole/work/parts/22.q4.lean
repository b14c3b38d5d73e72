/-! the clauses of a town -/
theorem cl_places {B T q m tw A Bb L W FL FH FS NR NH NF : Nat → Int32} {n a np nr nt nf : Nat} (hn : n ≤ 600) (hB : BY B T) (hq : TS q n a) (hm : MS m n a) (hN : NW np nr nt nf tw A Bb L W FL FH FS m NR NH NF) :
    v_readPlaces_ok q B tw ∧ k_readPlaces_ok m T ∧ Ft m (k_readPlaces m T).2 ∧
    ((∃ a' np', a < a' ∧ TS (v_readPlaces q B tw).2.1 n a' ∧ MS (k_readPlaces m T).2 n a' ∧ NW np' nr nt nf (v_readPlaces q B tw).2.2 A Bb L W FL FH FS (k_readPlaces m T).2 NR NH NF) ∨ Bd (v_readPlaces q B tw).2.1 (k_readPlaces m T).2 n) := by
  obtain ⟨hz, ⟨t0, t1, t2, t3⟩, ⟨m0, m1, m2, m3⟩, hR, hW, hL, hF⟩ := hN
  have ⟨z1, z2, z3, z4⟩ := hz
  have e8 : nI 8 - tw 0 = nI (8 - np) := by rw [t0, pk_sub z1]
  obtain ⟨o1, o2, fr1, tk1, hA⟩ := rd_num (lo := nI 1) (hi := nI (8 - np)) hn hB hq hm (lo_n (by omega)) (hi_n (by omega))
  obtain ⟨o3, o4, fr2, tk2, hC⟩ := rd_num (lo := nI 1) (hi := nI 8) hn hB hq hm (lo_n (by omega)) (hi_n (by omega))
  have hth := tn_hi (q := q) (B := B) (lo := nI 1) (hi := nI 8) (hi2 := nI (8 - np)) ((pu_lei (by omega) (by omega)).mpr (by omega))
  obtain ⟨hh1, hh2⟩ := khr hn hB hm.1 hm.2.1 hm.2.2.2
  obtain ⟨kh1, kh2⟩ := kn_here hn hB hm (nI 1) (nI 8)
  have hs := sk_le (B := B) hm.2.2.2
  have hsa := sk_ge B n a
  simp only [v_readPlaces_ok, v_readPlaces, k_readPlaces_ok, k_readPlaces, e8, hh1, hh2, kh1, kh2 o4, o1, true_and, pk_us]
  clear o1 o2 o3 o4 kh1 kh2 hh1 hh2
  generalize sk B n a = s at *
  rcases x1 : t_number q B (nI 1) (nI (8 - np)) with ⟨v1, q1⟩
  rcases x2 : t_number q B (nI 1) (nI 8) with ⟨v2, q2⟩
  rcases x3 : k_readNumber m T (nI 1) (nI 8) with ⟨w, m'⟩
  simp only [x1, x2, x3] at hA hC hth tk1 tk2 fr2
  have q16 : m' 16 = nI np := by rw [fr2 16 (by decide) (by decide) (by decide)]; exact m0
  rcases hA with ⟨v, a', hv, hsa', e1, e2, e3, e4, T1, M1⟩ | ⟨kd, v, T1, M1, hv, e1⟩
  · rcases hth with hth | ⟨h1, h2, h3⟩
    · obtain ⟨r1, r2⟩ := Prod.mk.inj hth
      subst r1 r2
      rcases hC with ⟨v', a2, hv', hs2, c1, c2, c3, c4, T2, M2⟩ | ⟨kd, v', T2, _, _, _⟩
      · have ev : v' = v := pu_inj (by omega) (by omega) (c1.symm.trans e1)
        subst ev
        have hle : v' ≤ 8 - np := (pu_lei (by omega) (by omega)).mp e4
        have esum : m' 16 + w = nI (np + v') := by rw [q16, c2, nI_add]
        simp only [T2.nf, M2.fi, ↓reduceIte, if_neg pu_n10, esum, if_pos ((pu_lei (show np + v' < 2147483648 by omega) (show 8 < 2147483648 by omega)).mpr (by omega))]
        refine ⟨(Ft.of fr2).tr (Ft.u _ ⟨by omega, by omega⟩), Or.inl ⟨a2, np + v', by omega, T2, M2.u (by decide) (by decide) (by decide), ⟨by omega, z2, z3, z4⟩, ⟨?_, ?_, ?_, ?_⟩, ⟨pk_us, ?_, ?_, ?_⟩, ?_, hW, ?_, ?_⟩⟩
        · rw [pk_us, t0, c1, nI_add]
        · rw [pk_un (by decide)]; exact t1
        · rw [pk_un (by decide)]; exact t2
        · rw [pk_un (by decide)]; exact t3
        · rw [pk_un (by decide), fr2 17 (by decide) (by decide) (by decide)]; exact m1
        · rw [pk_un (by decide), fr2 18 (by decide) (by decide) (by decide)]; exact m2
        · rw [pk_un (by decide), fr2 19 (by decide) (by decide) (by decide)]; exact m3
        · intro r hr
          obtain ⟨b1, b2, b3, x, y, l, b4, b5, b6⟩ := hR r hr
          exact ⟨b1, b2, b3, x, y, l, by omega, by omega, b6⟩
        · intro t ht
          rcases hL t ht with ⟨p, hp, b1⟩ | b1
          · exact Or.inl ⟨p, by omega, b1⟩
          · exact Or.inr b1
        · intro b hb
          obtain ⟨p, hp, b1⟩ := hF b hb
          exact ⟨p, by omega, b1⟩
      · exact absurd T1.2.1 T2.ne
    · exact absurd (by rw [h2, e1]; exact e4) h1
  · rcases hC with ⟨v', a2, hv', hs2, c1, c2, c3, c4, T2, M2⟩ | ⟨kd2, v', T2, M2, _, _⟩
    · rcases hth with hth | ⟨h1, h2, h3⟩
      · obtain ⟨r1, r2⟩ := Prod.mk.inj hth
        subst r1 r2
        exact absurd T2.2.1 T1.ne
      · have hT := (TF.of (kd := 2) (s := s) T2.1 T2.2.1 T2.2.2.2.1 T2.2.2.2.2.1 T2.2.2.2.2.2 ⟨by omega, by omega⟩).1
        rw [tk2] at h3
        rw [← h3] at hT
        obtain ⟨g1, g2⟩ := MF.of (kd := 2) (s := s) M2.1 M2.2.1 M2.2.2.1 M2.2.2.2 (by omega)
        have hgt : ¬ nI (np + v') ≤ nI 8 := by
          intro h
          have := (pu_lei (by omega) (by omega)).mp h
          exact h1 (by rw [c1]; exact (pu_lei (by omega) (by omega)).mpr (by omega))
        have esum : m' 16 + w = nI (np + v') := by rw [q16, c2, nI_add]
        rcases hg : k_wrong m' (nI 2) (nI s) with ⟨y9, m9⟩
        rw [hg] at g1 g2
        simp only at g1 g2
        have f9 := k_fine_f g1.2.1 g1.2.2.2.1
        simp only [if_neg hT.f, M2.fi, if_neg pu_n10, esum, if_neg hgt, hg, f9, if_pos pu_n01]
        exact ⟨Ft.of (fr2.tr g2), Or.inr ⟨2, s, hT, g1⟩⟩
    · have hk : Bd q1 m' n := by
        rcases hth with hth | ⟨h1, h2, h3⟩
        · obtain ⟨r1, r2⟩ := Prod.mk.inj hth
          subst r1 r2
          exact ⟨kd2, s, T2, M2⟩
        · rw [T2.fl] at h3
          subst h3
          exact ⟨kd2, s, T2, M2⟩
      simp only [if_neg hk.is, hk.fi, if_pos pu_n01]
      exact ⟨Ft.of fr2, Or.inr hk⟩
theorem cl_finder {B T q m tw A Bb L W FL FH FS NR NH NF : Nat → Int32} {n a np nr nt nf : Nat} (hn : n ≤ 600) (hB : BY B T) (hq : TS q n a) (hm : MS m n a) (hN : NW np nr nt nf tw A Bb L W FL FH FS m NR NH NF) (hfu : nf < 6) :
    v_readFinder_ok q B tw FS ∧ (k_readPlace_ok m T ∧ isN (m 19) ∧ ix (m 19) < 6) ∧ Ft m (upd (k_readPlace m T).2 19 ((k_readPlace m T).2 19 + nI 1)) ∧
    ((∃ a' nf', a < a' ∧ TS (v_readFinder q B tw FS).2.1 n a' ∧ MS (upd (k_readPlace m T).2 19 ((k_readPlace m T).2 19 + nI 1)) n a' ∧ NW np nr nt nf' (v_readFinder q B tw FS).2.2.1 A Bb L W FL FH (v_readFinder q B tw FS).2.2.2 (upd (k_readPlace m T).2 19 ((k_readPlace m T).2 19 + nI 1)) NR NH (upd NF (ix (m 19)) (k_readPlace m T).1)) ∨ Bd (v_readFinder q B tw FS).2.1 (upd (k_readPlace m T).2 19 ((k_readPlace m T).2 19 + nI 1)) n) := by
  obtain ⟨hz, ⟨t0, t1, t2, t3⟩, ⟨m0, m1, m2, m3⟩, hR, hW, hL, hF⟩ := hN
  have ⟨z1, z2, z3, z4⟩ := hz
  obtain ⟨o1, o2, fr1, tk1, hA⟩ := gd_num (lo := nI 0) (hi := nI np - nI 1) hn hB hq hm (lo_n (by omega)) (hi_pred (by omega))
  have i19 : ix (m 19) = nf := by rw [m3]; exact pu_ix (by omega)
  have n19 : isN (m 19) := by rw [m3]; exact pu_isN (by omega)
  have hnf : ¬ nI 6 ≤ nI nf := fun h => by have := (pu_lei (by omega) (by omega)).mp h; omega
  simp only [v_readFinder_ok, v_readFinder, k_readPlace_ok, k_readPlace, t0, m0, o1, o2, i19, n19, hfu, true_and, and_true, t3, hnf, ↓reduceIte, pu_ix (show nf < 2147483648 by omega), pu_isN (show nf < 2147483648 by omega)]
  rcases x1 : t_number q B (nI 0) (nI np - nI 1) with ⟨v1, q1⟩
  rcases x3 : k_readNumber m T (nI 0) (nI np - nI 1) with ⟨w, m'⟩
  simp only [x1, x3] at hA tk1 fr1
  have q19 : m' 19 = nI nf := by rw [fr1 19 (by decide) (by decide) (by decide)]; exact m3
  rcases hA with ⟨v, a', hv, hsa', e1, e2, e3, e4, T1, M1⟩ | hb
  · have hvp := le_pred hv (by omega) e4
    simp only [T1.nf, ↓reduceIte, q19, nI_add]
    refine ⟨trivial, (Ft.of fr1).tr (Ft.u _ ⟨by omega, by omega⟩), Or.inl ⟨a', nf + 1, hsa', T1, M1.u (by decide) (by decide) (by decide), ⟨z1, z2, z3, by omega⟩, ⟨?_, ?_, ?_, ?_⟩, ⟨?_, ?_, ?_, pk_us⟩, hR, hW, ?_, ?_⟩⟩
    · rw [pk_un (by decide)]; exact t0
    · rw [pk_un (by decide)]; exact t1
    · rw [pk_un (by decide)]; exact t2
    · rw [pk_us]
    · rw [pk_un (by decide), fr1 16 (by decide) (by decide) (by decide)]; exact m0
    · rw [pk_un (by decide), fr1 17 (by decide) (by decide) (by decide)]; exact m1
    · rw [pk_un (by decide), fr1 18 (by decide) (by decide) (by decide)]; exact m2
    · intro t ht
      rcases hL t ht with b1 | ⟨b, hb, b1, b2, b3, b4⟩
      · exact Or.inl b1
      · exact Or.inr ⟨b, by omega, b1, b2, b3, by rw [pk_un (by omega)]; exact b4⟩
    · intro b hb
      by_cases e : b = nf
      · subst e
        exact ⟨v, hvp, by rw [pk_us]; exact e1, by rw [pk_us]; exact e2⟩
      · obtain ⟨p, hp, b1, b2⟩ := hF b (by omega)
        exact ⟨p, hp, by rw [pk_un e]; exact b1, by rw [pk_un e]; exact b2⟩
  · simp only [if_neg hb.is]
    exact ⟨trivial, (Ft.of fr1).tr (Ft.u _ ⟨by omega, by omega⟩), Or.inr (hb.u (by decide) (by decide) (by decide) (by decide))⟩
/-- a thing's worth, behind where it lies or who holds it -/
theorem ad_thing {B T q m tw W FL FH : Nat → Int32} {n a nt : Nat} (hn : n ≤ 600) (hB : BY B T) (hq : TS q n a) (hm : MS m n a) (t2 : tw 2 = nI nt) (hnt : nt < 10) (x y : Int32) :
    v_addThing_ok q B tw W FL FH x y ∧ k_readNumber_ok m T (nI 1) (nI 60) ∧ Fm m (k_readNumber m T (nI 1) (nI 60)).2 ∧
    ((∃ a' w, a < a' ∧ 1 ≤ w ∧ w ≤ 60 ∧ TS (v_addThing q B tw W FL FH x y).2.1 n a' ∧ MS (k_readNumber m T (nI 1) (nI 60)).2 n a' ∧ (k_readNumber m T (nI 1) (nI 60)).1 = nI w ∧ (v_addThing q B tw W FL FH x y).2.2 = (upd tw 2 (nI (nt + 1)), upd W nt (nI w), upd FL nt x, upd FH nt y)) ∨ Bd (v_addThing q B tw W FL FH x y).2.1 (k_readNumber m T (nI 1) (nI 60)).2 n) := by
  obtain ⟨o1, o2, fr1, tk1, hA⟩ := gd_num (lo := nI 1) (hi := nI 60) hn hB hq hm (lo_n (by omega)) (hi_n (by omega))
  have hnf : ¬ nI 10 ≤ nI nt := fun h => by have := (pu_lei (by omega) (by omega)).mp h; omega
  simp only [v_addThing_ok, v_addThing, o1, o2, fr1, true_and, and_true, t2, hnf, ↓reduceIte, pu_ix (show nt < 2147483648 by omega), pu_isN (show nt < 2147483648 by omega), hnt]
  rcases x1 : t_number q B (nI 1) (nI 60) with ⟨v1, q1⟩
  rcases x3 : k_readNumber m T (nI 1) (nI 60) with ⟨w, m'⟩
  simp only [x1, x3] at hA tk1 fr1
  rcases hA with ⟨v, a', hv, hsa', e1, e2, e3, e4, T1, M1⟩ | hb
  · simp only [T1.nf, ↓reduceIte, nI_add]
    refine ⟨trivial, Or.inl ⟨a', v, hsa', ?_, (pu_lei (by omega) (by omega)).mp e4, T1, M1, e2, by rw [e1]⟩⟩
    rw [pu_lti (by omega) (by omega)] at e3
    omega
  · simp only [if_neg hb.is]
    exact ⟨trivial, Or.inr hb⟩
theorem bd_thing {B T q m tw W FL FH : Nat → Int32} {n : Nat} (hn : n ≤ 600) (hb : Bd q m n) (x y : Int32) :
    v_addThing_ok q B tw W FL FH x y ∧ k_readNumber_ok m T (nI 1) (nI 60) ∧ k_readNumber m T (nI 1) (nI 60) = (nI 0, m) ∧ Bd (v_addThing q B tw W FL FH x y).2.1 m n := by
  obtain ⟨a1, a2, a3, a4⟩ := hb.num (B := B) (T := T) hn (nI 1) (nI 60)
  simp only [v_addThing_ok, v_addThing, a1, a2, a4, true_and]
  rcases x1 : t_number q B (nI 1) (nI 60) with ⟨v1, q1⟩
  rw [x1] at a3
  simp only [if_neg a3.is, true_and]
  exact a3
theorem cl_thing {B T q m tw A Bb L W FL FH FS NR NH NF : Nat → Int32} {n a np nr nt nf : Nat} (hn : n ≤ 600) (hB : BY B T) (hq : TS q n a) (hm : MS m n a) (hN : NW np nr nt nf tw A Bb L W FL FH FS m NR NH NF) (hfu : nt < 10) :
    (t_number_ok q B (nI 0) (tw 0 - nI 1) ∧ v_addThing_ok (t_number q B (nI 0) (tw 0 - nI 1)).2 B tw W FL FH (t_number q B (nI 0) (tw 0 - nI 1)).1 (-1)) ∧
    k_readRow_ok m T NR NH NF k_of_s7 ∧ Ft m (k_readRow m T NR NH NF k_of_s7).2.1 ∧
    ((∃ a' nt', a < a' ∧ TS (v_addThing (t_number q B (nI 0) (tw 0 - nI 1)).2 B tw W FL FH (t_number q B (nI 0) (tw 0 - nI 1)).1 (-1)).2.1 n a' ∧ MS (k_readRow m T NR NH NF k_of_s7).2.1 n a' ∧
        NW np nr nt' nf (v_addThing (t_number q B (nI 0) (tw 0 - nI 1)).2 B tw W FL FH (t_number q B (nI 0) (tw 0 - nI 1)).1 (-1)).2.2.1 A Bb L (v_addThing (t_number q B (nI 0) (tw 0 - nI 1)).2 B tw W FL FH (t_number q B (nI 0) (tw 0 - nI 1)).1 (-1)).2.2.2.1 (v_addThing (t_number q B (nI 0) (tw 0 - nI 1)).2 B tw W FL FH (t_number q B (nI 0) (tw 0 - nI 1)).1 (-1)).2.2.2.2.1 (v_addThing (t_number q B (nI 0) (tw 0 - nI 1)).2 B tw W FL FH (t_number q B (nI 0) (tw 0 - nI 1)).1 (-1)).2.2.2.2.2 FS
          (k_readRow m T NR NH NF k_of_s7).2.1 (k_readRow m T NR NH NF k_of_s7).2.2.1 (k_readRow m T NR NH NF k_of_s7).2.2.2.1 (k_readRow m T NR NH NF k_of_s7).2.2.2.2) ∨
      Bd (v_addThing (t_number q B (nI 0) (tw 0 - nI 1)).2 B tw W FL FH (t_number q B (nI 0) (tw 0 - nI 1)).1 (-1)).2.1 (k_readRow m T NR NH NF k_of_s7).2.1 n) := by
  obtain ⟨hz, ⟨t0, t1, t2, t3⟩, ⟨m0, m1, m2, m3⟩, hR, hW, hL, hF⟩ := hN
  have ⟨z1, z2, z3, z4⟩ := hz
  obtain ⟨o1, o2, fr1, tk1, hA⟩ := gd_num (lo := nI 0) (hi := nI np - nI 1) hn hB hq hm (lo_n (by omega)) (hi_pred (by omega))
  simp only [t0, o1, true_and, k_readRow_ok, k_readRow, k_readPlace_ok, k_readPlace, m0, o2, if_neg of_n7_5, if_neg of_n7_6, if_neg of_n7_8, ↓reduceIte, and_true]
  rcases x1 : t_number q B (nI 0) (nI np - nI 1) with ⟨v1, q1⟩
  rcases x3 : k_readNumber m T (nI 0) (nI np - nI 1) with ⟨w1, m'⟩
  simp only [x1, x3] at hA tk1 fr1
  have q18 : m' 18 = nI nt := by rw [fr1 18 (by decide) (by decide) (by decide)]; exact m2
  have i18 : ix (nI nt) = nt := pu_ix (by omega)
  have n18 : isN (nI nt) := pu_isN (by omega)
  simp only [q18, i18, n18, true_and, show 3 * nt < 30 by omega, show 3 * nt + 1 < 30 by omega, show 3 * nt + 2 < 30 by omega]
  rcases hA with ⟨v, a', hv, hsa', e1, e2, e3, e4, T1, M1⟩ | hb
  · have hvp := le_pred hv (by omega) e4
    obtain ⟨p1, p2, p3, p4⟩ := ad_thing (W := W) (FL := FL) (FH := FH) hn hB T1 M1 t2 hfu v1 (-1)
    rcases x5 : k_readNumber m' T (nI 1) (nI 60) with ⟨w2, m2'⟩
    simp only [x5] at p3 p4
    simp only [p1, p2, true_and, and_true]
    have q18' : m2' 18 = nI nt := by rw [p3 18 (by decide) (by decide) (by decide)]; exact q18
    rcases p4 with ⟨a2, wt, h1, h2, h3, T2, M2, h4, h5⟩ | hb
    · simp only [h5, q18', nI_add]
      refine ⟨(Ft.of (fr1.tr p3)).tr (Ft.u _ ⟨by omega, by omega⟩), Or.inl ⟨a2, nt + 1, by omega, T2, M2.u (by decide) (by decide) (by decide), ⟨z1, z2, by omega, z4⟩, ⟨?_, ?_, ?_, ?_⟩, ⟨?_, ?_, pk_us, ?_⟩, hR, ?_, ?_, hF⟩⟩
      · rw [pk_un (by decide)]; exact t0
      · rw [pk_un (by decide)]; exact t1
      · rw [pk_us]
      · rw [pk_un (by decide)]; exact t3
      · rw [pk_un (by decide), p3 16 (by decide) (by decide) (by decide), fr1 16 (by decide) (by decide) (by decide)]; exact m0
      · rw [pk_un (by decide), p3 17 (by decide) (by decide) (by decide), fr1 17 (by decide) (by decide) (by decide)]; exact m1
      · rw [pk_un (by decide), p3 19 (by decide) (by decide) (by decide), fr1 19 (by decide) (by decide) (by decide)]; exact m3
      · intro t ht
        by_cases e : t = nt
        · subst e
          exact ⟨by rw [pk_us, pk_us, h4], wt, h2, h3, pk_us⟩
        · obtain ⟨b1, b2⟩ := hW t (by omega)
          rw [pk_un e, pk_un (by omega), pk_un (by omega), pk_un (by omega)]
          exact ⟨b1, b2⟩
      · intro t ht
        by_cases e : t = nt
        · subst e
          refine Or.inl ⟨v, hvp, by rw [pk_us]; exact e1, pk_us, ?_, ?_⟩
          · rw [pk_un (by omega), pk_un (by omega), pk_us]; exact e2
          · rw [pk_un (by omega), pk_us]
        · rw [pk_un e, pk_un e, pk_un (by omega), pk_un (by omega), pk_un (by omega), pk_un (by omega), pk_un (by omega), pk_un (by omega)]
          exact hL t (by omega)
    · exact ⟨(Ft.of (fr1.tr p3)).tr (Ft.u _ ⟨by omega, by omega⟩), Or.inr (hb.u (by decide) (by decide) (by decide) (by decide))⟩
  · obtain ⟨p1, p2, p3, p4⟩ := bd_thing (B := B) (T := T) (tw := tw) (W := W) (FL := FL) (FH := FH) hn hb v1 (-1)
    simp only [p1, p2, p3, true_and, and_true]
    exact ⟨(Ft.of fr1).tr (Ft.u _ ⟨by omega, by omega⟩), Or.inr (p4.u (by decide) (by decide) (by decide) (by decide))⟩
