/-! own, road; a row of a town -/
theorem cl_own {B T q m tw A Bb L W FL FH FS NR NH NF : Nat → Int32} {n a np nr nt nf : Nat} (hn : n ≤ 600) (hB : BY B T) (hq : TS q n a) (hm : MS m n a) (hN : NW np nr nt nf tw A Bb L W FL FH FS m NR NH NF) (hfu : nt < 10) :
    (t_number_ok q B (nI 0) (tw 3 - nI 1) ∧ v_addThing_ok (t_number q B (nI 0) (tw 3 - nI 1)).2 B tw W FL FH (-1) (t_number q B (nI 0) (tw 3 - nI 1)).1) ∧
    k_readRow_ok m T NR NH NF k_of_s9 ∧ Ft m (k_readRow m T NR NH NF k_of_s9).2.1 ∧
    ((∃ a' nt', a < a' ∧ TS (v_addThing (t_number q B (nI 0) (tw 3 - nI 1)).2 B tw W FL FH (-1) (t_number q B (nI 0) (tw 3 - nI 1)).1).2.1 n a' ∧ MS (k_readRow m T NR NH NF k_of_s9).2.1 n a' ∧
        NW np nr nt' nf (v_addThing (t_number q B (nI 0) (tw 3 - nI 1)).2 B tw W FL FH (-1) (t_number q B (nI 0) (tw 3 - nI 1)).1).2.2.1 A Bb L (v_addThing (t_number q B (nI 0) (tw 3 - nI 1)).2 B tw W FL FH (-1) (t_number q B (nI 0) (tw 3 - nI 1)).1).2.2.2.1 (v_addThing (t_number q B (nI 0) (tw 3 - nI 1)).2 B tw W FL FH (-1) (t_number q B (nI 0) (tw 3 - nI 1)).1).2.2.2.2.1 (v_addThing (t_number q B (nI 0) (tw 3 - nI 1)).2 B tw W FL FH (-1) (t_number q B (nI 0) (tw 3 - nI 1)).1).2.2.2.2.2 FS
          (k_readRow m T NR NH NF k_of_s9).2.1 (k_readRow m T NR NH NF k_of_s9).2.2.1 (k_readRow m T NR NH NF k_of_s9).2.2.2.1 (k_readRow m T NR NH NF k_of_s9).2.2.2.2) ∨
      Bd (v_addThing (t_number q B (nI 0) (tw 3 - nI 1)).2 B tw W FL FH (-1) (t_number q B (nI 0) (tw 3 - nI 1)).1).2.1 (k_readRow m T NR NH NF k_of_s9).2.1 n) := by
  obtain ⟨hz, ⟨t0, t1, t2, t3⟩, ⟨m0, m1, m2, m3⟩, hR, hW, hL, hF⟩ := hN
  have ⟨z1, z2, z3, z4⟩ := hz
  obtain ⟨o1, o2, fr1, tk1, hA⟩ := gd_num (lo := nI 0) (hi := nI nf - nI 1) hn hB hq hm (lo_n (by omega)) (hi_pred (by omega))
  simp only [t3, o1, true_and, k_readRow_ok, k_readRow, m3, o2, if_neg of_n9_5, if_neg of_n9_6, if_neg of_n9_8, if_neg of_n9_7]
  rcases x1 : t_number q B (nI 0) (nI nf - nI 1) with ⟨v1, q1⟩
  rcases x3 : k_readNumber m T (nI 0) (nI nf - nI 1) with ⟨w1, m'⟩
  simp only [x1, x3] at hA tk1 fr1
  have q18 : m' 18 = nI nt := by rw [fr1 18 (by decide) (by decide) (by decide)]; exact m2
  have i18 : ix (nI nt) = nt := pu_ix (by omega)
  have n18 : isN (nI nt) := pu_isN (by omega)
  simp only [q18, i18, n18, true_and, show 3 * nt < 30 by omega, show 3 * nt + 1 < 30 by omega, show 3 * nt + 2 < 30 by omega]
  rcases hA with ⟨v, a', hv, hsa', e1, e2, e3, e4, T1, M1⟩ | hb
  · have hvp := le_pred hv (by omega) e4
    obtain ⟨p1, p2, p3, p4⟩ := ad_thing (W := W) (FL := FL) (FH := FH) hn hB T1 M1 t2 hfu (-1) v1
    rcases x5 : k_readNumber m' T (nI 1) (nI 60) with ⟨w2, m2'⟩
    simp only [x5] at p3 p4
    simp only [M1.fi, if_neg pu_n10, e2, pu_ix (show v < 2147483648 by omega), pu_isN (show v < 2147483648 by omega), show v < 6 by omega, p1, p2, true_and, and_true]
    have q18' : m2' 18 = nI nt := by rw [p3 18 (by decide) (by decide) (by decide)]; exact q18
    rcases p4 with ⟨a2, wt, h1, h2, h3, T2, M2, h4, h5⟩ | hb
    · simp only [h5, q18', nI_add]
      refine ⟨(Ft.of (fr1.tr p3)).tr (Ft.u _ ⟨by omega, by omega⟩), Or.inl ⟨a2, nt + 1, by omega, T2, M2.u (by decide) (by decide) (by decide), ⟨z1, z2, by omega, z4⟩, ⟨?_, ?_, ?_, ?_⟩, ⟨?_, ?_, pk_us, ?_⟩, hR, ?_, ?_, hF⟩⟩
      · rw [pk_un (by decide)]; exact t0
      · rw [pk_un (by decide)]; exact t1
      · rw [pk_us]
      · rw [pk_un (by decide)]; exact t3
      · rw [pk_un (by decide), p3 16 (by decide) (by decide) (by decide), fr1 16 (by decide) (by decide) (by decide)]; exact m0
      · rw [pk_un (by decide), p3 17 (by decide) (by decide) (by decide), fr1 17 (by decide) (by decide) (by decide)]; exact m1
      · rw [pk_un (by decide), p3 19 (by decide) (by decide) (by decide), fr1 19 (by decide) (by decide) (by decide)]; exact m3
      · intro t ht
        by_cases e : t = nt
        · subst e
          exact ⟨by rw [pk_us, pk_us, h4], wt, h2, h3, pk_us⟩
        · obtain ⟨b1, b2⟩ := hW t (by omega)
          rw [pk_un e, pk_un (by omega), pk_un (by omega), pk_un (by omega)]
          exact ⟨b1, b2⟩
      · intro t ht
        by_cases e : t = nt
        · subst e
          obtain ⟨p, hp, b1, b2⟩ := hF v hvp
          refine Or.inr ⟨v, hvp, pk_us, by rw [pk_us]; exact e1, ?_, ?_⟩
          · rw [pk_un (by omega), pk_us]
          · rw [pk_un (by omega), pk_un (by omega), pk_us, b1, b2]
        · rw [pk_un e, pk_un e, pk_un (by omega), pk_un (by omega), pk_un (by omega), pk_un (by omega), pk_un (by omega), pk_un (by omega)]
          exact hL t (by omega)
    · exact ⟨(Ft.of (fr1.tr p3)).tr (Ft.u _ ⟨by omega, by omega⟩), Or.inr (hb.u (by decide) (by decide) (by decide) (by decide))⟩
  · obtain ⟨p1, p2, p3, p4⟩ := bd_thing (B := B) (T := T) (tw := tw) (W := W) (FL := FL) (FH := FH) hn hb (-1) v1
    simp only [hb.fi, if_pos pu_n01, p1, p2, p3, true_and, and_true]
    exact ⟨(Ft.of fr1).tr (Ft.u _ ⟨by omega, by omega⟩), Or.inr (p4.u (by decide) (by decide) (by decide) (by decide))⟩
theorem cl_road {B T q m tw A Bb L W FL FH FS NR NH NF : Nat → Int32} {n a np nr nt nf : Nat} (hn : n ≤ 600) (hB : BY B T) (hq : TS q n a) (hm : MS m n a) (hN : NW np nr nt nf tw A Bb L W FL FH FS m NR NH NF) (hfu : nr < 12) :
    v_readRoad_ok q B tw A Bb L ∧ k_readRoad_ok m T NR ∧ Ft m (k_readRoad m T NR).2.1 ∧
    ((∃ a' nr', a < a' ∧ TS (v_readRoad q B tw A Bb L).2.1 n a' ∧ MS (k_readRoad m T NR).2.1 n a' ∧ NW np nr' nt nf (v_readRoad q B tw A Bb L).2.2.1 (v_readRoad q B tw A Bb L).2.2.2.1 (v_readRoad q B tw A Bb L).2.2.2.2.1 (v_readRoad q B tw A Bb L).2.2.2.2.2 W FL FH FS (k_readRoad m T NR).2.1 (k_readRoad m T NR).2.2 NH NF) ∨ Bd (v_readRoad q B tw A Bb L).2.1 (k_readRoad m T NR).2.1 n) := by
  obtain ⟨hz, ⟨t0, t1, t2, t3⟩, ⟨m0, m1, m2, m3⟩, hR, hW, hL, hF⟩ := hN
  have ⟨z1, z2, z3, z4⟩ := hz
  have hnr : ¬ nI 12 ≤ nI nr := fun h => by have := (pu_lei (by omega) (by omega)).mp h; omega
  have i17 : ix (nI nr) = nr := pu_ix (by omega)
  have n17 : isN (nI nr) := pu_isN (by omega)
  obtain ⟨o1, o2, fr1, tk1, hA⟩ := gd_num (lo := nI 0) (hi := nI np - nI 1) hn hB hq hm (lo_n (by omega)) (hi_pred (by omega))
  simp only [v_readRoad_ok, v_readRoad, k_readRoad_ok, k_readRoad, k_readPlace_ok, k_readPlace, t0, t1, m0, o1, o2, hnr, i17, n17, hfu, ↓reduceIte, true_and, and_true]
  rcases x1 : t_number q B (nI 0) (nI np - nI 1) with ⟨v1, q1⟩
  rcases x3 : k_readNumber m T (nI 0) (nI np - nI 1) with ⟨w1, ma⟩
  simp only [x1, x3] at hA tk1 fr1
  have a17 : ma 17 = nI nr := by rw [fr1 17 (by decide) (by decide) (by decide)]; exact m1
  have a16 : ma 16 = nI np := by rw [fr1 16 (by decide) (by decide) (by decide)]; exact m0
  rcases hA with ⟨v, a1, hv, hsa1, e1, e2, e3, e4, T1, M1⟩ | hb
  · obtain ⟨hh1, hh2⟩ := khr hn hB M1.1 M1.2.1 M1.2.2.2
    obtain ⟨p1, p2, fr2, tk2, hC⟩ := gd_num (lo := nI 0) (hi := nI np - nI 1) hn hB T1 M1 (lo_n (by omega)) (hi_pred (by omega))
    obtain ⟨kh1, kh2⟩ := kn_here hn hB M1 (nI 0) (nI np - nI 1)
    have hs := sk_le (B := B) M1.2.2.2
    have hsa := sk_ge B n a1
    have b16 : ∀ x : Int32, upd ma 4 x 16 = nI np := fun x => by rw [pk_un (by decide)]; exact a16
    simp only [hh1, hh2, b16, kh1, kh2 p2, p1, true_and, pk_us]
    clear kh1 kh2 hh1 hh2
    generalize sk B n a1 = s at *
    rcases x4 : t_number q1 B (nI 0) (nI np - nI 1) with ⟨v2, q2⟩
    rcases x5 : k_readNumber ma T (nI 0) (nI np - nI 1) with ⟨w2, mb⟩
    simp only [x4, x5] at hC tk2 fr2
    have b17 : mb 17 = nI nr := by rw [fr2 17 (by decide) (by decide) (by decide)]; exact a17
    have hvp := le_pred hv (by omega) e4
    rcases hC with ⟨v', a2, hv', hsa2, c1, c2, c3, c4, T2, M2⟩ | hb
    · have hvp' := le_pred hv' (by omega) c4
      simp only [M2.fi, if_neg pu_n10, e1, e2, c1, c2]
      by_cases hvv : v = v'
      · subst hvv
        obtain ⟨hT, -⟩ := TF.of (kd := 2) (s := s) T2.1 T2.2.1 T2.2.2.2.1 T2.2.2.2.2.1 T2.2.2.2.2.2 ⟨by omega, by omega⟩
        obtain ⟨g1, g2⟩ := MF.of (kd := 2) (s := s) M2.1 M2.2.1 M2.2.2.1 M2.2.2.2 (by omega)
        simp only [↓reduceIte, tk2]
        rcases hf : t_fail q2 (nI 2) (nI s) with ⟨x9, q9⟩
        rcases hg : k_wrong mb (nI 2) (nI s) with ⟨y9, m9⟩
        rw [hf] at hT
        rw [hg] at g1 g2
        simp only at hT g1 g2
        have hbd : Bd q9 m9 n := ⟨2, s, hT, g1⟩
        obtain ⟨r1, r2, r3, r4⟩ := hbd.num (B := B) (T := T) hn (nI 1) (nI 9)
        have c17 : m9 17 = nI nr := by rw [g2 17 (by decide) (by decide) (by decide)]; exact b17
        simp only [r1, r2, r4, c17, i17, n17, true_and, and_true, show 3 * nr < 36 by omega, show 3 * nr + 1 < 36 by omega, show 3 * nr + 2 < 36 by omega]
        rcases x6 : t_number q9 B (nI 1) (nI 9) with ⟨v3, q3⟩
        rw [x6] at r3
        simp only [if_neg r3.is]
        exact ⟨trivial, (Ft.of ((fr1.tr fr2).tr g2)).tr (Ft.u _ ⟨by omega, by omega⟩), Or.inr (r3.u (by decide) (by decide) (by decide) (by decide))⟩
      · have hvn : ¬ nI v = nI v' := fun e => hvv (pu_inj (by omega) (by omega) e)
        obtain ⟨r1, r2, fr3, tk3, hG⟩ := gd_num (lo := nI 1) (hi := nI 9) hn hB T2 M2 (lo_n (by omega)) (hi_n (by omega))
        simp only [if_neg hvn, r1, r2, b17, i17, n17, true_and, and_true, show 3 * nr < 36 by omega, show 3 * nr + 1 < 36 by omega, show 3 * nr + 2 < 36 by omega]
        rcases x6 : t_number q2 B (nI 1) (nI 9) with ⟨v3, q3⟩
        rcases x7 : k_readNumber mb T (nI 1) (nI 9) with ⟨w3, mc⟩
        simp only [x6, x7] at hG tk3 fr3
        have c17 : mc 17 = nI nr := by rw [fr3 17 (by decide) (by decide) (by decide)]; exact b17
        have hfr := (fr1.tr fr2).tr fr3
        rcases hG with ⟨l, a3, hl, hsa3, d1, d2, d3, d4, T3, M3⟩ | hb
        · simp only [T3.nf, ↓reduceIte, c17, nI_add]
          have hl9 := (pu_lei (by omega) (by omega)).mp d4
          have hl1 : 1 ≤ l := by rw [pu_lti (by omega) (by omega)] at d3; omega
          refine ⟨trivial, (Ft.of hfr).tr (Ft.u _ ⟨by omega, by omega⟩), Or.inl ⟨a3, nr + 1, by omega, T3, M3.u (by decide) (by decide) (by decide), ⟨z1, by omega, z3, z4⟩, ⟨?_, ?_, ?_, ?_⟩, ⟨?_, pk_us, ?_, ?_⟩, ?_, hW, hL, hF⟩⟩
          · rw [pk_un (by decide)]; exact t0
          · rw [pk_us]
          · rw [pk_un (by decide)]; exact t2
          · rw [pk_un (by decide)]; exact t3
          · rw [pk_un (by decide), hfr 16 (by decide) (by decide) (by decide)]; exact m0
          · rw [pk_un (by decide), hfr 18 (by decide) (by decide) (by decide)]; exact m2
          · rw [pk_un (by decide), hfr 19 (by decide) (by decide) (by decide)]; exact m3
          · intro r hr
            by_cases e : r = nr
            · subst e
              refine ⟨?_, ?_, ?_, v, v', l, hvp, hvp', hvv, hl1, hl9, ?_, ?_, ?_⟩
              · rw [pk_un (by omega), pk_un (by omega), pk_us, pk_us]
              · rw [pk_un (by omega), pk_us, pk_us]
              · rw [pk_us, pk_us, d1, d2]
              · rw [pk_us]
              · rw [pk_us]
              · rw [pk_us, d1]
            · rw [pk_un e, pk_un e, pk_un e, pk_un (by omega), pk_un (by omega), pk_un (by omega), pk_un (by omega), pk_un (by omega), pk_un (by omega), pk_un (by omega), pk_un (by omega), pk_un (by omega)]
              exact hR r (by omega)
        · simp only [if_neg hb.is]
          exact ⟨trivial, (Ft.of hfr).tr (Ft.u _ ⟨by omega, by omega⟩), Or.inr (hb.u (by decide) (by decide) (by decide) (by decide))⟩
    · obtain ⟨r1, r2, r3, r4⟩ := hb.num (B := B) (T := T) hn (nI 1) (nI 9)
      simp only [hb.fi, if_pos pu_n01, hb.fl, r1, r2, r4, b17, i17, n17, true_and, and_true, show 3 * nr < 36 by omega, show 3 * nr + 1 < 36 by omega, show 3 * nr + 2 < 36 by omega]
      rcases x6 : t_number q2 B (nI 1) (nI 9) with ⟨v3, q3⟩
      rw [x6] at r3
      have key : Ft m (upd mb 17 (nI nr + nI 1)) ∧ Bd q3 (upd mb 17 (nI nr + nI 1)) n := ⟨(Ft.of (fr1.tr fr2)).tr (Ft.u _ ⟨by omega, by omega⟩), r3.u (by decide) (by decide) (by decide) (by decide)⟩
      by_cases hvv : v1 = v2
      · simp only [hvv, ↓reduceIte, if_neg r3.is]
        exact ⟨trivial, key.1, Or.inr key.2⟩
      · simp only [hvv, ↓reduceIte, if_neg r3.is]
        exact ⟨trivial, key.1, Or.inr key.2⟩
  · obtain ⟨hh1, c, s, hs, hh2, hb2⟩ := hb.here hn hB
    obtain ⟨p1, -, p3, -⟩ := hb.num (B := B) (T := T) hn (nI 0) (nI np - nI 1)
    obtain ⟨-, p2, -, p4⟩ := hb2.num (B := B) (T := T) hn (nI 0) (nI np - nI 1)
    obtain ⟨-, p5, -, p6⟩ := hb2.num (B := B) (T := T) hn (nI 1) (nI 9)
    have b16 : upd ma 4 (nI s) 16 = nI np := by rw [pk_un (by decide)]; exact a16
    have b17 : upd ma 4 (nI s) 17 = nI nr := by rw [pk_un (by decide)]; exact a17
    simp only [hh1, hh2, b16, p1, p2, p4, hb2.fi, if_pos pu_n01, p5, p6, b17, i17, n17, true_and, and_true, show 3 * nr < 36 by omega, show 3 * nr + 1 < 36 by omega, show 3 * nr + 2 < 36 by omega]
    rcases x4 : t_number q1 B (nI 0) (nI np - nI 1) with ⟨v2, q2⟩
    rw [x4] at p3
    simp only at p3
    obtain ⟨r1, -, r3, -⟩ := p3.num (B := B) (T := T) hn (nI 1) (nI 9)
    simp only [p3.fl, r1, true_and]
    rcases x6 : t_number q2 B (nI 1) (nI 9) with ⟨v3, q3⟩
    rw [x6] at r3
    have hbb : Bd q3 (upd ma 4 (nI s)) n := by
      obtain ⟨kd, pl, y1, y2⟩ := r3
      exact ⟨kd, pl, y1, y2.u4 hs⟩
    have key : Ft m (upd (upd ma 4 (nI s)) 17 (nI nr + nI 1)) ∧ Bd q3 (upd (upd ma 4 (nI s)) 17 (nI nr + nI 1)) n := ⟨((Ft.of fr1).tr (Ft.u4 _ _)).tr (Ft.u _ ⟨by omega, by omega⟩), hbb.u (by decide) (by decide) (by decide) (by decide)⟩
    by_cases hvv : v1 = v2
    · simp only [hvv, ↓reduceIte, if_neg r3.is]
      exact ⟨trivial, key.1, Or.inr key.2⟩
    · simp only [hvv, ↓reduceIte, if_neg r3.is]
      exact ⟨trivial, key.1, Or.inr key.2⟩
