/-! a work's text: steps as they come -/
theorem MS.rw {m : Nat → Int32} {n s : Nat} (h : MS m n s) : upd m 4 (nI s) = m := by
  rw [← h.2.1]; exact upd_self m 4
theorem Seg.nl {K S : Nat → Int32} {d i : Nat} : ∀ f, Seg K S f d i i
  | 0 => rfl
  | _ + 1 => Or.inl rfl
theorem SW.le {K0 S0 q m wk K F S N : Nat → Int32} {nr nt nf n o e c0 p : Nat} (h : SW nr nt nf n o e c0 (p + 1) K0 S0 q m wk K F S N) : SW nr nt nf n o e c0 p K0 S0 q m wk K F S N := by
  rcases h with ⟨a', c', k1, k2⟩ | h
  · exact Or.inl ⟨a', c', by omega, k2⟩
  · exact Or.inr h
theorem SW.dn {K0 S0 q m wk K F S N : Nat → Int32} {nr nt nf n o e c0 p p' : Nat} (hp : p' ≤ p) (h : SW nr nt nf n o e c0 p K0 S0 q m wk K F S N) : SW nr nt nf n o e c0 p' K0 S0 q m wk K F S N := by
  rcases h with ⟨a', c', k1, k2⟩ | h
  · exact Or.inl ⟨a', c', by omega, k2⟩
  · exact Or.inr h
/-- behind a number that opens a loop: from a fault on -/
theorem ag_bad {f : XnA} {g : YnA} {f' : XnB} {g' : YnB} {B T q m wk0 wk K F S N : Nat → Int32} {nr nt nf n o e c p : Nat} (hn : n ≤ 150) (hb : Bd q m n) (hc0 : CW wk0) (hc : CW wk) (x y z : Int32) (v : Int32) (K0 S0 : Nat → Int32) :
    x_readAgain_43_ok f g B x y (cN 150) 0 q wk K F S ∧ k_tellsStep_ok m N (nI 5) v (nI 0) ∧ k_tellsStep m N (nI 5) v (nI 0) = (0, m, N) ∧ k_readStep_st_61_ok f' g' T z FU m N ∧ ∃ q1, x_readAgain_43 f B x y (cN 150) 0 q wk K F S = (q1, wk, K, F, S) ∧ k_readStep_st_61 f' T z FU m N = (m, N) ∧ t_needSign_ok q1 B (nI 93) ∧ k_sign_ok m T (nI 93) ∧ k_sign m T (nI 93) = (0, m) ∧ ∃ q2, t_needSign q1 B (nI 93) = (0, q2) ∧
      (if nI 150 ≤ wk0 3 then True else isN (wk0 3) ∧ ix (wk0 3) < 150 ∧ True) ∧ k_fine (upd m 7 (m 7 - nI 1)) = nI 0 ∧ t_needSign_ok q2 B (nI 59) ∧ k_sign_ok (upd m 7 (m 7 - nI 1)) T (nI 59) ∧ k_sign (upd m 7 (m 7 - nI 1)) T (nI 59) = (0, upd m 7 (m 7 - nI 1)) ∧ ∃ q3, t_needSign q2 B (nI 59) = (0, q3) ∧ ∀ S', SW nr nt nf n o e c p K0 S0 q3 (upd m 7 (m 7 - nI 1)) wk K F S' N := by
  obtain ⟨kd, pl, h1, h2⟩ := id hb
  obtain ⟨a1, q1, a2, a3⟩ := ra_c (f := f) (g := g) (B := B) (wk := wk) (K := K) (F := F) (S := S) (show n ≤ 600 by omega) x y (cN 150) 0 q h1
  obtain ⟨K9, hK9⟩ := fu_s
  obtain ⟨b1, b2⟩ := ra_m (f := f') (g := g') (T := T) (N := N) h2 z K9
  obtain ⟨b3, b4⟩ := hb.tl (N := N) (nI 5) v (nI 0)
  obtain ⟨d1, d2⟩ := a3.sg (B := B) (show n ≤ 600 by omega) (c := nI 93) (by decide)
  obtain ⟨q2, d3⟩ := sign0 q1 B (nI 93)
  rw [d3] at d2
  obtain ⟨d4, d5⟩ := h2.sg (T := T) (nI 93)
  obtain ⟨m3, d6⟩ := ksign0 m T (nI 93)
  rw [d6] at d5
  simp only at d5
  rw [d5] at d6
  have H7 : MF (upd m 7 (m 7 - nI 1)) n kd pl := h2.u (by decide) (by decide) (by decide) (by decide)
  obtain ⟨i1, i2⟩ := d2.sg (B := B) (show n ≤ 600 by omega) (c := nI 59) (by decide)
  obtain ⟨q3, i3⟩ := sign0 q2 B (nI 59)
  rw [i3] at i2
  obtain ⟨i4, i5⟩ := H7.sg (T := T) (nI 59)
  obtain ⟨m4, i6⟩ := ksign0 (upd m 7 (m 7 - nI 1)) T (nI 59)
  rw [i6] at i5
  simp only at i5
  rw [i5] at i6
  obtain ⟨c9, hc9, e9⟩ := hc0
  refine ⟨a1, b3, b4, by rw [hK9]; exact b1, q1, a2, by rw [hK9]; exact b2, d1, d4, d6, q2, d3, ?_, k_fine_f H7.2.1 H7.2.2.2.1, i1, i4, i6, q3, i3, fun S' => Or.inr ⟨⟨kd, pl, i2, H7⟩, hc⟩⟩
  rw [e9]
  split
  · trivial
  · rename_i hx
    rw [pu_lei (by omega) (by omega)] at hx
    exact ⟨pu_isN (by omega), by rw [pu_ix (by omega)]; omega, trivial⟩
theorem rd_a {f : XnA} {g : YnA} {f' : XnB} {g' : YnB} {B T : Nat → Int32} {nr nt nf n o : Nat} (hn : n ≤ 150) (hB : BY B T) (ho : o ≤ 6) (hs : nr ≤ 12 ∧ nt ≤ 10 ∧ nf ≤ 6) (hA : o < 6 → QA B T nr nt nf n (o + 1) f g f' g') (hf' : ∀ (m N : Nat → Int32), MS m n n → k_word m T = (nI 0, m) → g' m T N ∧ ∃ m' N', f' m T N = (0, m', N') ∧ MF m' n 1 n ∧ Fw m m') :
    QA B T nr nt nf n o (fun q B wk K F S x => x_readStep_st f q B wk K F S nr nt nf x) (fun q B wk K F S x => x_readStep_st_ok f g q B wk K F S nr nt nf x) (k_readStep_st f') (k_readStep_st_ok f' g') := by
  intro q m wk K F S N a c e hq hm h7 hz hw hce
  obtain ⟨s1, s2, s3⟩ := hs
  obtain ⟨w1, w2, w3⟩ := rd_s3 (by omega) hB hq hm
  obtain ⟨y1, y2, y4⟩ := kword (by omega) hB hm
  have hsn := sk_le (B := B) hm.2.2.2
  have has := sk_ge B n a
  have hle := le_le (B := B) hsn
  have hge := le_ge B n (sk B n a)
  have M1 := hm.u4 (s := sk B n a) hsn
  have F1 : Fm m (upd m 4 (nI (sk B n a))) := Fm.u4 _ _
  simp only [x_readStep_st_ok, x_readStep_st, k_readStep_st_ok, k_readStep_st, w1, y1, true_and]
  rcases z1 : t_word_s3 q B with ⟨v3, q2⟩
  rcases z2 : k_word m T with ⟨wd, m2⟩
  simp only [z1, z2] at w2 w3 y2 y4
  subst y2
  generalize upd m 4 (nI (sk B n a)) = m1 at *
  generalize sk B n a = s at *
  have hL4 : ∀ j, s ≤ j → j < le' B n s → isL (B j) := fun j h1 h2 => le_in h1 h2
  rcases w3 with ⟨k0, hk0, e1, e2, T2, he⟩ | ⟨e1, e2, T2⟩
  · obtain ⟨hl4, hl5⟩ := wl3 hB (by omega) hge hL4 y4 hk0 e2
    subst e1 e2
    have fm1 : ¬ nI k0 = -1 := pu_nm (by omega)
    simp only [step_k hk0, if_neg fm1]
    by_cases h5 : k0 = 5
    · subst h5
      rw [hl5 rfl] at T2 hle
      clear hl5 hl4 hL4 y4
      simp only [↓reduceIte]
      by_cases h6 : o < 6
      · have f1 : nI o < nI 6 := (pu_lti (by omega) (by omega)).mpr h6
        have f2 : ¬ nI o = nI 6 := fun h => by have := pu_inj (by omega) (by omega) h; omega
        have g7 : m1 7 = nI o := by rw [F1 7 (by decide) (by decide) (by decide)]; exact h7
        have hon : k_opensOne m1 (nI 5) = (0, upd (upd m1 4 (nI (s + 5))) 7 (nI (o + 1))) := by
          simp only [k_opensOne, M1.fi, if_neg pu_n10, g7, if_neg f2, M1.2.1, nI_add]
        have M2 : MS (upd (upd m1 4 (nI (s + 5))) 7 (nI (o + 1))) n (s + 5) := (M1.u4 hle).u (by decide) (by decide) (by decide)
        have F2 : Fw m (upd (upd m1 4 (nI (s + 5))) 7 (nI (o + 1))) := (Fw.of F1).tr ((Fw.u4 _ _).tr (Fw.u7 _ _))
        have g34 : upd (upd m1 4 (nI (s + 5))) 7 (nI (o + 1)) 34 = m 34 := by rw [pk_un (by decide), pk_un (by decide)]; exact F1 34 (by decide) (by decide) (by decide)
        have g72 : upd (upd m1 4 (nI (s + 5))) 7 (nI (o + 1)) 7 = nI (o + 1) := pk_us
        simp only [x_readAgain_ok, x_readAgain, if_pos f1, hon]
        generalize upd (upd m1 4 (nI (s + 5))) 7 (nI (o + 1)) = m2 at *
        obtain ⟨p1, p2, p3, p4, p5⟩ := gd_num (lo := nI 0) (hi := nI 30) (by omega) hB T2 M2 (lo_n (by omega)) (hi_n (by omega))
        simp only [p1, p2, true_and]
        rcases z5 : t_number q2 B (nI 0) (nI 30) with ⟨v4, q4⟩
        rcases z6 : k_readNumber m2 T (nI 0) (nI 30) with ⟨w4, m4⟩
        simp only [z5, z6] at p3 p4 p5
        have F4 : Fw m m4 := F2.tr (Fw.of p3)
        have hcw := hw.cw (show c ≤ 150 by omega)
        have hnc0 : ¬ nI 150 ≤ wk 3 := by
          rw [hw.1]
          exact fun h => by have := (pu_lei (by omega) (by omega)).mp h; omega
        have ec0 : ix (wk 3) = c ∧ isN (wk 3) := by rw [hw.1]; exact ⟨pu_ix (by omega), pu_isN (by omega)⟩
        rcases p5 with ⟨v, a4, hv, ha4, i1, i2, i3, i4, T4, M4⟩ | hb
        · subst i1 i2
          have hv30 : v ≤ 30 := (pu_lei (by omega) (by omega)).mp i4
          obtain ⟨j1, j2, j3, j4⟩ := gd_sign (c := nI 91) (by omega) hB T4 M4 (by decide) (by decide)
          obtain ⟨q5, j5⟩ := sign0 q4 B (nI 91)
          obtain ⟨m5, j6⟩ := ksign0 m4 T (nI 91)
          simp only [j5, j6] at j3 j4
          have F5 : Fw m m5 := F4.tr (Fw.of j3)
          rcases j4 with ⟨j7, j8, T5, M5⟩ | hb
          · have hsk := sk_ge B n a4
            have W5 : WI nr nt nf c wk K F S m5 N := hw.mv (by rw [j3 34 (by decide) (by decide) (by decide), p3 34 (by decide) (by decide) (by decide)]; exact g34)
            have e534 : m5 34 = nI (3 * c) := W5.2.1
            have e573 : m5 7 = nI (o + 1) := by rw [j3 7 (by decide) (by decide) (by decide), p3 7 (by decide) (by decide) (by decide)]; exact g72
            obtain ⟨l1, l2, l3, l4, W6⟩ := W5.put (k := 5) (y := nI v) (w := nI 0) M5 (by have := M5.2.2.2; omega) (by omega) (fun _ => ⟨v, hv30, rfl, rfl⟩) (fun h => by omega) (fun h => by omega) (fun _ h => by omega)
            have Z6 : SZm nr nt nf (upd m5 34 (nI (3 * (c + 1)))) := hz.fw (F5.tr (Fw.u34 _ _))
            obtain ⟨r1, r2, q7, wk7, K7, F7, S7, m7, N7, r3, r4, r5, r6, q8, m8, r7, r8, G8, S8⟩ := ag_lp (e := e) (c0 := c + 1) hn hB h6 (hA h6) hf' (wk 3) (m5 34) (upd K c (nI 5)) (upd S c (nI 0)) (cN 150) 0 FU (sk B n a4 + 1) q5 (upd m5 34 (nI (3 * (c + 1)))) (upd wk 3 (nI (c + 1))) (upd K c (nI 5)) (upd F c (nI v)) (upd S c (nI 0)) (upd (upd (upd N (3 * c) (nI 5)) (3 * c + 1) (nI v)) (3 * c + 2) (nI 0)) (by rw [cN_eq]; omega) (by rw [FU_eq]; omega) (by rw [FU_eq]; omega) (Or.inl ⟨_, c + 1, Nat.le_refl _, T5, M5.u (by decide) (by decide) (by decide), by rw [pk_un (by decide)]; exact e573, Z6, W6, ⟨0, rfl⟩, fun i _ => ⟨rfl, rfl⟩, by omega⟩)
            simp only [j1, j2, j5, j6, l1, l2, l3, l4, r1, r2, r3, r4, r5, r6, r7, r8, true_and]
            have G9 : Fw m m8 := (F5.tr (Fw.u34 _ _)).tr G8
            have hnc : ¬ nI 150 ≤ wk 3 := by
              rw [hw.1]
              exact fun h => by have := (pu_lei (by omega) (by omega)).mp h; omega
            have ec : ix (wk 3) = c ∧ isN (wk 3) := by rw [hw.1]; exact ⟨pu_ix (by omega), pu_isN (by omega)⟩
            have e5c : ix (m5 34) = 3 * c ∧ isN (m5 34) := by rw [e534]; exact ⟨pu_ix (by omega), pu_isN (by omega)⟩
            simp only [if_neg hnc, ec.1, ec.2, e5c.1, e5c.2, show c < 150 by omega, show 3 * c + 2 < 150 by omega, true_and, and_true]
            rcases S8 with ⟨a', c', k1, k2, k3, k4, k5, k6, ⟨fu, k7⟩, k8, k9⟩ | ⟨hb, hc9⟩
            · have M8 : MS (upd m8 7 (m8 7 - nI 1)) n a' := k3.u (by decide) (by decide) (by decide)
              have hcc := Seg.le fu _ _ _ k7
              have han' := k3.2.2.2
              have S9 : SW nr nt nf n o e c (a + 1) K S q8 (upd m8 7 (m8 7 - nI 1)) wk7 K7 F7 (upd S7 c (wk7 3)) (upd N7 (3 * c + 2) (m8 34)) := by
                rw [k6.1, k6.2.1]
                refine Or.inl ⟨a', c', by omega, k2, M8, by rw [pk_us, k4]; exact pu_s1 o, hz.fw (G9.tr (Fw.u7 _ _)), ⟨k6.1, by rw [pk_un (by decide)]; exact k6.2.1, fun i hi => ?_⟩, ⟨fu + 1, ?_⟩, fun i hi => ?_, k9⟩
                · obtain ⟨u1, u2⟩ := k8 c (by omega)
                  rw [pk_us] at u1
                  obtain ⟨kk, x1, x2, x3, x4, x5, x6, x7, x8, x9⟩ := k6.2.2 i hi
                  by_cases ei : i = c
                  · subst ei
                    have k5' : kk = 5 := by clear x5 x6 x7 x8 x9; rw [u1] at x2; exact (pu_inj (by omega) (by omega) x2).symm
                    subst k5'
                    obtain ⟨t, e', y1, y2, -⟩ := x5 rfl
                    have hc150 : c' ≤ 150 := by clear x5 x6 x7 x8 x9; omega
                    clear x5 x6 x7 x8 x9
                    refine ⟨5, by omega, x2, ?_, ?_, fun _ => ⟨t, c', y1, y2, hc150, pk_us, pk_us⟩, fun h => by omega, fun h => by omega, fun h => by omega, fun _ h => by omega⟩
                    · rw [pk_un (by omega)]; exact x3
                    · rw [pk_un (by omega)]; exact x4
                  · obtain ⟨⟨-, -, a3⟩, ⟨-, -, b3⟩, -, -, c3⟩ := ne3 ei
                    refine ⟨kk, x1, x2, ?_, ?_, fun h => ?_, fun h => ?_, x7, fun h => ?_, fun h h' => ?_⟩
                    · rw [pk_un a3]; exact x3
                    · rw [pk_un b3]; exact x4
                    · rw [pk_un ei, pk_un c3]; exact x5 h
                    · rw [pk_un ei, pk_un c3]; exact x6 h
                    · rw [pk_un ei]; exact x8 h
                    · rw [pk_un ei]; exact x9 h h'
                · obtain ⟨u1, u2⟩ := k8 c (by omega)
                  rw [pk_us] at u1
                  exact Or.inr (Or.inr ⟨u1, c', 6 - (o + 1), by omega, pk_us, by omega, Nat.le_refl _, by omega, Seg.cg fu _ _ _ (fun t h1 h2 => ⟨rfl, pk_un (by omega)⟩) k7, Seg.nl fu⟩)
                · obtain ⟨u1, u2⟩ := k8 i (by omega)
                  rw [pk_un (by omega)] at u1 u2
                  exact ⟨u1, by rw [pk_un (by omega)]; exact u2⟩
              obtain ⟨t1, t2, q9, m9, t3, t4, G10, S10⟩ := S9.sg (T := T) hn hB (x := nI 59) (by decide) (by decide)
              simp only [M8.fi, if_neg pu_n10, t1, t2, t3, t4, true_and]
              exact ⟨q9, wk7, K7, F7, _, m9, _, rfl, rfl, (G9.tr (Fw.u7 _ _)).tr G10, S10.le⟩
            · have H8 : Bd q8 (upd m8 7 (m8 7 - nI 1)) n := hb.u (by decide) (by decide) (by decide) (by decide)
              have S9 : SW nr nt nf n o e c (a + 1) K S q8 (upd m8 7 (m8 7 - nI 1)) wk7 K7 F7 (upd S7 c (wk7 3)) N7 := Or.inr ⟨H8, hc9⟩
              obtain ⟨t1, t2, q9, m9, t3, t4, G10, S10⟩ := S9.sg (T := T) hn hB (x := nI 59) (by decide) (by decide)
              simp only [H8.fi, if_pos pu_n01, t1, t2, t3, t4, true_and]
              exact ⟨q9, wk7, K7, F7, _, m9, _, rfl, rfl, (G9.tr (Fw.u7 _ _)).tr G10, S10.le⟩
          · obtain ⟨x1, wk5, K5, F5', S5, x2, x3⟩ := hcw.put (K := K) (F := F) (S := S) (nI 5) (nI v) (nI 0)
            obtain ⟨a1, a2, a3, a4', q6, a5, a6, a7, a8, a9, q7, b1, b2, b3, b4, b5, b6, q8, b7, b8⟩ := ag_bad (f := f) (g := g) (f' := f') (g' := g') (B := B) (T := T) (wk := wk5) (K := K5) (F := F5') (S := S5) (N := N) (nr := nr) (nt := nt) (nf := nf) (o := o) (e := e) (c := c) (p := a + 1) hn hb hcw x3 (nI o) (wk 3) (m5 34) (nI v) K S
            simp only [x1, x2, j1, j2, j5, j6, a1, a2, a3, a4', a5, a6, a7, a8, a9, b1, b3, b4, b5, b6, b7, if_pos pu_n01, if_neg hnc0, ec0.1, ec0.2, show c < 150 by omega, true_and, and_true]
            exact ⟨q8, wk5, K5, F5', _, _, N, rfl, rfl, F5.tr (Fw.u7 _ _), b8 _⟩
        · obtain ⟨x1, wk5, K5, F5', S5, x2, x3⟩ := hcw.put (K := K) (F := F) (S := S) (nI 5) v4 (nI 0)
          obtain ⟨j1, j2, j3, j4⟩ := hb.sg (B := B) (T := T) (by omega) (c := nI 91) (by decide)
          obtain ⟨q5, j5⟩ := sign0 q4 B (nI 91)
          obtain ⟨m5, j6⟩ := ksign0 m4 T (nI 91)
          simp only [j5, j6] at j3 j4
          subst j4
          obtain ⟨a1, a2, a3, a4', q6, a5, a6, a7, a8, a9, q7, b1, b2, b3, b4, b5, b6, q8, b7, b8⟩ := ag_bad (f := f) (g := g) (f' := f') (g' := g') (B := B) (T := T) (wk := wk5) (K := K5) (F := F5') (S := S5) (N := N) (nr := nr) (nt := nt) (nf := nf) (o := o) (e := e) (c := c) (p := a + 1) hn j3 hcw x3 (nI o) (wk 3) (m5 34) w4 K S
          simp only [x1, x2, j1, j2, j5, j6, a1, a2, a3, a4', a5, a6, a7, a8, a9, b1, b3, b4, b5, b6, b7, if_pos pu_n01, if_neg hnc0, ec0.1, ec0.2, show c < 150 by omega, true_and, and_true]
          exact ⟨q8, wk5, K5, F5', _, _, N, rfl, rfl, F4.tr (Fw.u7 _ _), b8 _⟩
      · have ho6 : o = 6 := by omega
        subst ho6
        have f1 : ¬ nI 6 < nI 6 := fun h => by have := (pu_lti (by omega) (by omega)).mp h; omega
        have g7 : m1 7 = nI 6 := by rw [F1 7 (by decide) (by decide) (by decide)]; exact h7
        obtain ⟨hT, -⟩ := TF.of (kd := 3) (s := s) T2.1 T2.2.1 T2.2.2.2.1 T2.2.2.2.2.1 T2.2.2.2.2.2 ⟨by omega, by omega⟩
        obtain ⟨g1, g2⟩ := MF.of (kd := 3) (s := s) M1.1 M1.2.1 M1.2.2.1 M1.2.2.2 (by omega)
        rcases hf : t_fail q2 (nI 3) (nI s) with ⟨x9, q9⟩
        rcases hg : k_wrong m1 (nI 3) (nI s) with ⟨y9, m9⟩
        rw [hf] at hT
        rw [hg] at g1 g2
        simp only at hT g1 g2
        have hon : k_opensOne m1 (nI 5) = (0, upd m9 7 (m9 7 + nI 1)) := by
          simp only [k_opensOne, M1.fi, if_neg pu_n10, g7, M1.2.1, ↓reduceIte, hg, k_fine_f g1.2.1 g1.2.2.2.1, if_pos pu_n01]
        have M0 : MF (upd m9 7 (m9 7 + nI 1)) n 3 s := g1.u (by decide) (by decide) (by decide) (by decide)
        have F0 : Fw m (upd m9 7 (m9 7 + nI 1)) := (Fw.of (F1.tr g2)).tr (Fw.u7 _ _)
        simp only [x_readAgain_ok, x_readAgain, if_neg f1, w2, hf, hon]
        generalize upd m9 7 (m9 7 + nI 1) = m0 at *
        have hb : Bd q9 m0 n := ⟨3, s, hT, M0⟩
        have hcw := hw.cw (show c ≤ 150 by omega)
        obtain ⟨-, p2, -, p4⟩ := hb.num (B := B) (T := T) (by omega) (nI 0) (nI 30)
        obtain ⟨-, j2, -, j4⟩ := hb.sg (B := B) (T := T) (by omega) (c := nI 91) (by decide)
        obtain ⟨m5, j6⟩ := ksign0 m0 T (nI 91)
        simp only [j6] at j4
        subst j4
        obtain ⟨-, a2, a3, a4', -, -, a6, -, a8, a9, -, -, -, b3, -, b5, b6, -, -, -⟩ := ag_bad (f := f) (g := g) (f' := f') (g' := g') (B := B) (T := T) (wk := wk) (K := K) (F := F) (S := S) (N := N) (nr := nr) (nt := nt) (nf := nf) (o := 6) (e := e) (c := c) (p := a + 1) hn hb hcw hcw (nI 6) (wk 3) (m5 34) (nI 0) K S
        obtain ⟨t1, t2⟩ := hT.sg (B := B) (show n ≤ 600 by omega) (c := nI 59) (by decide)
        obtain ⟨q8, t3⟩ := sign0 q9 B (nI 59)
        rw [t3] at t2
        simp only [p2, p4, j2, j6, a2, a3, a4', a6, a8, a9, b3, b5, b6, if_pos pu_n01, t1, t3, true_and, and_true]
        exact ⟨q8, wk, K, F, S, _, N, rfl, rfl, F0.tr (Fw.u7 _ _), Or.inr ⟨⟨3, s, t2, M0.u (by decide) (by decide) (by decide) (by decide)⟩, hcw⟩⟩
    · have f5 : ¬ nI k0 = nI 5 := fun h => h5 (pu_inj (by omega) (by omega) h)
      obtain ⟨p1, p2⟩ := kpass (by omega) hB FU s m1 M1.1 M1.2.1 hsn (by rw [FU_eq]; omega)
      have M3 := M1.u4 (s := le' B n s) hle
      have F3 : Fm m (upd m1 4 (nI (le' B n s))) := F1.tr (Fm.u4 _ _)
      simp only [if_neg f5, k_pass_ok, k_pass, p1, p2, true_and]
      clear p1 p2
      generalize upd m1 4 (nI (le' B n s)) = m3 at *
      by_cases h4 : k0 = 4
      · subst h4
        obtain ⟨j1, j2, wk7, K7, F7, S7, m7, N7, j3, j4, G7, S8⟩ := sw_one (e := e) (p := a + 1) (k := 4) (y := nI 0) (w := nI 0) hn T2 M3 (by rw [F3 7 (by decide) (by decide) (by decide)]; exact h7) (hz.fw (Fw.of F3)) (hw.mv (F3 34 (by decide) (by decide) (by decide))) (by omega) (fun h => by omega) (fun h => by omega) (fun _ h => by omega) (by omega) (by omega)
        obtain ⟨l1, l2, q9, m9, l3, l4, G9, S9⟩ := S8.sg (T := T) hn hB (x := nI 59) (by decide) (by decide)
        simp only [↓reduceIte, j1, j2, j3, j4, l1, l2, l3, l4, true_and]
        exact ⟨q9, wk7, K7, F7, S7, m9, N7, rfl, rfl, ((Fw.of F3).tr G7).tr G9, S9.le⟩
      · have f4 : ¬ nI k0 = nI 4 := fun h => h4 (pu_inj (by omega) (by omega) h)
        have b23 : m3 23 = nI nf := by rw [F3 23 (by decide) (by decide) (by decide)]; exact hz.2.2
        obtain ⟨p1, p2, p3, p4, p5⟩ := gd_num (lo := nI 0) (hi := nI nf - nI 1) (by omega) hB T2 M3 (lo_n (by omega)) (hi_pred (by omega))
        simp only [if_neg f4, b23, p1, p2, true_and]
        rcases z3 : t_number q2 B (nI 0) (nI nf - nI 1) with ⟨v4, q4⟩
        rcases z4 : k_readNumber m3 T (nI 0) (nI nf - nI 1) with ⟨w4, m4⟩
        simp only [z3, z4] at p3 p4 p5
        have F4 : Fm m m4 := F3.tr p3
        have b21 : m4 21 = nI nr := by rw [F4 21 (by decide) (by decide) (by decide)]; exact hz.1
        have b22 : m4 22 = nI nt := by rw [F4 22 (by decide) (by decide) (by decide)]; exact hz.2.1
        have hz0 : nI k0 = 0 ↔ k0 = 0 := by rw [← nI_0]; exact pu_eqi (by omega) (by omega)
        rcases p5 with ⟨v, a4, hv, ha4, i1, i2, i3, i4, T4, M4⟩ | hb
        · subst i1 i2
          have hvp := le_pred hv (by omega) i4
          clear p1 p2 p3 p4 i3 i4
          by_cases h0' : k0 = 0
          · have h0 := hz0.mpr h0'
            obtain ⟨p1, p2, p3, p4, p5⟩ := gd_num (lo := nI 0) (hi := nI nr - nI 1) (by omega) hB T4 M4 (lo_n (by omega)) (hi_pred (by omega))
            simp only [if_pos h0, b21, p1, p2, true_and]
            rcases z5 : t_number q4 B (nI 0) (nI nr - nI 1) with ⟨v6, q6⟩
            rcases z6 : k_readNumber m4 T (nI 0) (nI nr - nI 1) with ⟨w6, m6⟩
            simp only [z5, z6] at p3 p4 p5
            have F6 : Fm m m6 := F4.tr p3
            rcases p5 with ⟨r, a6, hr, ha6, i1, i2, i3, i4, T6, M6⟩ | hb
            · subst i1 i2
              have hrl := le_pred hr (by omega) i4
              obtain ⟨j1, j2, wk7, K7, F7, S7, m7, N7, j3, j4, G7, S8⟩ := sw_one (e := e) (p := a + 1) (k := k0) (y := nI v) (w := nI r) hn T6 M6 (by rw [F6 7 (by decide) (by decide) (by decide)]; exact h7) (hz.fw (Fw.of F6)) (hw.mv (F6 34 (by decide) (by decide) (by decide))) (by omega) (fun _ => ⟨v, hvp, rfl⟩) (fun _ => ⟨r, hrl, rfl⟩) (fun h _ => by omega) (by omega) (by omega)
              obtain ⟨l1, l2, q9, m9, l3, l4, G9, S9⟩ := S8.sg (T := T) hn hB (x := nI 59) (by decide) (by decide)
              simp only [j1, j2, j3, j4, l1, l2, l3, l4, true_and]
              exact ⟨q9, wk7, K7, F7, S7, m9, N7, rfl, rfl, ((Fw.of F6).tr G7).tr G9, S9.le⟩
            · obtain ⟨j1, j2, wk7, K7, F7, S7, m7, N7, j3, j4, G7, S8⟩ := sw_bad (nr := nr) (nt := nt) (nf := nf) (o := o) (e := e) (c := c) (p := a + 1) (K := K) (F := F) (S := S) (N := N) hb (hw.cw (by omega)) (nI k0) (nI v) v6 (nI k0) (nI v) w6 K S
              obtain ⟨l1, l2, q9, m9, l3, l4, G9, S9⟩ := S8.sg (T := T) hn hB (x := nI 59) (by decide) (by decide)
              simp only [j1, j2, j3, j4, l1, l2, l3, l4, true_and]
              exact ⟨q9, wk7, K7, F7, S7, m9, N7, rfl, rfl, ((Fw.of F6).tr G7).tr G9, S9.le⟩
          · have h0 : ¬ nI k0 = 0 := fun h => h0' (hz0.mp h)
            obtain ⟨p1, p2, p3, p4, p5⟩ := gd_num (lo := nI 0) (hi := nI nt - nI 1) (by omega) hB T4 M4 (lo_n (by omega)) (hi_pred (by omega))
            simp only [if_neg h0, b22, p1, p2, true_and]
            rcases z5 : t_number q4 B (nI 0) (nI nt - nI 1) with ⟨v6, q6⟩
            rcases z6 : k_readNumber m4 T (nI 0) (nI nt - nI 1) with ⟨w6, m6⟩
            simp only [z5, z6] at p3 p4 p5
            have F6 : Fm m m6 := F4.tr p3
            rcases p5 with ⟨r, a6, hr, ha6, i1, i2, i3, i4, T6, M6⟩ | hb
            · subst i1 i2
              have hrl := le_pred hr (by omega) i4
              obtain ⟨j1, j2, wk7, K7, F7, S7, m7, N7, j3, j4, G7, S8⟩ := sw_one (e := e) (p := a + 1) (k := k0) (y := nI v) (w := nI r) hn T6 M6 (by rw [F6 7 (by decide) (by decide) (by decide)]; exact h7) (hz.fw (Fw.of F6)) (hw.mv (F6 34 (by decide) (by decide) (by decide))) (by omega) (fun _ => ⟨v, hvp, rfl⟩) (fun h => by omega) (fun _ _ => ⟨r, hrl, rfl⟩) (by omega) (by omega)
              obtain ⟨l1, l2, q9, m9, l3, l4, G9, S9⟩ := S8.sg (T := T) hn hB (x := nI 59) (by decide) (by decide)
              simp only [j1, j2, j3, j4, l1, l2, l3, l4, true_and]
              exact ⟨q9, wk7, K7, F7, S7, m9, N7, rfl, rfl, ((Fw.of F6).tr G7).tr G9, S9.le⟩
            · obtain ⟨j1, j2, wk7, K7, F7, S7, m7, N7, j3, j4, G7, S8⟩ := sw_bad (nr := nr) (nt := nt) (nf := nf) (o := o) (e := e) (c := c) (p := a + 1) (K := K) (F := F) (S := S) (N := N) hb (hw.cw (by omega)) (nI k0) (nI v) v6 (nI k0) (nI v) w6 K S
              obtain ⟨l1, l2, q9, m9, l3, l4, G9, S9⟩ := S8.sg (T := T) hn hB (x := nI 59) (by decide) (by decide)
              simp only [j1, j2, j3, j4, l1, l2, l3, l4, true_and]
              exact ⟨q9, wk7, K7, F7, S7, m9, N7, rfl, rfl, ((Fw.of F6).tr G7).tr G9, S9.le⟩
        · clear p1 p2 p3 p4
          by_cases h0' : k0 = 0
          · have h0 := hz0.mpr h0'
            obtain ⟨p1, p2, p3, p4⟩ := hb.num (B := B) (T := T) (by omega) (nI 0) (nI nr - nI 1)
            simp only [if_pos h0, b21, p1, p2, p4, true_and]
            rcases z5 : t_number q4 B (nI 0) (nI nr - nI 1) with ⟨v6, q6⟩
            rw [z5] at p3
            simp only at p3
            obtain ⟨j1, j2, wk7, K7, F7, S7, m7, N7, j3, j4, G7, S8⟩ := sw_bad (nr := nr) (nt := nt) (nf := nf) (o := o) (e := e) (c := c) (p := a + 1) (K := K) (F := F) (S := S) (N := N) p3 (hw.cw (by omega)) (nI k0) v4 v6 (nI k0) w4 (nI 0) K S
            obtain ⟨l1, l2, q9, m9, l3, l4, G9, S9⟩ := S8.sg (T := T) hn hB (x := nI 59) (by decide) (by decide)
            simp only [j1, j2, j3, j4, l1, l2, l3, l4, true_and]
            exact ⟨q9, wk7, K7, F7, S7, m9, N7, rfl, rfl, ((Fw.of F4).tr G7).tr G9, S9.le⟩
          · have h0 : ¬ nI k0 = 0 := fun h => h0' (hz0.mp h)
            obtain ⟨p1, p2, p3, p4⟩ := hb.num (B := B) (T := T) (by omega) (nI 0) (nI nt - nI 1)
            simp only [if_neg h0, b22, p1, p2, p4, true_and]
            rcases z5 : t_number q4 B (nI 0) (nI nt - nI 1) with ⟨v6, q6⟩
            rw [z5] at p3
            simp only at p3
            obtain ⟨j1, j2, wk7, K7, F7, S7, m7, N7, j3, j4, G7, S8⟩ := sw_bad (nr := nr) (nt := nt) (nf := nf) (o := o) (e := e) (c := c) (p := a + 1) (K := K) (F := F) (S := S) (N := N) p3 (hw.cw (by omega)) (nI k0) v4 v6 (nI k0) w4 (nI 0) K S
            obtain ⟨l1, l2, q9, m9, l3, l4, G9, S9⟩ := S8.sg (T := T) hn hB (x := nI 59) (by decide) (by decide)
            simp only [j1, j2, j3, j4, l1, l2, l3, l4, true_and]
            exact ⟨q9, wk7, K7, F7, S7, m9, N7, rfl, rfl, ((Fw.of F4).tr G7).tr G9, S9.le⟩
  · subst e1
    obtain ⟨g1, g2⟩ := MF.of (kd := 1) (s := s) M1.1 M1.2.1 M1.2.2.1 M1.2.2.2 (by omega)
    rcases hg : k_wrong m1 (nI 1) (nI s) with ⟨y9, m9⟩
    rw [hg] at g1 g2
    simp only at g1 g2
    have S8 : SW nr nt nf n o e c (a + 1) K S q2 m9 wk K F S N := Or.inr ⟨⟨1, s, T2, g1⟩, hw.cw (by omega)⟩
    obtain ⟨l1, l2, q9, m10, l3, l4, G9, S9⟩ := S8.sg (T := T) hn hB (x := nI 59) (by decide) (by decide)
    simp only [step_n e2, ↓reduceIte, if_neg (show ¬ (-1 : Int32) = nI 5 by decide), if_neg (show ¬ (-1 : Int32) = nI 4 by decide), M1.2.1, hg, l1, l2, l3, l4, true_and]
    exact ⟨q9, wk, K, F, S, m10, N, rfl, rfl, (Fw.of (F1.tr g2)).tr G9, S9.le⟩
