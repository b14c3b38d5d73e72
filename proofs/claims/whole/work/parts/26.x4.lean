/-! a work is done: steps in a row, deeper and deeper -/
theorem do_lp {np nr nt nf c o d : Nat} {A B L W Lw C K F Sx RO TH O V N : Nat → Int32} {f : ZnA} {g : ZnG} {f' : ZnB} {g' : ZnH} (hT : TRo np nr A B L RO) (hW : TW nt W TH) (hz : SZ np nr nt nf) (hr : ∀ i, i < c → WRi nr nt nf K F Sx N i) (hc : c ≤ 37)
    (hrec : ∀ d' fu i j, d = d' + 1 → Seg K Sx fu d' i j → j ≤ c → DX np nt nf A B L W Lw C K F Sx RO TH O V N i j (o + 1) f g f' g') : ∀ (fu k k' i j : Nat) (G Vs wk R md St Fa S : Nat → Int32), Seg K Sx fu d i j → j ≤ c → j < i + k → j < i + k' → XS np nt nf Lw C O V wk R md S →
    x_doSteps_st_11_ok f g A B L W Lw C K F Sx nt nf (nI j) (nI o) k (nI i) G Vs wk R ∧ k_goesSteps_st_2_ok f' g' RO TH O V N (nI (3 * j)) k' (nI (3 * i)) md St Fa S ∧ ∃ u1 u2 G' Vs' wk' R' md' St' Fa' S', x_doSteps_st_11 f A B L W Lw C K F Sx nt nf (nI j) (nI o) k (nI i) G Vs wk R = (u1, G', Vs', wk', R') ∧ k_goesSteps_st_2 f' RO TH O V N (nI (3 * j)) k' (nI (3 * i)) md St Fa S = (u2, md', St', Fa', S') ∧ Fx md md' ∧ XS np nt nf Lw C O V wk' R' md' S' := by
  intro fu
  induction fu with
  | zero =>
    intro k k' i j G Vs wk R md St Fa S hs hj h1 h2 hX
    have e : i = j := hs
    subst e
    obtain ⟨k, rfl⟩ : ∃ x, k = x + 1 := ⟨k - 1, by omega⟩
    obtain ⟨k', rfl⟩ : ∃ x, k' = x + 1 := ⟨k' - 1, by omega⟩
    simp only [x_doSteps_st_11_ok, x_doSteps_st_11, k_goesSteps_st_2_ok, k_goesSteps_st_2, if_pos (Int32.le_refl _), true_and]
    exact ⟨_, _, G, Vs, wk, R, md, St, Fa, S, rfl, rfl, Fx.rf md, hX⟩
  | succ fu ih =>
    intro k k' i j G Vs wk R md St Fa S hs hj h1 h2 hX
    have hij := Seg.le (fu + 1) d i j hs
    obtain ⟨k, rfl⟩ : ∃ x, k = x + 1 := ⟨k - 1, by omega⟩
    obtain ⟨k', rfl⟩ : ∃ x, k' = x + 1 := ⟨k' - 1, by omega⟩
    by_cases hlt : i = j
    · subst hlt
      simp only [x_doSteps_st_11_ok, x_doSteps_st_11, k_goesSteps_st_2_ok, k_goesSteps_st_2, if_pos (Int32.le_refl _), true_and]
      exact ⟨_, _, G, Vs, wk, R, md, St, Fa, S, rfl, rfl, Fx.rf md, hX⟩
    · have f1 : ¬ nI j ≤ nI i := fun h => by have := (pu_lei (by omega) (by omega)).mp h; omega
      have f2 : ¬ nI (3 * j) ≤ nI (3 * i) := fun h => by have := (pu_lei (by omega) (by omega)).mp h; omega
      obtain ⟨b, hb, e1, e2⟩ := hX.2.1
      have i1 : ix (nI i) = i := pu_ix (by omega)
      have i2 : isN (nI i) := pu_isN (by omega)
      have i3 : ix (nI (3 * i)) = 3 * i := pu_ix (by omega)
      have i4 : isN (nI (3 * i)) := pu_isN (by omega)
      have i5 : ix (md 22) = nt ∧ isN (md 22) := by rw [hX.2.2.2.2.1.1]; exact ⟨pu_ix (by have := hz.2.2.1; omega), pu_isN (by have := hz.2.2.1; omega)⟩
      have i6 : ix (md 23) = nf ∧ isN (md 23) := by rw [hX.2.2.2.2.1.2]; exact ⟨pu_ix (by have := hz.2.2.2; omega), pu_isN (by have := hz.2.2.2; omega)⟩
      simp only [x_doSteps_st_11_ok, x_doSteps_st_11, k_goesSteps_st_2_ok, k_goesSteps_st_2, if_neg f1, if_neg f2, e1, e2]
      by_cases c2 : nI 200 ≤ nI b
      · simp only [if_pos c2, true_and]
        exact ⟨_, _, G, Vs, wk, R, md, St, Fa, S, rfl, rfl, Fx.rf md, hX⟩
      · have hb2 : b < 200 := by rw [pu_lei (by omega) (by omega)] at c2; omega
        have j1 : i < 150 := by omega
        have j2 : 3 * i < 150 := by omega
        have j3 : 3 * i + 1 < 150 := by omega
        have j4 : 3 * i + 2 < 150 := by omega
        have hwr := hr i (by omega)
        obtain ⟨kk, x1, x2, x3, x4, x5, -⟩ := id hwr
        simp only [if_neg c2, i1, i2, i3, i4, j1, j2, j3, j4, true_and, nI_add]
        rcases hs with hs | ⟨hk5, -, hs⟩ | ⟨hk5, e, d', hd, hS, hie, hej, he150, hs1, hs2⟩
        · exact absurd hs hlt
        · clear x5
          have n5 : ¬ N (3 * i) = nI 5 := by rw [x3, ← x2]; exact hk5
          have hL' : LWr Lw C (upd md 37 (nI (b + 1))) O V := LWr_cg hX.2.2.2.2.2 (pk_un (by decide))
          obtain ⟨s1, s2, v, G', Vs', R', St', Fa', S', s3, s4, s5⟩ := st_eq (G := G) (Vs := Vs) (St := St) (Fa := Fa) hT hW hz hL' hX.1 hwr hk5
          simp only [if_neg hk5, if_neg n5, i5, i6, hz.2.2.1, hz.2.2.2, s1, s2, s3, s4, true_and]
          have e3 : nI (3 * i + 3) = nI (3 * (i + 1)) := by congr 1
          rw [e3]
          by_cases hv : v = 0
          · simp only [if_pos hv]
            obtain ⟨g1, g2, u1, u2, G2, Vs2, wk2, R2, md2, St2, Fa2, S2, g3, g4, g5, g6⟩ := ih k k' (i + 1) j G' Vs' (upd (upd wk 2 (nI (b + 1))) 1 (wk 1 + nI 1)) R' (upd (upd md 37 (nI (b + 1))) 39 (md 39 + nI 1)) St' Fa' S' hs hj (by omega) (by omega)
              (hX.mv s5 ⟨b + 1, by omega, by rw [pk_un (by decide), pk_us], by rw [pk_un (by decide), pk_us]⟩ (by rw [pk_un (by decide), pk_un (by decide), pk_un (by decide), pk_un (by decide)]; exact hX.2.2.1) (by rw [pk_us, pk_us, hX.2.2.2.1]) ((Fx.u _ (by omega)).tr (Fx.u _ (by omega))))
            exact ⟨g1, g2, u1, u2, G2, Vs2, wk2, R2, md2, St2, Fa2, S2, g3, g4, ((Fx.u _ (by omega)).tr (Fx.u _ (by omega))).tr g5, g6⟩
          · simp only [if_neg hv]
            obtain ⟨g1, g2, u1, u2, G2, Vs2, wk2, R2, md2, St2, Fa2, S2, g3, g4, g5, g6⟩ := ih k k' (i + 1) j G' Vs' (upd (upd wk 2 (nI (b + 1))) 0 (wk 0 + nI 1)) R' (upd (upd md 37 (nI (b + 1))) 38 (md 38 + nI 1)) St' Fa' S' hs hj (by omega) (by omega)
              (hX.mv s5 ⟨b + 1, by omega, by rw [pk_un (by decide), pk_us], by rw [pk_un (by decide), pk_us]⟩ (by rw [pk_us, pk_us, hX.2.2.1]) (by rw [pk_un (by decide), pk_un (by decide), pk_un (by decide), pk_un (by decide)]; exact hX.2.2.2.1) ((Fx.u _ (by omega)).tr (Fx.u _ (by omega))))
            exact ⟨g1, g2, u1, u2, G2, Vs2, wk2, R2, md2, St2, Fa2, S2, g3, g4, ((Fx.u _ (by omega)).tr (Fx.u _ (by omega))).tr g5, g6⟩
        · have k5' : kk = 5 := by clear x5; rw [hk5] at x2; exact (pu_inj (by omega) (by omega) x2).symm
          obtain ⟨t, e', y1, y2, y3, y4, y5⟩ := x5 k5'
          clear x5
          have ee : e' = e := pu_inj (by omega) (by omega) (y4.symm.trans hS)
          subst ee
          have n5 : N (3 * i) = nI 5 := by rw [x3, k5']
          have eN : N (3 * i + 1) = nI t := by rw [← x4]; exact y2
          obtain ⟨g1, g2, u1, u2, G', Vs', wk', R', md', St', Fa', S', g3, g4, g5, g6⟩ := ag_do (f := f) (g := g) (f' := f') (g' := g') (show i < 40 by omega) y1 y2 eN hS (hrec d' fu (i + 1) e' hd hs1 (by omega)) (nI j) (nI (i + 1)) (nI (3 * j)) FU FU 0 G Vs (upd wk 2 (nI (b + 1))) R (upd md 37 (nI (b + 1))) St Fa S (by rw [FU_eq]; omega) (by rw [FU_eq]; omega) (by omega)
            (hX.mv hX.1 ⟨b + 1, by omega, by rw [pk_us], by rw [pk_us]⟩ (by rw [pk_un (by decide), pk_un (by decide)]; exact hX.2.2.1) (by rw [pk_un (by decide), pk_un (by decide)]; exact hX.2.2.2.1) (Fx.u _ (by omega)))
          have hnx : (if nI (i + 1) < Sx i then Sx i else nI (i + 1)) = nI e' := by
            rw [hS]
            by_cases h : i + 1 < e'
            · rw [if_pos ((pu_lti (by omega) (by omega)).mpr h)]
            · rw [if_neg (fun z => h ((pu_lti (by omega) (by omega)).mp z))]
              congr 1
              omega
          obtain ⟨l1, l2, u3, u4, G2, Vs2, wk2, R2, md2, St2, Fa2, S2, l3, l4, l5, l6⟩ := ih k k' e' j G' Vs' wk' R' md' St' Fa' S' hs2 hj (by omega) (by omega) g6
          simp only [if_pos hk5, if_pos n5, y5, hnx, g1, g2, g3, g4, l1, l2, true_and]
          exact ⟨u3, u4, G2, Vs2, wk2, R2, md2, St2, Fa2, S2, l3, l4, ((Fx.u _ (by omega)).tr g5).tr l5, l6⟩
theorem do_rec {np nr nt nf c : Nat} {A B L W Lw C K F Sx RO TH O V N : Nat → Int32} (hT : TRo np nr A B L RO) (hW : TW nt W TH) (hz : SZ np nr nt nf) (hr : ∀ i, i < c → WRi nr nt nf K F Sx N i) (hc : c ≤ 37) : ∀ (q d fu i j o : Nat), d < q → o + d ≤ 6 → Seg K Sx fu d i j → j ≤ c →
    DX np nt nf A B L W Lw C K F Sx RO TH O V N i j o (x_doSteps_rec nt nf q) (x_doSteps_rec_ok nt nf q) (k_goesSteps_rec q) (k_goesSteps_rec_ok q)
  | 0, d, fu, i, j, o, h, _, _, _ => by omega
  | q + 1, d, fu, i, j, o, h, ho, hs, hj => by
    intro G Vs wk R md St Fa S hX
    obtain ⟨g1, g2, u1, u2, G', Vs', wk', R', md', St', Fa', S', g3, g4, g5, g6⟩ := do_lp (o := o) (f := x_doSteps_rec nt nf q) (g := x_doSteps_rec_ok nt nf q) (f' := k_goesSteps_rec q) (g' := k_goesSteps_rec_ok q) hT hW hz hr hc (fun d' fu' i' j' hd' hs' hj' => do_rec hT hW hz hr hc q d' fu' i' j' (o + 1) (by omega) (by omega) hs' hj') fu FU FU i j G Vs wk R md St Fa S hs hj (by rw [FU_eq]; omega) (by rw [FU_eq]; omega) hX
    have f1 : nI o ≤ nI 6 := (pu_lei (by omega) (by omega)).mpr (by omega)
    simp only [x_doSteps_rec_ok, x_doSteps_rec, x_doSteps_st_ok, x_doSteps_st, k_goesSteps_rec_ok, k_goesSteps_rec, k_goesSteps_st_ok, k_goesSteps_st, if_pos f1, g1, g2, g3, g4, and_true, true_and]
    exact ⟨G', Vs', wk', R', md', St', Fa', S', rfl, rfl, g5, g6⟩
/-! the readers of steps, by how deep they may go -/
theorem rs_end {B T : Nat → Int32} {n : Nat} (hn : n ≤ 600) (hB : BY B T) (k : Nat) (m N : Nat → Int32) (hm : MS m n n) (hw : k_word m T = (nI 0, m)) (hk : 1 ≤ k) : k_readStep_rec_ok k m T N ∧ ∃ m' N', k_readStep_rec k m T N = (0, m', N') ∧ MF m' n 1 n ∧ Fw m m' := by
  obtain ⟨k, rfl⟩ : ∃ x, k = x + 1 := ⟨k - 1, by omega⟩
  obtain ⟨g1, g2⟩ := MF.of (kd := 1) (s := n) hm.1 hm.2.1 hm.2.2.1 hm.2.2.2 hn
  rcases hg : k_wrong m (nI 1) (nI n) with ⟨y9, m9⟩
  rw [hg] at g1 g2
  simp only at g1 g2
  obtain ⟨d4, d5⟩ := g1.sg (T := T) (nI 59)
  obtain ⟨m3, d6⟩ := ksign0 m9 T (nI 59)
  rw [d6] at d5
  simp only at d5
  rw [d5] at d6
  have hs0 : k_stepOf (nI 0) = -1 := by
    refine step_n (fun k hk => ?_)
    have hc : k = 0 ∨ k = 1 ∨ k = 2 ∨ k = 3 ∨ k = 4 ∨ k = 5 := by omega
    rcases hc with rfl | rfl | rfl | rfl | rfl | rfl
    · show ¬ nI 0 = k_of_s19; rw [of_19]; decide +kernel
    · show ¬ nI 0 = k_of_s20; rw [of_20]; decide +kernel
    · show ¬ nI 0 = k_of_s21; rw [of_21]; decide +kernel
    · show ¬ nI 0 = k_of_s22; rw [of_22]; decide +kernel
    · show ¬ nI 0 = k_of_s23; rw [of_23]; decide +kernel
    · show ¬ nI 0 = k_of_s24; rw [of_24]; decide +kernel
  obtain ⟨y1, -, -⟩ := kword hn hB hm
  simp only [k_readStep_rec_ok, k_readStep_rec, k_readStep_st_ok, k_readStep_st, y1, hw, hs0, ↓reduceIte, hm.2.1, hg, d4, d6, true_and]
  exact ⟨m9, N, rfl, g1, Fw.of g2⟩
theorem rs_rec {B T : Nat → Int32} {nr nt nf n : Nat} (hn : n ≤ 150) (hB : BY B T) (hs : nr ≤ 12 ∧ nt ≤ 10 ∧ nf ≤ 6) : ∀ k o, 8 ≤ o + k → o ≤ 6 → QA B T nr nt nf n o (x_readStep_rec nr nt nf k) (x_readStep_rec_ok nr nt nf k) (k_readStep_rec k) (k_readStep_rec_ok k)
  | 0, o, h, ho => by omega
  | k + 1, o, h, ho => rd_a (f := x_readStep_rec nr nt nf k) (g := x_readStep_rec_ok nr nt nf k) (f' := k_readStep_rec k) (g' := k_readStep_rec_ok k) hn hB ho hs (fun h6 => rs_rec hn hB hs k (o + 1) (by omega) (by omega)) (fun m N hm hw => rs_end (by omega) hB k m N hm hw (by omega))
/-- the steps of a work, to the end of the text -/
theorem wrk_lp {B T : Nat → Int32} {nr nt nf n : Nat} (hn : n ≤ 150) (hB : BY B T) (hs : nr ≤ 12 ∧ nt ≤ 10 ∧ nf ≤ 6) (K0 S0 : Nat → Int32) : ∀ (k i K p : Nat) (q m wk Kd F S N : Nat → Int32), n < p + k → n < p + K → 1 ≤ K → SW nr nt nf n 0 0 0 p K0 S0 q m wk Kd F S N →
    x_readFrom_7_ok B nr nt nf k i q wk Kd F S ∧ k_work_68_ok T K m N ∧ ∃ q1 wk1 K1 F1 S1 m1 N1, x_readFrom_7 B nr nt nf k i q wk Kd F S = (q1, wk1, K1, F1, S1) ∧ k_work_68 T K m N = (m1, N1) ∧ Fw m m1 ∧ SW nr nt nf n 0 0 0 p K0 S0 q1 m1 wk1 K1 F1 S1 N1
  | k, i, 0, p, q, m, wk, Kd, F, S, N, _, _, h, _ => by omega
  | k, i, K + 1, p, q, m, wk, Kd, F, S, N, hk, hK, _, hS => by
    rcases hS with ⟨a, c, hp, hq, hm, h7, hz, hw, ⟨fv, hseg⟩, hfr, hce⟩ | ⟨hb, hc⟩
    · have han := hq.2.2.2.2.2
      obtain ⟨k, rfl⟩ : ∃ k', k = k' + 1 := ⟨k - 1, by omega⟩
      obtain ⟨n1, n2, q1, v, w, s, x1, x2, x3, x4, es, has, hsn, hss, Q1, M1, q14, hv⟩ := gd_next (T := T) (by omega) hB hq hm
      have W1 : WI nr nt nf c wk Kd F S (upd m 4 (nI s)) N := hw.mv (pk_un (by decide))
      have g7 : upd m 4 (nI s) 7 = nI 0 := by rw [pk_un (by decide)]; exact h7
      have F1 : Fw m (upd m 4 (nI s)) := Fw.u4 _ _
      have z1 := hz.fw F1
      simp only [x_readFrom_7_ok, x_readFrom_7, k_work_68_ok, k_work_68, k_isMore_ok, k_isMore, hm.fi, if_neg pu_n10, n1, n2, x1, x2, M1.1, M1.2.1, true_and, and_true]
      generalize upd m 4 (nI s) = m1 at *
      rcases hv with ⟨hl, hv1, hw1, b, hb, eb⟩ | ⟨hl, hv1, hw1⟩
      · have f1 : ¬ v = -1 := by rw [hv1, eb]; exact pu_nm (by omega)
        have f2 : ¬ nI n ≤ nI s := fun h => by have := (pu_lei (by omega) (by omega)).mp h; omega
        obtain ⟨a1, a2, q3, wk3, K3, F3, S3, m3, N3, a3, a4, Fa, Sa⟩ := rs_rec hn hB hs (cN 10) 0 (by rw [cN_eq]; omega) (by omega) q1 m1 wk Kd F S N s c 0 Q1 M1 g7 z1 W1 (by omega)
        simp only [if_neg f1, if_neg f2, if_neg pu_n10, x_readStep_ok, x_readStep, k_readStep_ok, k_readStep, a1, a2, a3, a4, true_and]
        have Sb : SW nr nt nf n 0 0 0 (s + 1) K0 S0 q3 m3 wk3 K3 F3 S3 N3 := by
          rcases Sa with ⟨a', c', k1, k2, k3, k4, k5, k6, ⟨fu, k7⟩, k8, k9⟩ | Sa
          · exact Or.inl ⟨a', c', k1, k2, k3, k4, k5, k6, ⟨fv + fu, Seg.app k7 fv 0 (Seg.cg fv _ 0 c (fun t _ h => k8 t h) hseg)⟩, fun t ht => by omega, k9⟩
          · exact Or.inr Sa
        obtain ⟨b1, b2, q4, wk4, K4, F4, S4, m4, N4, b3, b4, Fb, Sc⟩ := wrk_lp hn hB hs K0 S0 k (i + 1) K (s + 1) q3 m3 wk3 K3 F3 S3 N3 (by omega) (by omega) (by omega) Sb
        exact ⟨b1, b2, q4, wk4, K4, F4, S4, m4, N4, b3, b4, (F1.tr Fa).tr Fb, Sc.dn (by omega)⟩
      · have f2 : nI n ≤ nI s := (pu_lei (by omega) (by omega)).mpr (by omega)
        subst hv1
        simp only [↓reduceIte, if_pos f2, if_pos pu_n01, true_and]
        exact ⟨q1, wk, Kd, F, S, m1, N, rfl, rfl, F1, Or.inl ⟨s, c, by omega, Q1, M1, g7, z1, W1, ⟨fv, hseg⟩, hfr, by omega⟩⟩
    · obtain ⟨K9, hK9⟩ := fu_s
      have hm := hb.fi
      simp only [k_work_68_ok, k_work_68, hm, if_pos pu_n01, true_and]
      have hcl : x_readFrom_7_ok B nr nt nf k i q wk Kd F S ∧ ∃ q1, x_readFrom_7 B nr nt nf k i q wk Kd F S = (q1, wk, Kd, F, S) ∧ Bd q1 m n := by
        cases k with
        | zero => exact ⟨trivial, q, rfl, hb⟩
        | succ k =>
          obtain ⟨a1, q1, a2, a3⟩ := hb.nx (B := B) (by omega)
          simp only [x_readFrom_7_ok, x_readFrom_7, a1, a2, ↓reduceIte, true_and]
          exact ⟨q1, rfl, a3⟩
      obtain ⟨c1, q1, c2, c3⟩ := hcl
      exact ⟨c1, q1, wk, Kd, F, S, m, N, c2, rfl, Fw.rf m, Or.inr ⟨c3, hc⟩⟩
