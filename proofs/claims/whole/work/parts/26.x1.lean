/-! a work's text: a step -/
theorem step_k {k : Nat} (hk : k < 6) : k_stepOf (oc_s3 k) = nI k := by
  have hc : k = 0 ∨ k = 1 ∨ k = 2 ∨ k = 3 ∨ k = 4 ∨ k = 5 := by omega
  rcases hc with rfl | rfl | rfl | rfl | rfl | rfl
  · simp only [k_stepOf, oc_s3, ↓reduceIte]
  · simp only [k_stepOf, oc_s3, ↓reduceIte, if_neg of_n20_19]
  · simp only [k_stepOf, oc_s3, ↓reduceIte, if_neg of_n21_19, if_neg of_n21_20]
  · simp only [k_stepOf, oc_s3, ↓reduceIte, if_neg of_n22_19, if_neg of_n22_20, if_neg of_n22_21]
  · simp only [k_stepOf, oc_s3, ↓reduceIte, if_neg of_n23_19, if_neg of_n23_20, if_neg of_n23_21, if_neg of_n23_22]
  · simp only [k_stepOf, oc_s3, ↓reduceIte, if_neg of_n24_19, if_neg of_n24_20, if_neg of_n24_21, if_neg of_n24_22, if_neg of_n24_23]
theorem step_n {w : Int32} (hw : ∀ k, k < 6 → ¬ w = oc_s3 k) : k_stepOf w = -1 := by
  have h0 : ¬ w = k_of_s19 := hw 0 (by omega)
  have h1 : ¬ w = k_of_s20 := hw 1 (by omega)
  have h2 : ¬ w = k_of_s21 := hw 2 (by omega)
  have h3 : ¬ w = k_of_s22 := hw 3 (by omega)
  have h4 : ¬ w = k_of_s23 := hw 4 (by omega)
  have h5 : ¬ w = k_of_s24 := hw 5 (by omega)
  simp only [k_stepOf, if_neg h0, if_neg h1, if_neg h2, if_neg h3, if_neg h4, if_neg h5]
theorem wl3 {B T : Nat → Int32} {s e k : Nat} {v : Int32} (hB : BY B T) (he : e ≤ 600) (hse : s ≤ e) (hL : ∀ j, s ≤ j → j < e → isL (B j))
    (hv : (e - s ≤ 6 ∧ v = nI (cdf (fun j => ix (B (s + j)) - 96) (e - s))) ∨ (6 < e - s ∧ v = nI 0)) (hk : k < 6) (h : v = oc_s3 k) : s + 4 ≤ e ∧ (k = 5 → e = s + 5) := by
  have hc : k = 0 ∨ k = 1 ∨ k = 2 ∨ k = 3 ∨ k = 4 ∨ k = 5 := by omega
  rcases hc with rfl | rfl | rfl | rfl | rfl | rfl
  · have := w_len (X := 19) (len := 4) hB he hse ⟨by omega, by omega⟩ hL ob_19 hv (h.trans of_19); omega
  · have := w_len (X := 20) (len := 4) hB he hse ⟨by omega, by omega⟩ hL ob_20 hv (h.trans of_20); omega
  · have := w_len (X := 21) (len := 4) hB he hse ⟨by omega, by omega⟩ hL ob_21 hv (h.trans of_21); omega
  · have := w_len (X := 22) (len := 4) hB he hse ⟨by omega, by omega⟩ hL ob_22 hv (h.trans of_22); omega
  · have := w_len (X := 23) (len := 5) hB he hse ⟨by omega, by omega⟩ hL ob_23 hv (h.trans of_23); omega
  · have := w_len (X := 24) (len := 5) hB he hse ⟨by omega, by omega⟩ hL ob_24 hv (h.trans of_24); omega
theorem sw_one {q m wk K F S N : Nat → Int32} {nr nt nf n o e c p a k : Nat} (hn : n ≤ 150) (hq : TS q n a) (hm : MS m n a) (h7 : m 7 = nI o) (hz : SZm nr nt nf m) (hw : WI nr nt nf c wk K F S m N) {y w : Int32} (hk : k < 5) (h4 : k < 4 → ∃ b, b < nf ∧ y = nI b) (h0 : k = 0 → ∃ r, r < nr ∧ w = nI r) (h1 : 1 ≤ k → k < 4 → ∃ t, t < nt ∧ w = nI t) (hce : 4 * (c + 1) + e ≤ a) (hp : p ≤ a) :
    x_put_ok wk K F S (nI k) y w ∧ k_tellsStep_ok m N (nI k) y w ∧ ∃ wk' K' F' S' m' N', x_put wk K F S (nI k) y w = (0, wk', K', F', S') ∧ k_tellsStep m N (nI k) y w = (0, m', N') ∧ Fw m m' ∧ SW nr nt nf n o e c p K S q m' wk' K' F' S' N' := by
  have han := hm.2.2.2
  obtain ⟨g1, g2, g3, g4, g5⟩ := hw.put (y := y) (w := w) (k := k) hm (by omega) (by omega) (fun h => by omega) h4 h0 h1
  refine ⟨g1, g2, _, _, _, _, _, _, g3, g4, Fw.u34 _ _, Or.inl ⟨a, c + 1, hp, hq, hm.u (by decide) (by decide) (by decide), by rw [pk_un (by decide)]; exact h7, hz.fw (Fw.u34 _ _), g5, ⟨1, ?_⟩, fun i hi => ⟨pk_un (by omega), pk_un (by omega)⟩, hce⟩⟩
  refine Or.inr (Or.inl ⟨?_, by omega, rfl⟩)
  rw [pk_us]
  exact fun h => by have := pu_inj (by omega) (by omega) h; omega
theorem sw_bad {q m wk K F S N : Nat → Int32} {nr nt nf n o e c p : Nat} (hb : Bd q m n) (hc : CW wk) (x y w x' y' w' : Int32) (K0 S0 : Nat → Int32) :
    x_put_ok wk K F S x y w ∧ k_tellsStep_ok m N x' y' w' ∧ ∃ wk' K' F' S' m' N', x_put wk K F S x y w = (0, wk', K', F', S') ∧ k_tellsStep m N x' y' w' = (0, m', N') ∧ Fw m m' ∧ SW nr nt nf n o e c p K0 S0 q m' wk' K' F' S' N' := by
  obtain ⟨g1, wk', K', F', S', g2, g3⟩ := hc.put (K := K) (F := F) (S := S) x y w
  obtain ⟨g4, g5⟩ := hb.tl (N := N) x' y' w'
  exact ⟨g1, g4, wk', K', F', S', m, N, g2, g5, Fw.rf m, Or.inr ⟨hb, g3⟩⟩
theorem ra_c {f : XnA} {g : YnA} {B wk K F S : Nat → Int32} {n kd pl : Nat} (hn : n ≤ 600) (x y : Int32) : ∀ (k i : Nat) (q : Nat → Int32), TF q n kd pl → x_readAgain_43_ok f g B x y k i q wk K F S ∧ ∃ q', x_readAgain_43 f B x y k i q wk K F S = (q', wk, K, F, S) ∧ TF q' n kd pl
  | 0, i, q, h => ⟨trivial, q, rfl, h⟩
  | k + 1, i, q, h => by
    obtain ⟨a1, a2, a3⟩ := h.nx (B := B) hn
    rcases x1 : t_next q B with ⟨v, q1⟩
    rw [x1] at a2 a3
    simp only at a2 a3
    subst a2
    simp only [x_readAgain_43_ok, x_readAgain_43, a1, x1, ↓reduceIte, true_and]
    exact ⟨q1, rfl, a3⟩
theorem ra_m {f : XnB} {g : YnB} {T m N : Nat → Int32} {n kd pl : Nat} (h : MF m n kd pl) (x : Int32) (K : Nat) : k_readStep_st_61_ok f g T x (K + 1) m N ∧ k_readStep_st_61 f T x (K + 1) m N = (m, N) := by
  simp only [k_readStep_st_61_ok, k_readStep_st_61, k_fine_f h.2.1 h.2.2.2.1, if_pos pu_n01, true_and, and_self]
/-- steps up to the bracket that closes, and this -/
theorem ag_lp {f : XnA} {g : YnA} {f' : XnB} {g' : YnB} {B T : Nat → Int32} {nr nt nf n o e c0 : Nat} (hn : n ≤ 150) (hB : BY B T) (ho : o < 6) (hA : QA B T nr nt nf n (o + 1) f g f' g') (hf' : ∀ (m N : Nat → Int32), MS m n n → k_word m T = (nI 0, m) → g' m T N ∧ ∃ m' N', f' m T N = (0, m', N') ∧ MF m' n 1 n ∧ Fw m m') (y z : Int32) (K0 S0 : Nat → Int32) : ∀ (k i K p : Nat) (q m wk Kd F S N : Nat → Int32), n < p + k → n + 1 < p + K → 1 ≤ K → SW nr nt nf n (o + 1) e c0 p K0 S0 q m wk Kd F S N →
    x_readAgain_43_ok f g B (nI o) y k i q wk Kd F S ∧ k_readStep_st_61_ok f' g' T z K m N ∧ ∃ q1 wk1 K1 F1 S1 m1 N1, x_readAgain_43 f B (nI o) y k i q wk Kd F S = (q1, wk1, K1, F1, S1) ∧ k_readStep_st_61 f' T z K m N = (m1, N1) ∧
      t_needSign_ok q1 B (nI 93) ∧ k_sign_ok m1 T (nI 93) ∧ ∃ q2 m2, t_needSign q1 B (nI 93) = (0, q2) ∧ k_sign m1 T (nI 93) = (0, m2) ∧ Fw m m2 ∧ SW nr nt nf n (o + 1) e c0 p K0 S0 q2 m2 wk1 K1 F1 S1 N1
  | k, i, 0, p, q, m, wk, Kd, F, S, N, _, _, h, _ => by omega
  | k, i, K + 1, p, q, m, wk, Kd, F, S, N, hk, hK, h2, hS => by
    rcases hS with ⟨a, c, hp, hq, hm, h7, hz, hw, hseg, hfr, hce⟩ | ⟨⟨kd, pl, h1, h2'⟩, h3⟩
    · have han := hq.2.2.2.2.2
      obtain ⟨k, rfl⟩ : ∃ k', k = k' + 1 := ⟨k - 1, by omega⟩
      obtain ⟨n1, n2, q1, v, w, s, x1, x2, x3, x4, es, has, hsn, hss, Q1, M1, q14, hv⟩ := gd_next (T := T) (by omega) hB hq hm
      have W1 : WI nr nt nf c wk Kd F S (upd m 4 (nI s)) N := hw.mv (pk_un (by decide))
      have g7 : upd m 4 (nI s) 7 = nI (o + 1) := by rw [pk_un (by decide)]; exact h7
      have F1 : Fw m (upd m 4 (nI s)) := Fw.u4 _ _
      have z1 := hz.fw F1
      obtain ⟨n3, n4, q2, v2, w2, s2, y1, -, -, -, es2, -, -, -, Q2, -, -, hv2⟩ := gd_next (T := T) (by omega) hB Q1 M1
      rw [hss] at es2
      have es3 := es2.symm
      subst es3
      simp only [x_readAgain_43_ok, x_readAgain_43, k_readStep_st_61_ok, k_readStep_st_61, hm.fi, if_neg pu_n10, n1, n2, n3, x1, x2, y1, true_and]
      generalize upd m 4 (nI s) = m1 at *
      rcases hv with ⟨hl, hv1, hw1, b, hb, eb⟩ | ⟨hl, hv1, hw1⟩
      · have e2 : v2 = B s := by
          rcases hv2 with ⟨-, h, -⟩ | ⟨h, -⟩
          · exact h
          · exact absurd hl h
        have f1 : ¬ v = -1 := by rw [hv1, eb]; exact pu_nm (by omega)
        simp only [if_neg f1]
        by_cases c93 : B s = nI 93
        · rw [e2, hw1, if_pos c93, if_pos c93, if_pos c93, if_pos c93]
          have S0' : SW nr nt nf n (o + 1) e c0 p K0 S0 q2 m1 wk Kd F S N := Or.inl ⟨s, c, by omega, Q2, M1, g7, z1, W1, hseg, hfr, by omega⟩
          obtain ⟨d1, d2, q3, m3, d3, d4, F3, S3⟩ := S0'.sg (T := T) hn hB (x := nI 93) (by decide) (by decide)
          refine ⟨trivial, trivial, q2, wk, Kd, F, S, m1, N, rfl, rfl, d1, d2, q3, m3, d3, d4, F1.tr F3, ?_⟩
          rcases S3 with ⟨a', c', k1, k2⟩ | S3
          · exact Or.inl ⟨a', c', by omega, k2⟩
          · exact Or.inr S3
        · rw [e2, hw1, if_neg c93, if_neg c93, if_neg c93, if_neg c93]
          obtain ⟨a1, a2, q3, wk3, K3, F3, S3, m3, N3, a3, a4, Fa, Sa⟩ := hA q2 m1 wk Kd F S N s c e Q2 M1 g7 z1 W1 (by omega)
          simp only [pu_p1, a1, a2, a3, a4, true_and]
          have Sb : SW nr nt nf n (o + 1) e c0 (s + 1) K0 S0 q3 m3 wk3 K3 F3 S3 N3 := by
            rcases Sa with ⟨a', c', k1, k2, k3, k4, k5, k6, ⟨fu, k7⟩, k8, k9⟩ | Sa
            · obtain ⟨fv, hseg⟩ := hseg
              have hcc := Seg.le fv _ _ _ hseg
              refine Or.inl ⟨a', c', k1, k2, k3, k4, k5, k6, ⟨fv + fu, Seg.app k7 fv c0 (Seg.cg fv _ c0 c (fun t _ h => k8 t h) hseg)⟩, fun t ht => ?_, k9⟩
              obtain ⟨u1, u2⟩ := k8 t (by omega)
              obtain ⟨u3, u4⟩ := hfr t ht
              exact ⟨u1.trans u3, u2.trans u4⟩
            · exact Or.inr Sa
          obtain ⟨b1, b2, q4, wk4, K4, F4, S4, m4, N4, b3, b4, b5, b6, q5, m5, b7, b8, Fb, Sc⟩ := ag_lp hn hB ho hA hf' y z K0 S0 k (i + 1) K (s + 1) q3 m3 wk3 K3 F3 S3 N3 (by omega) (by omega) (by omega) Sb
          refine ⟨b1, b2, q4, wk4, K4, F4, S4, m4, N4, b3, b4, b5, b6, q5, m5, b7, b8, (F1.tr Fa).tr Fb, ?_⟩
          rcases Sc with ⟨a', c', k1, k2⟩ | Sc
          · exact Or.inl ⟨a', c', by omega, k2⟩
          · exact Or.inr Sc
      · subst hv1 hw1
        have hsn' : s = n := by omega
        subst hsn'
        have hwd : k_word m1 T = (nI 0, m1) := by
          obtain ⟨-, j2, j3⟩ := kword (by omega) hB M1
          rw [hss] at j2 j3
          rw [show upd m1 4 (nI s) = m1 from by rw [← M1.2.1]; exact upd_self m1 4] at j2
          have hle : le' B s s = s := le_stop (fun z => by omega)
          rw [hle] at j3
          rcases z : k_word m1 T with ⟨u1, u2⟩
          rw [z] at j2 j3
          simp only at j2 j3
          rcases j3 with ⟨-, j3⟩ | ⟨j3, -⟩
          · rw [j2, j3, Nat.sub_self]; rfl
          · omega
        obtain ⟨a1, m2, N2, a2, a3, a4⟩ := hf' m1 N M1 hwd
        obtain ⟨K', rfl⟩ : ∃ K', K = K' + 1 := ⟨K - 1, by omega⟩
        obtain ⟨b1, b2⟩ := ra_m (f := f') (g := g') (T := T) (N := N2) a3 z K'
        simp only [↓reduceIte, if_neg (show ¬ nI 0 = nI 93 by decide), a1, a2, b1, b2, true_and]
        obtain ⟨d1, d2⟩ := ts_sign (B := B) (by omega) Q1 (c := nI 93) (by decide)
        obtain ⟨q3, d3⟩ := sign0 q1 B (nI 93)
        rw [hss, d3] at d2
        obtain ⟨d4, d5⟩ := a3.sg (T := T) (nI 93)
        obtain ⟨m3, d6⟩ := ksign0 m2 T (nI 93)
        rw [d6] at d5
        have d5' := d5.symm
        simp only at d5'
        subst d5'
        have hT : TF q3 s 1 s := by
          rcases d2 with ⟨h, -⟩ | ⟨-, h⟩
          · omega
          · exact h
        exact ⟨q1, wk, Kd, F, S, m2, N2, rfl, rfl, d1, d4, q3, m2, d3, d6, F1.tr a4, Or.inr ⟨⟨1, s, hT, a3⟩, hw.cw (by omega)⟩⟩
    · obtain ⟨a1, q1, a2, a3⟩ := ra_c (f := f) (g := g) (B := B) (wk := wk) (K := Kd) (F := F) (S := S) (show n ≤ 600 by omega) (nI o) y k i q h1
      obtain ⟨b1, b2⟩ := ra_m (f := f') (g := g') (T := T) (N := N) h2' z K
      obtain ⟨d1, d2⟩ := a3.sg (B := B) (show n ≤ 600 by omega) (c := nI 93) (by decide)
      obtain ⟨q2, d3⟩ := sign0 q1 B (nI 93)
      rw [d3] at d2
      obtain ⟨d4, d5⟩ := h2'.sg (T := T) (nI 93)
      obtain ⟨m3, d6⟩ := ksign0 m T (nI 93)
      rw [d6] at d5
      have d5' := d5.symm
      simp only at d5'
      subst d5'
      exact ⟨a1, b1, q1, wk, Kd, F, S, m, N, a2, b2, d1, d4, q2, m, d3, d6, Fw.rf m, Or.inr ⟨⟨kd, pl, d2, h2'⟩, h3⟩⟩
