/-! a law's text: products and sums -/
theorem fu_s : ∃ K, FU = K + 1 := ⟨4999, FU_eq⟩
/-- a loop's result, as the method gives it back -/
def l8 (r : (Int32 × (Nat → Int32) × (Nat → Int32) × (Nat → Int32)) ⊕ ((Nat → Int32) × (Nat → Int32) × (Nat → Int32))) : Int32 × (Nat → Int32) × (Nat → Int32) × (Nat → Int32) := match r with
  | .inl (_, a, b, c) => (0, a, b, c)
  | .inr (a, b, c) => (0, a, b, c)
theorem pr8_c {f : FnA} {g : GnA} {B : Nat → Int32} {n : Nat} (hn : n ≤ 600) {kd pl : Nat} (x : Int32) (lw C : Nat → Int32) : ∀ (k i : Nat) (q : Nat → Int32), TF q n kd pl → l_readProduct_8_ok f g B x k i q lw C ∧ ∃ q', l8 (l_readProduct_8 f B x k i q lw C) = (0, q', lw, C) ∧ TF q' n kd pl
  | 0, i, q, h => ⟨trivial, q, rfl, h⟩
  | k + 1, i, q, h => by
    obtain ⟨a1, a2, a3⟩ := h.nx (B := B) hn
    rcases x1 : t_next q B with ⟨v, q1⟩
    rw [x1] at a2 a3
    simp only at a2 a3
    subst a2
    simp only [l_readProduct_8_ok, l_readProduct_8, a1, x1, if_neg (show ¬ (-1 : Int32) = nI 42 by decide), if_neg (show ¬ (-1 : Int32) = nI 47 by decide), if_neg (show ¬ (-1 : Int32) = nI 37 by decide), true_and]
    exact ⟨q1, rfl, a3⟩
theorem sm8_c {f : FnA} {g : GnA} {B : Nat → Int32} {n : Nat} (hn : n ≤ 600) {kd pl : Nat} (x : Int32) (lw C : Nat → Int32) : ∀ (k i : Nat) (q : Nat → Int32), TF q n kd pl → l_readSum_st_8_ok f g B x k i q lw C ∧ ∃ q', l8 (l_readSum_st_8 f B x k i q lw C) = (0, q', lw, C) ∧ TF q' n kd pl
  | 0, i, q, h => ⟨trivial, q, rfl, h⟩
  | k + 1, i, q, h => by
    obtain ⟨a1, a2, a3⟩ := h.nx (B := B) hn
    rcases x1 : t_next q B with ⟨v, q1⟩
    rw [x1] at a2 a3
    simp only at a2 a3
    subst a2
    simp only [l_readSum_st_8_ok, l_readSum_st_8, a1, x1, if_neg (show ¬ (-1 : Int32) = nI 43 by decide), if_neg (show ¬ (-1 : Int32) = nI 45 by decide), true_and]
    exact ⟨q1, rfl, a3⟩
theorem pr4_m {f : FnB} {g : GnB} {T m O V : Nat → Int32} {n kd pl : Nat} (h : MF m n kd pl) (K : Nat) : k_readProduct_4_ok f g T (K + 1) m O V ∧ k_readProduct_4 f T (K + 1) m O V = (m, O, V) := by
  simp only [k_readProduct_4_ok, k_readProduct_4, k_fine_f h.2.1 h.2.2.2.1, if_pos pu_n01, true_and, and_self]
theorem sm4_m {f : FnB} {g : GnB} {T m O V : Nat → Int32} {n kd pl : Nat} (h : MF m n kd pl) (K : Nat) : k_readSum_st_4_ok f g T (K + 1) m O V ∧ k_readSum_st_4 f T (K + 1) m O V = (m, O, V) := by
  simp only [k_readSum_st_4_ok, k_readSum_st_4, k_fine_f h.2.1 h.2.2.2.1, if_pos pu_n01, true_and, and_self]
theorem pr_eq (f : FnA) (q B lw C : Nat → Int32) (x : Int32) : l_readProduct f q B lw C x = l8 (l_readProduct_8 f B x (cN 150) 0 (l_readUnit f q B lw C x).2.1 (l_readUnit f q B lw C x).2.2.1 (l_readUnit f q B lw C x).2.2.2) := by
  simp only [l_readProduct]
  rcases l_readUnit f q B lw C x with ⟨u, a, b, c⟩
  simp only
  rcases l_readProduct_8 f B x (cN 150) 0 a b c with ⟨u1, u2, u3, u4⟩ | ⟨u1, u2, u3⟩ <;> rfl
theorem sm_eq (f : FnA) (q B lw C : Nat → Int32) (x : Int32) : l_readSum_st f q B lw C x = l8 (l_readSum_st_8 f B x (cN 150) 0 (l_readProduct f q B lw C x).2.1 (l_readProduct f q B lw C x).2.2.1 (l_readProduct f q B lw C x).2.2.2) := by
  simp only [l_readSum_st]
  rcases l_readProduct f q B lw C x with ⟨u, a, b, c⟩
  simp only
  rcases l_readSum_st_8 f B x (cN 150) 0 a b c with ⟨u1, u2, u3, u4⟩ | ⟨u1, u2, u3⟩ <;> rfl
theorem pr_ok (f : FnA) (g : GnA) (q B lw C : Nat → Int32) (x : Int32) (h1 : l_readUnit_ok f g q B lw C x) (h2 : l_readProduct_8_ok f g B x (cN 150) 0 (l_readUnit f q B lw C x).2.1 (l_readUnit f q B lw C x).2.2.1 (l_readUnit f q B lw C x).2.2.2) : l_readProduct_ok f g q B lw C x := by
  simp only [l_readProduct_ok]
  refine ⟨h1, ?_⟩
  rcases x1 : l_readUnit f q B lw C x with ⟨u, a, b, c⟩
  rw [x1] at h2
  refine ⟨h2, ?_⟩
  split <;> trivial
theorem sm_ok (f : FnA) (g : GnA) (q B lw C : Nat → Int32) (x : Int32) (h1 : l_readProduct_ok f g q B lw C x) (h2 : l_readSum_st_8_ok f g B x (cN 150) 0 (l_readProduct f q B lw C x).2.1 (l_readProduct f q B lw C x).2.2.1 (l_readProduct f q B lw C x).2.2.2) : l_readSum_st_ok f g q B lw C x := by
  simp only [l_readSum_st_ok]
  refine ⟨h1, ?_⟩
  rcases x1 : l_readProduct f q B lw C x with ⟨u, a, b, c⟩
  rw [x1] at h2
  refine ⟨h2, ?_⟩
  split <;> trivial
theorem pr_c {f : FnA} {g : GnA} {B : Nat → Int32} {n : Nat} (hn : n ≤ 600) : Pc B n (l_readProduct f) (l_readProduct_ok f g) := by
  intro q lw C x kd pl h hc
  obtain ⟨a1, q1, lw1, C1, a2, a3, a4⟩ := un_c (f := f) (g := g) (B := B) hn q lw C x kd pl h hc
  obtain ⟨b1, q2, b2, b3⟩ := pr8_c (f := f) (g := g) (B := B) hn x lw1 C1 (cN 150) 0 q1 a3
  refine ⟨pr_ok f g q B lw C x a1 (by rw [a2]; exact b1), q2, lw1, C1, ?_, b3, a4⟩
  rw [pr_eq, a2]
  exact b2
theorem sm_c {f : FnA} {g : GnA} {B : Nat → Int32} {n : Nat} (hn : n ≤ 600) : Pc B n (l_readSum_st f) (l_readSum_st_ok f g) := by
  intro q lw C x kd pl h hc
  obtain ⟨a1, q1, lw1, C1, a2, a3, a4⟩ := pr_c (f := f) (g := g) (B := B) hn q lw C x kd pl h hc
  obtain ⟨b1, q2, b2, b3⟩ := sm8_c (f := f) (g := g) (B := B) hn x lw1 C1 (cN 150) 0 q1 a3
  refine ⟨sm_ok f g q B lw C x a1 (by rw [a2]; exact b1), q2, lw1, C1, ?_, b3, a4⟩
  rw [sm_eq, a2]
  exact b2
theorem pr_m {f : FnB} {g : GnB} {T : Nat → Int32} {n : Nat} : Pm T n (k_readProduct f) (k_readProduct_ok f g) := by
  intro m O V kd pl h
  obtain ⟨a1, m1, O1, V1, a2, a3, a4⟩ := un_m (f := f) (g := g) (T := T) m O V kd pl h
  obtain ⟨K, hK⟩ := fu_s
  obtain ⟨b1, b2⟩ := pr4_m (f := f) (g := g) (T := T) (O := O1) (V := V1) a3 K
  simp only [k_readProduct_ok, k_readProduct, a1, a2, hK, b1, b2, true_and]
  exact ⟨m1, O1, V1, rfl, a3, a4⟩
theorem sm_m {f : FnB} {g : GnB} {T : Nat → Int32} {n : Nat} : Pm T n (k_readSum_st f) (k_readSum_st_ok f g) := by
  intro m O V kd pl h
  obtain ⟨a1, m1, O1, V1, a2, a3, a4⟩ := pr_m (f := f) (g := g) (T := T) m O V kd pl h
  obtain ⟨K, hK⟩ := fu_s
  obtain ⟨b1, b2⟩ := sm4_m (f := f) (g := g) (T := T) (O := O1) (V := V1) a3 K
  simp only [k_readSum_st_ok, k_readSum_st, a1, a2, hK, b1, b2, true_and]
  exact ⟨m1, O1, V1, rfl, a3, a4⟩
/-- behind a sign: a piece is read, its code laid down -/
theorem af_sign {F : FnA} {G : GnA} {F' : FnB} {G' : GnB} {B T q m lw C O V : Nat → Int32} {n o s c e b : Nat} (hn : n ≤ 150) (hB : BY B T) (hF : FP B T n o F G F' G') (hq : TS q n s) (hss : sk B n s = s) (hl : s < n) (hb : b < 256) (hb0 : 0 < b) (eb : B s = nI b) (hm : MS m n s) (h7 : m 7 = nI o) (hL : LI c lw C m O V) (hd : 1 ≤ dp C c) (hce : c + e ≤ s) {y : Int32} (hy : opr (nI 2000 + nI b) y) :
    t_needSign_ok q B (nI b) ∧ ∃ q1, t_needSign q B (nI b) = (0, q1) ∧ G q1 B lw C (nI o) ∧ G' (upd m 4 (m 4 + nI 1)) T O V ∧ ∃ q' lw1 C1 m1 O1 V1, F q1 B lw C (nI o) = (0, q', lw1, C1) ∧ F' (upd m 4 (m 4 + nI 1)) T O V = (0, m1, O1, V1) ∧
      l_put_ok lw1 C1 (nI 2000 + nI b) ∧ k_emit_ok m1 O1 V1 y (nI 0) ∧ ∃ lw2 C2 m2 O2 V2, l_put lw1 C1 (nI 2000 + nI b) = (0, lw2, C2) ∧ k_emit m1 O1 V1 y (nI 0) = (0, m2, O2, V2) ∧ Fl m m2 ∧ ST n o e (dp C c) (s + 1) q' m2 lw2 C2 O2 V2 := by
  obtain ⟨a1, q1, a2, Q1⟩ := ts_at (by omega) hq hss hl hb eb
  have M1 : MS (upd m 4 (m 4 + nI 1)) n (s + 1) := by rw [hm.2.1, nI_add]; exact hm.u4 (by omega)
  have S0 : ST n o (e + 1) (dp C c) (s + 1) q1 (upd m 4 (m 4 + nI 1)) lw C O V :=
    Or.inl ⟨s + 1, c, Nat.le_refl _, Q1, M1, by rw [pk_un (by decide)]; exact h7, hL.mv (pk_un (by decide)), rfl, by omega⟩
  obtain ⟨b1, b2, q', lw1, C1, m1, O1, V1, b3, b4, F1, S1⟩ := hF.st S0
  obtain ⟨D, hD⟩ : ∃ D, dp C c = D + 1 := ⟨dp C c - 1, by omega⟩
  rw [hD] at S1 ⊢
  obtain ⟨d1, d2, lw2, C2, m2, O2, V2, d3, d4, F2, S2⟩ := S1.put hn (x := nI 2000 + nI b) (y := y) (v := nI 0) hy
  refine ⟨a1, q1, a2, b1, b2, q', lw1, C1, m1, O1, V1, b3, b4, d1, d2, lw2, C2, m2, O2, V2, d3, d4, ((Fl.u4 _ _).tr F1).tr F2, ?_⟩
  rcases S2 with ⟨a', c', k1, k2⟩ | S2
  · exact Or.inl ⟨a', c', by omega, k2⟩
  · exact Or.inr S2
theorem pr_lp {f : FnA} {g : GnA} {f' : FnB} {g' : GnB} {B T : Nat → Int32} {n o e D : Nat} (hn : n ≤ 150) (hB : BY B T) (hU : FP B T n o (l_readUnit f) (l_readUnit_ok f g) (k_readUnit f') (k_readUnit_ok f' g')) (hD : 1 ≤ D) : ∀ (k i K p : Nat) (q m lw C O V : Nat → Int32), n < p + k → n < p + K → ST n o e D p q m lw C O V → 1 ≤ K →
    l_readProduct_8_ok f g B (nI o) k i q lw C ∧ k_readProduct_4_ok f' g' T K m O V ∧ ∃ q' lw' C' m' O' V', l8 (l_readProduct_8 f B (nI o) k i q lw C) = (0, q', lw', C') ∧ k_readProduct_4 f' T K m O V = (m', O', V') ∧ Fl m m' ∧ ST n o e D p q' m' lw' C' O' V'
  | k, i, 0, p, q, m, lw, C, O, V, _, _, _, h => by omega
  | 0, i, K + 1, p, q, m, lw, C, O, V, hk, hK, hS, _ => by
    rcases hS with ⟨a, c, hp, h1, h2, h3, h4, h5, h6⟩ | ⟨⟨kd, pl, h1, h2⟩, h3⟩
    · have := h1.2.2.2.2.2
      omega
    · obtain ⟨a1, a2⟩ := pr4_m (f := f') (g := g') (T := T) (O := O) (V := V) h2 K
      exact ⟨trivial, a1, q, lw, C, m, O, V, rfl, a2, Fl.rf m, Or.inr ⟨⟨kd, pl, h1, h2⟩, h3⟩⟩
  | k + 1, i, K + 1, p, q, m, lw, C, O, V, hk, hK, hS, _ => by
    rcases hS with ⟨a, c, hp, hq, hm, h7, hL, h5, hce⟩ | ⟨⟨kd, pl, h1, h2⟩, h3⟩
    · obtain ⟨n1, n2, q1, v, w, s, x1, x2, x3, x4, es, has, hsn, hss, Q1, M1, q14, hv⟩ := gd_next (T := T) (by omega) hB hq hm
      have L1 : LI c lw C (upd m 4 (nI s)) O V := hL.mv (pk_un (by decide))
      have g7 : upd m 4 (nI s) 7 = nI o := by rw [pk_un (by decide)]; exact h7
      have F1 : Fl m (upd m 4 (nI s)) := Fl.u4 _ _
      simp only [l_readProduct_8_ok, l_readProduct_8, k_readProduct_4_ok, k_readProduct_4, hm.fi, if_neg pu_n10, n1, n2, x1, x2, x3, x4, true_and]
      generalize upd m 4 (nI s) = m1 at *
      clear es x1 x2
      have step : ∀ (b : Nat) (y : Int32), b < 256 → 0 < b → v = nI b → opr (nI 2000 + nI b) y → w = nI b ∧ t_needSign_ok q1 B (nI b) ∧ ∃ q2, t_needSign q1 B (nI b) = (0, q2) ∧ l_readUnit_ok f g q2 B lw C (nI o) ∧ k_readUnit_ok f' g' (upd m1 4 (m1 4 + nI 1)) T O V ∧ ∃ q' lw1 C1 m2 O1 V1, l_readUnit f q2 B lw C (nI o) = (0, q', lw1, C1) ∧ k_readUnit f' (upd m1 4 (m1 4 + nI 1)) T O V = (0, m2, O1, V1) ∧
          l_put_ok lw1 C1 (nI 2000 + nI b) ∧ k_emit_ok m2 O1 V1 y (nI 0) ∧ ∃ lw2 C2 m3 O2 V2, l_put lw1 C1 (nI 2000 + nI b) = (0, lw2, C2) ∧ k_emit m2 O1 V1 y (nI 0) = (0, m3, O2, V2) ∧
          l_readProduct_8_ok f g B (nI o) k (i + 1) q' lw2 C2 ∧ k_readProduct_4_ok f' g' T K m3 O2 V2 ∧ ∃ q9 lw9 C9 m9 O9 V9, l8 (l_readProduct_8 f B (nI o) k (i + 1) q' lw2 C2) = (0, q9, lw9, C9) ∧ k_readProduct_4 f' T K m3 O2 V2 = (m9, O9, V9) ∧ Fl m m9 ∧ ST n o e D p q9 m9 lw9 C9 O9 V9 := by
        intro b y hb hb0 hvb hy
        rcases hv with ⟨hl, hv1, hv2, -⟩ | ⟨-, hv1, -⟩
        · have eb : B s = nI b := by rw [← hv1]; exact hvb
          obtain ⟨a1, q2, a2, a3, a4, q', lw1, C1, m2, O1, V1, a5, a6, a7, a8, lw2, C2, m3, O2, V2, a9, a10, F2, S2⟩ := af_sign (e := e) hn hB hU Q1 hss hl hb hb0 eb M1 g7 L1 (by omega) (by omega) hy
          rw [h5] at S2
          obtain ⟨d1, d2, q9, lw9, C9, m9, O9, V9, d3, d4, d5, d6⟩ := pr_lp hn hB hU hD k (i + 1) K (s + 1) q' m3 lw2 C2 O2 V2 (by omega) (by omega) S2 (by omega)
          refine ⟨by rw [hv2]; exact eb, a1, q2, a2, a3, a4, q', lw1, C1, m2, O1, V1, a5, a6, a7, a8, lw2, C2, m3, O2, V2, a9, a10, d1, d2, q9, lw9, C9, m9, O9, V9, d3, d4, (F1.tr F2).tr d5, ?_⟩
          rcases d6 with ⟨a', c', k1, k2⟩ | d6
          · exact Or.inl ⟨a', c', by omega, k2⟩
          · exact Or.inr d6
        · rw [hv1] at hvb
          exact absurd hvb.symm (pu_nm (by omega))
      by_cases c1 : v = nI 42
      · obtain ⟨hw, a1, q2, a2, a3, a4, q', lw1, C1, m2, O1, V1, a5, a6, a7, a8, lw2, C2, m3, O2, V2, a9, a10, d1, d2, q9, lw9, C9, m9, O9, V9, d3, d4, d5, d6⟩ := step 42 (nI 4) (by omega) (by omega) c1 (Or.inr (Or.inr (Or.inl ⟨by rw [nI_add], rfl⟩)))
        have hch := ch16 (b := 42) (by omega) c1
        subst c1 hw
        simp only [↓reduceIte, hch, x3, x4, a1, a2, a3, a4, a5, a6, a7, a8, a9, a10, d1, d2, true_and]
        exact ⟨q9, lw9, C9, m9, O9, V9, d3, d4, d5, d6⟩
      · by_cases c2 : v = nI 47
        · obtain ⟨hw, a1, q2, a2, a3, a4, q', lw1, C1, m2, O1, V1, a5, a6, a7, a8, lw2, C2, m3, O2, V2, a9, a10, d1, d2, q9, lw9, C9, m9, O9, V9, d3, d4, d5, d6⟩ := step 47 (nI 5) (by omega) (by omega) c2 (Or.inr (Or.inr (Or.inr (Or.inl ⟨by rw [nI_add], rfl⟩))))
          have hch := ch16 (b := 47) (by omega) c2
          subst c2 hw
          simp only [↓reduceIte, if_neg (show ¬ nI 47 = nI 42 by decide), hch, x3, x4, a1, a2, a3, a4, a5, a6, a7, a8, a9, a10, d1, d2, true_and]
          exact ⟨q9, lw9, C9, m9, O9, V9, d3, d4, d5, d6⟩
        · by_cases c3 : v = nI 37
          · obtain ⟨hw, a1, q2, a2, a3, a4, q', lw1, C1, m2, O1, V1, a5, a6, a7, a8, lw2, C2, m3, O2, V2, a9, a10, d1, d2, q9, lw9, C9, m9, O9, V9, d3, d4, d5, d6⟩ := step 37 (nI 8) (by omega) (by omega) c3 (Or.inr (Or.inr (Or.inr (Or.inr (Or.inr (Or.inr ⟨by rw [nI_add], rfl⟩))))))
            have hch := ch16 (b := 37) (by omega) c3
            subst c3 hw
            simp only [↓reduceIte, if_neg (show ¬ nI 37 = nI 42 by decide), if_neg (show ¬ nI 37 = nI 47 by decide), hch, x3, x4, a1, a2, a3, a4, a5, a6, a7, a8, a9, a10, d1, d2, true_and]
            exact ⟨q9, lw9, C9, m9, O9, V9, d3, d4, d5, d6⟩
          · have hw : ¬ w = nI 42 ∧ ¬ w = nI 47 ∧ ¬ w = nI 37 := by
              rcases hv with ⟨-, hv1, hv2, -⟩ | ⟨-, -, hv2⟩
              · rw [hv2, ← hv1]; exact ⟨c1, c2, c3⟩
              · rw [hv2]; decide
            simp only [if_neg c1, if_neg c2, if_neg c3, if_neg hw.1, if_neg hw.2.1, if_neg hw.2.2, x3, x4, true_and]
            exact ⟨q1, lw, C, m1, O, V, rfl, rfl, F1, Or.inl ⟨s, c, by omega, Q1, M1, g7, L1, h5, by omega⟩⟩
    · obtain ⟨a1, q', a2, a3⟩ := pr8_c (f := f) (g := g) (B := B) (show n ≤ 600 by omega) (nI o) lw C (k + 1) i q h1
      obtain ⟨b1, b2⟩ := pr4_m (f := f') (g := g') (T := T) (O := O) (V := V) h2 K
      exact ⟨a1, b1, q', lw, C, m, O, V, a2, b2, Fl.rf m, Or.inr ⟨⟨kd, pl, a3, h2⟩, h3⟩⟩
theorem pr_a {f : FnA} {g : GnA} {f' : FnB} {g' : GnB} {B T : Nat → Int32} {n o : Nat} (hn : n ≤ 150) (hB : BY B T) (hU : FP B T n o (l_readUnit f) (l_readUnit_ok f g) (k_readUnit f') (k_readUnit_ok f' g')) : PA B T n o (l_readProduct f) (l_readProduct_ok f g) (k_readProduct f') (k_readProduct_ok f' g') := by
  intro q m lw C O V a c e hq hm h7 hL hce
  obtain ⟨a1, a2, q1, lw1, C1, m1, O1, V1, a3, a4, F1, S1⟩ := hU.1 q m lw C O V a c e hq hm h7 hL hce
  obtain ⟨b1, b2, q2, lw2, C2, m2, O2, V2, b3, b4, F2, S2⟩ := pr_lp (f := f) (g := g) (f' := f') (g' := g') hn hB hU (show 1 ≤ dp C c + 1 by omega) (cN 150) 0 FU (a + 1) q1 m1 lw1 C1 O1 V1 (by rw [cN_eq]; omega) (by rw [FU_eq]; omega) S1 (by rw [FU_eq]; omega)
  refine ⟨pr_ok f g q B lw C _ a1 (by rw [a3]; exact b1), ?_, q2, lw2, C2, m2, O2, V2, ?_, ?_, F1.tr F2, S2⟩
  · simp only [k_readProduct_ok, a2, a4, b2, and_true]
  · rw [pr_eq, a3]; exact b3
  · simp only [k_readProduct, a4, b4]
theorem sm_lp {f : FnA} {g : GnA} {f' : FnB} {g' : GnB} {B T : Nat → Int32} {n o e D : Nat} (hn : n ≤ 150) (hB : BY B T) (hU : FP B T n o (l_readProduct f) (l_readProduct_ok f g) (k_readProduct f') (k_readProduct_ok f' g')) (hD : 1 ≤ D) : ∀ (k i K p : Nat) (q m lw C O V : Nat → Int32), n < p + k → n < p + K → ST n o e D p q m lw C O V → 1 ≤ K →
    l_readSum_st_8_ok f g B (nI o) k i q lw C ∧ k_readSum_st_4_ok f' g' T K m O V ∧ ∃ q' lw' C' m' O' V', l8 (l_readSum_st_8 f B (nI o) k i q lw C) = (0, q', lw', C') ∧ k_readSum_st_4 f' T K m O V = (m', O', V') ∧ Fl m m' ∧ ST n o e D p q' m' lw' C' O' V'
  | k, i, 0, p, q, m, lw, C, O, V, _, _, _, h => by omega
  | 0, i, K + 1, p, q, m, lw, C, O, V, hk, hK, hS, _ => by
    rcases hS with ⟨a, c, hp, h1, h2, h3, h4, h5, h6⟩ | ⟨⟨kd, pl, h1, h2⟩, h3⟩
    · have := h1.2.2.2.2.2
      omega
    · obtain ⟨a1, a2⟩ := sm4_m (f := f') (g := g') (T := T) (O := O) (V := V) h2 K
      exact ⟨trivial, a1, q, lw, C, m, O, V, rfl, a2, Fl.rf m, Or.inr ⟨⟨kd, pl, h1, h2⟩, h3⟩⟩
  | k + 1, i, K + 1, p, q, m, lw, C, O, V, hk, hK, hS, _ => by
    rcases hS with ⟨a, c, hp, hq, hm, h7, hL, h5, hce⟩ | ⟨⟨kd, pl, h1, h2⟩, h3⟩
    · obtain ⟨n1, n2, q1, v, w, s, x1, x2, x3, x4, es, has, hsn, hss, Q1, M1, q14, hv⟩ := gd_next (T := T) (by omega) hB hq hm
      have L1 : LI c lw C (upd m 4 (nI s)) O V := hL.mv (pk_un (by decide))
      have g7 : upd m 4 (nI s) 7 = nI o := by rw [pk_un (by decide)]; exact h7
      have F1 : Fl m (upd m 4 (nI s)) := Fl.u4 _ _
      simp only [l_readSum_st_8_ok, l_readSum_st_8, k_readSum_st_4_ok, k_readSum_st_4, hm.fi, if_neg pu_n10, n1, n2, x1, x2, x3, x4, true_and]
      generalize upd m 4 (nI s) = m1 at *
      clear es x1 x2
      have step : ∀ (b : Nat) (y : Int32), b < 256 → 0 < b → v = nI b → opr (nI 2000 + nI b) y → w = nI b ∧ t_needSign_ok q1 B (nI b) ∧ ∃ q2, t_needSign q1 B (nI b) = (0, q2) ∧ l_readProduct_ok f g q2 B lw C (nI o) ∧ k_readProduct_ok f' g' (upd m1 4 (m1 4 + nI 1)) T O V ∧ ∃ q' lw1 C1 m2 O1 V1, l_readProduct f q2 B lw C (nI o) = (0, q', lw1, C1) ∧ k_readProduct f' (upd m1 4 (m1 4 + nI 1)) T O V = (0, m2, O1, V1) ∧
          l_put_ok lw1 C1 (nI 2000 + nI b) ∧ k_emit_ok m2 O1 V1 y (nI 0) ∧ ∃ lw2 C2 m3 O2 V2, l_put lw1 C1 (nI 2000 + nI b) = (0, lw2, C2) ∧ k_emit m2 O1 V1 y (nI 0) = (0, m3, O2, V2) ∧
          l_readSum_st_8_ok f g B (nI o) k (i + 1) q' lw2 C2 ∧ k_readSum_st_4_ok f' g' T K m3 O2 V2 ∧ ∃ q9 lw9 C9 m9 O9 V9, l8 (l_readSum_st_8 f B (nI o) k (i + 1) q' lw2 C2) = (0, q9, lw9, C9) ∧ k_readSum_st_4 f' T K m3 O2 V2 = (m9, O9, V9) ∧ Fl m m9 ∧ ST n o e D p q9 m9 lw9 C9 O9 V9 := by
        intro b y hb hb0 hvb hy
        rcases hv with ⟨hl, hv1, hv2, -⟩ | ⟨-, hv1, -⟩
        · have eb : B s = nI b := by rw [← hv1]; exact hvb
          obtain ⟨a1, q2, a2, a3, a4, q', lw1, C1, m2, O1, V1, a5, a6, a7, a8, lw2, C2, m3, O2, V2, a9, a10, F2, S2⟩ := af_sign (e := e) hn hB hU Q1 hss hl hb hb0 eb M1 g7 L1 (by omega) (by omega) hy
          rw [h5] at S2
          obtain ⟨d1, d2, q9, lw9, C9, m9, O9, V9, d3, d4, d5, d6⟩ := sm_lp hn hB hU hD k (i + 1) K (s + 1) q' m3 lw2 C2 O2 V2 (by omega) (by omega) S2 (by omega)
          refine ⟨by rw [hv2]; exact eb, a1, q2, a2, a3, a4, q', lw1, C1, m2, O1, V1, a5, a6, a7, a8, lw2, C2, m3, O2, V2, a9, a10, d1, d2, q9, lw9, C9, m9, O9, V9, d3, d4, (F1.tr F2).tr d5, ?_⟩
          rcases d6 with ⟨a', c', k1, k2⟩ | d6
          · exact Or.inl ⟨a', c', by omega, k2⟩
          · exact Or.inr d6
        · rw [hv1] at hvb
          exact absurd hvb.symm (pu_nm (by omega))
      by_cases c1 : v = nI 43
      · obtain ⟨hw, a1, q2, a2, a3, a4, q', lw1, C1, m2, O1, V1, a5, a6, a7, a8, lw2, C2, m3, O2, V2, a9, a10, d1, d2, q9, lw9, C9, m9, O9, V9, d3, d4, d5, d6⟩ := step 43 (nI 2) (by omega) (by omega) c1 (Or.inl ⟨by rw [nI_add], rfl⟩)
        have hch := ch16 (b := 43) (by omega) c1
        subst c1 hw
        simp only [↓reduceIte, hch, x3, x4, a1, a2, a3, a4, a5, a6, a7, a8, a9, a10, d1, d2, true_and]
        exact ⟨q9, lw9, C9, m9, O9, V9, d3, d4, d5, d6⟩
      · by_cases c2 : v = nI 45
        · obtain ⟨hw, a1, q2, a2, a3, a4, q', lw1, C1, m2, O1, V1, a5, a6, a7, a8, lw2, C2, m3, O2, V2, a9, a10, d1, d2, q9, lw9, C9, m9, O9, V9, d3, d4, d5, d6⟩ := step 45 (nI 3) (by omega) (by omega) c2 (Or.inr (Or.inl ⟨by rw [nI_add], rfl⟩))
          have hch := ch16 (b := 45) (by omega) c2
          subst c2 hw
          simp only [↓reduceIte, if_neg (show ¬ nI 45 = nI 43 by decide), hch, x3, x4, a1, a2, a3, a4, a5, a6, a7, a8, a9, a10, d1, d2, true_and]
          exact ⟨q9, lw9, C9, m9, O9, V9, d3, d4, d5, d6⟩
        · have hw : ¬ w = nI 43 ∧ ¬ w = nI 45 := by
            rcases hv with ⟨-, hv1, hv2, -⟩ | ⟨-, -, hv2⟩
            · rw [hv2, ← hv1]; exact ⟨c1, c2⟩
            · rw [hv2]; decide
          simp only [if_neg c1, if_neg c2, if_neg hw.1, if_neg hw.2, x3, x4, true_and]
          exact ⟨q1, lw, C, m1, O, V, rfl, rfl, F1, Or.inl ⟨s, c, by omega, Q1, M1, g7, L1, h5, by omega⟩⟩
    · obtain ⟨a1, q', a2, a3⟩ := sm8_c (f := f) (g := g) (B := B) (show n ≤ 600 by omega) (nI o) lw C (k + 1) i q h1
      obtain ⟨b1, b2⟩ := sm4_m (f := f') (g := g') (T := T) (O := O) (V := V) h2 K
      exact ⟨a1, b1, q', lw, C, m, O, V, a2, b2, Fl.rf m, Or.inr ⟨⟨kd, pl, a3, h2⟩, h3⟩⟩
theorem sm_a {f : FnA} {g : GnA} {f' : FnB} {g' : GnB} {B T : Nat → Int32} {n o : Nat} (hn : n ≤ 150) (hB : BY B T) (hU : FP B T n o (l_readProduct f) (l_readProduct_ok f g) (k_readProduct f') (k_readProduct_ok f' g')) : PA B T n o (l_readSum_st f) (l_readSum_st_ok f g) (k_readSum_st f') (k_readSum_st_ok f' g') := by
  intro q m lw C O V a c e hq hm h7 hL hce
  obtain ⟨a1, a2, q1, lw1, C1, m1, O1, V1, a3, a4, F1, S1⟩ := hU.1 q m lw C O V a c e hq hm h7 hL hce
  obtain ⟨b1, b2, q2, lw2, C2, m2, O2, V2, b3, b4, F2, S2⟩ := sm_lp (f := f) (g := g) (f' := f') (g' := g') hn hB hU (show 1 ≤ dp C c + 1 by omega) (cN 150) 0 FU (a + 1) q1 m1 lw1 C1 O1 V1 (by rw [cN_eq]; omega) (by rw [FU_eq]; omega) S1 (by rw [FU_eq]; omega)
  refine ⟨sm_ok f g q B lw C _ a1 (by rw [a3]; exact b1), ?_, q2, lw2, C2, m2, O2, V2, ?_, ?_, F1.tr F2, S2⟩
  · simp only [k_readSum_st_ok, a2, a4, b2, and_true]
  · rw [sm_eq, a3]; exact b3
  · simp only [k_readSum_st, a4, b4]
/-- the readers of a law, by how deep they may go -/
theorem rec_c {B : Nat → Int32} {n : Nat} (hn : n ≤ 600) : ∀ k, 1 ≤ k → Pc B n (l_readSum_rec k) (l_readSum_rec_ok k)
  | 0, h => by omega
  | k + 1, _ => sm_c (f := l_readSum_rec k) (g := l_readSum_rec_ok k) hn
theorem rec_m {T : Nat → Int32} {n : Nat} : ∀ k, 1 ≤ k → Pm T n (k_readSum_rec k) (k_readSum_rec_ok k)
  | 0, h => by omega
  | k + 1, _ => sm_m (f := k_readSum_rec k) (g := k_readSum_rec_ok k)
theorem rec_fp {B T : Nat → Int32} {n : Nat} (hn : n ≤ 150) (hB : BY B T) : ∀ k o, 8 ≤ o + k → o ≤ 6 → FP B T n o (l_readSum_rec k) (l_readSum_rec_ok k) (k_readSum_rec k) (k_readSum_rec_ok k)
  | 0, o, h, ho => by omega
  | k + 1, o, h, ho => by
    have hU : FP B T n o (l_readUnit (l_readSum_rec k)) (l_readUnit_ok (l_readSum_rec k) (l_readSum_rec_ok k)) (k_readUnit (k_readSum_rec k)) (k_readUnit_ok (k_readSum_rec k) (k_readSum_rec_ok k)) :=
      ⟨un_a hn hB ho (fun h6 => rec_fp hn hB k (o + 1) (by omega) (by omega)) (rec_m k (by omega)), un_c (by omega), un_m⟩
    have hPr : FP B T n o (l_readProduct (l_readSum_rec k)) (l_readProduct_ok (l_readSum_rec k) (l_readSum_rec_ok k)) (k_readProduct (k_readSum_rec k)) (k_readProduct_ok (k_readSum_rec k) (k_readSum_rec_ok k)) :=
      ⟨pr_a hn hB hU, pr_c (by omega), pr_m⟩
    exact ⟨sm_a hn hB hPr, rec_c (by omega) (k + 1) (by omega), rec_m (k + 1) (by omega)⟩
