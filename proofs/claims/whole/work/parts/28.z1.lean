/-! a new town -/
theorem op_town {np nr nt nf : Nat} {M : Mem} (h : IV np nr nt nf M) (x1 : Int32) : EO_town M x1 ∧ Ag 1 0 (e_town M x1) (fun N => KO_town N x1) (fun N => K_town N x1) := by
  obtain ⟨⟨z1, z2, z3, z4⟩, ⟨s1, s2, s3, s4⟩, ⟨c1, c2, c3, c4⟩, ⟨t1, t2, t3⟩, hL, hD, hH, hI, hTP, ⟨b1, b2, b3, b4, b5⟩, hBK⟩ := id h
  obtain ⟨fd, f1, f2, f3, f4⟩ := id hTP
  have hB : BY (M.1 2) (M.1 56) := f4
  by_cases hx : ¬ x1 < nI 0 ∧ x1 ≤ (if (M.1 1 1) < (nI 600) then M.1 1 1 else (nI 600))
  · obtain ⟨n, hn, hn2, en⟩ := tx_in (by omega) f1 f2 hx
    have k1 : ¬ x1 < 0 := by rw [← nI_0]; exact hx.1
    have k2 : ¬ M.1 54 2 < x1 := by
      rw [f3, en]; intro z
      have := (pu_lti (by omega) (by omega)).mp z
      omega
    have tq := bg_ts (n := n) f2 f1 hn2
    obtain ⟨tm, tm2, tm7, tmf⟩ := bg_ms (m := upd (M.1 54) 0 (nI 0)) (n := n)
    rw [← en] at tq tm tm2 tm7 tmf
    rcases y1 : k_begins (upd (M.1 54) 0 (nI 0)) x1 with ⟨u11, r12⟩
    rw [y1] at tm tm2 tm7 tmf
    simp only at tm tm2 tm7 tmf
    have tm' : MS (upd (upd (upd (upd r12 16 (nI 0)) 17 (nI 0)) 18 (nI 0)) 19 (nI 0)) n 0 := (((tm.u (by decide) (by decide) (by decide)).u (by decide) (by decide) (by decide)).u (by decide) (by decide) (by decide)).u (by decide) (by decide) (by decide)
    have hNW : NW 0 0 0 0 (upd (upd (upd (upd (M.1 12) 0 (nI 0)) 1 (nI 0)) 2 (nI 0)) 3 (nI 0)) (M.1 13) (M.1 14) (M.1 15) (M.1 16) (M.1 17) (M.1 18) (M.1 19) (upd (upd (upd (upd r12 16 (nI 0)) 17 (nI 0)) 18 (nI 0)) 19 (nI 0)) (M.1 57) (M.1 58) (M.1 59) := by
      refine ⟨⟨by omega, by omega, by omega, by omega⟩, ⟨?_, ?_, ?_, pk_us⟩, ⟨?_, ?_, ?_, pk_us⟩, fun r hr => absurd hr (Nat.not_lt_zero r), fun r hr => absurd hr (Nat.not_lt_zero r), fun r hr => absurd hr (Nat.not_lt_zero r), fun r hr => absurd hr (Nat.not_lt_zero r)⟩
      · rw [pk_un (by decide), pk_un (by decide), pk_un (by decide), pk_us]
      · rw [pk_un (by decide), pk_un (by decide), pk_us]
      · rw [pk_un (by decide), pk_us]
      · rw [pk_un (by decide), pk_un (by decide), pk_un (by decide), pk_us]
      · rw [pk_un (by decide), pk_un (by decide), pk_us]
      · rw [pk_un (by decide), pk_us]
    obtain ⟨o1, o2, q1, tw1, A1, B1, L1, W1, FL1, FH1, FS1, c1', m1, NR1, NH1, NF1, o3, o4, o5, o6⟩ := town_lp hn hB (cN 61) 0 FU 0 0 0 0 0 (t_begin (M.1 1) x1).2 (upd (upd (upd (upd (M.1 12) 0 (nI 0)) 1 (nI 0)) 2 (nI 0)) 3 (nI 0)) (M.1 13) (M.1 14) (M.1 15) (M.1 16) (M.1 17) (M.1 18) (M.1 19) (upd (upd (upd (upd r12 16 (nI 0)) 17 (nI 0)) 18 (nI 0)) 19 (nI 0)) (M.1 57) (M.1 58) (M.1 59) (by rw [cN_eq]) (by rw [cN_eq]; omega) (by rw [cN_eq, FU_eq]; omega) tq tm' hNW
    have fr : ∀ j, j ≠ 0 → j ≠ 2 → j ≠ 8 → j ≠ 3 → j ≠ 4 → j ≠ 5 → j ≠ 6 → j ≠ 7 → (j < 16 ∨ 20 ≤ j) → m1 j = M.1 54 j := fun j g0 g2 g8 g3 g4 g5 g6 g7 gx => by
      rw [o5 j g4 g5 g6 gx, pk_un (show j ≠ 19 by omega), pk_un (show j ≠ 18 by omega), pk_un (show j ≠ 17 by omega), pk_un (show j ≠ 16 by omega), tmf j g2 g8 g3 g4 g5 g7, pk_un g0]
    have m0 : m1 0 = nI 0 := by rw [o5 0 (by decide) (by decide) (by decide) (by decide), pk_un (by decide), pk_un (by decide), pk_un (by decide), pk_un (by decide), tmf 0 (by decide) (by decide) (by decide) (by decide) (by decide) (by decide), pk_us]
    have m2 : m1 2 = nI 0 := by rw [o5 2 (by decide) (by decide) (by decide) (by decide), pk_un (by decide), pk_un (by decide), pk_un (by decide), pk_un (by decide)]; exact tm2
    have er : v_readFrom ((t_begin (M.1 1) x1).2) (M.1 2) (M.1 12) (M.1 13) (M.1 14) (M.1 15) (M.1 16) (M.1 17) (M.1 18) (M.1 19) = (0, q1, tw1, A1, B1, L1, W1, FL1, FH1, FS1) := by simp only [v_readFrom, o3]
    have ero : v_readFrom_ok ((t_begin (M.1 1) x1).2) (M.1 2) (M.1 12) (M.1 13) (M.1 14) (M.1 15) (M.1 16) (M.1 17) (M.1 18) (M.1 19) := ⟨o1, trivial⟩
    rcases o6 with ⟨a', np2, nr2, nt2, nf2, g1, g2, ⟨g3, ⟨tw0, tw1', tw2, tw3⟩, ⟨m16, m17, m18, m19⟩, hT, hW, hLi, hF⟩⟩ | hbd
    · obtain ⟨y1', y2, y3, y4⟩ := id g3
      obtain ⟨v2, v3, v4⟩ := res_good g2 (nI nt2)
      obtain ⟨A', hA'⟩ : ∃ X, X = va_cpy A1 (M.1 4) 0 0 12 := ⟨_, rfl⟩
      obtain ⟨B', hB'⟩ : ∃ X, X = va_cpy B1 (M.1 5) 0 0 12 := ⟨_, rfl⟩
      obtain ⟨L', hL'⟩ : ∃ X, X = va_cpy L1 (M.1 6) 0 0 12 := ⟨_, rfl⟩
      obtain ⟨W', hW'⟩ : ∃ X, X = va_cpy W1 (M.1 7) 0 0 10 := ⟨_, rfl⟩
      obtain ⟨FL', hFL'⟩ : ∃ X, X = va_cpy FL1 (M.1 8) 0 0 10 := ⟨_, rfl⟩
      obtain ⟨FH', hFH'⟩ : ∃ X, X = va_cpy FH1 (M.1 9) 0 0 10 := ⟨_, rfl⟩
      obtain ⟨FS', hFS'⟩ : ∃ X, X = va_cpy FS1 (M.1 10) 0 0 6 := ⟨_, rfl⟩
      obtain ⟨RO', hRO'⟩ : ∃ X, X = k_copies_L36_L36_3 NR1 (M.1 60) (cN 36) (cN 36) := ⟨_, rfl⟩
      obtain ⟨TH', hTH'⟩ : ∃ X, X = k_copies_L30_L30_3 NH1 (M.1 61) (cN 30) (cN 30) := ⟨_, rfl⟩
      obtain ⟨FI', hFI'⟩ : ∃ X, X = k_copies_L6_L6_3 NF1 (M.1 62) 6 6 := ⟨_, rfl⟩
      have hc36 : cN 36 = 36 := cN_eq 36
      have hc30 : cN 30 = 30 := cN_eq 30
      have hRO : ∀ j, j < 36 → RO' j = NR1 j := fun j hj => by rw [hRO', hc36]; exact cq36 _ _ _ 36 j hj
      have hTH : ∀ j, j < 30 → TH' j = NH1 j := fun j hj => by rw [hTH', hc30]; exact cq30 _ _ _ 30 j hj
      have hFI : ∀ j, j < 6 → FI' j = NF1 j := fun j hj => by rw [hFI']; exact cq6 _ _ _ 6 j hj
      have hT2 : TRo np2 nr2 A' B' L' RO' := fun r hr => by
        rw [hRO _ (by omega), hRO _ (by omega), hRO _ (by omega), hA', hB', hL', cpy0 (show r < 12 by omega), cpy0 (show r < 12 by omega), cpy0 (show r < 12 by omega)]
        exact hT r hr
      have hW2 : TW nt2 W' TH' := fun t ht => by
        rw [hTH _ (by omega), hW', cpy0 (show t < 10 by omega)]
        exact hW t ht
      have hLi2 : TLi np2 nt2 nf2 FL' FH' FS' TH' := fun t ht => by
        rw [hTH _ (by omega), hTH _ (by omega), hFL', hFH', cpy0 (show t < 10 by omega), cpy0 (show t < 10 by omega)]
        rcases hLi t ht with r | ⟨a, ha, e1, e2, e3, e4⟩
        · exact Or.inl r
        · exact Or.inr ⟨a, ha, e1, e2, e3, by rw [hFS', cpy0 (show a < 6 by omega)]; exact e4⟩
      have hF2 : ∀ a, a < nf2 → ∃ p, p < np2 ∧ FS' a = nI p ∧ FI' a = nI p := fun a ha => by
        rw [hFI a (by omega), hFS', cpy0 (show a < 6 by omega)]
        exact hF a ha
      obtain ⟨r1, r2, r3⟩ := new_FR (M.1 11) (M.1 76) y1' y2 hT2
      have i0 : ix (nI np2) = np2 := pu_ix (by omega)
      have i1 : ix (nI nr2) = nr2 := pu_ix (by omega)
      have i2 : ix (nI nt2) = nt2 := pu_ix (by omega)
      have i3 : ix (nI nf2) = nf2 := pu_ix (by omega)
      have j0 : isN (nI np2) := pu_isN (by omega)
      have j1 : isN (nI nr2) := pu_isN (by omega)
      have j2 : isN (nI nt2) := pu_isN (by omega)
      have j3 : isN (nI nf2) := pu_isN (by omega)
      have hDn := new_DR (row := M.1 38) (nw := M.1 71) g3 hLi2 hF2
      rcases x1' : v_measure A' B' L' (M.1 11) np2 nr2 with ⟨u7, Fr'⟩
      rcases x2' : k_layFar RO' (M.1 76) np2 nr2 with ⟨u34, Fo'⟩
      rw [x1', x2'] at r1
      simp only at r1
      rcases x3' : d_begin FL' FH' FS' (M.1 38) with ⟨u58, Rn⟩
      rw [x3'] at hDn
      simp only at hDn
      obtain ⟨S', hS'⟩ : ∃ X, X = k_sets_216 FI' (k_sets_143 TH' (k_sets_122 (M.1 71) (cN 51)) nt2 (cN 10)) nf2 := ⟨_, rfl⟩
      rw [← hS'] at hDn
      have ev : v_take (M.1 3) (M.1 4) (M.1 5) (M.1 6) (M.1 7) (M.1 8) (M.1 9) (M.1 10) (M.1 11) tw1 A1 B1 L1 W1 FL1 FH1 FS1 = (0, upd (upd (upd (upd (M.1 3) 0 (nI np2)) 1 (nI nr2)) 2 (nI nt2)) 3 (nI nf2), A', B', L', W', FL', FH', FS', Fr') := by
        simp only [v_take, tw0, tw1', tw2, tw3, i0, i1, ← hA', ← hB', ← hL', ← hW', ← hFL', ← hFH', ← hFS', x1']
      have evo : v_take_ok (M.1 3) (M.1 4) (M.1 5) (M.1 6) (M.1 7) (M.1 8) (M.1 9) (M.1 10) (M.1 11) tw1 A1 B1 L1 W1 FL1 FH1 FS1 := by
        simp only [v_take_ok, tw0, tw1', i0, i1, j0, j1, ← hA', ← hB', ← hL', r2, true_and, and_true]
        exact ⟨y1', y2⟩
      have q16 : upd m1 8 (m1 5) 16 = nI np2 := by rw [pk_un (by decide)]; exact m16
      have q17 : upd m1 8 (m1 5) 17 = nI nr2 := by rw [pk_un (by decide)]; exact m17
      have q18 : upd m1 8 (m1 5) 18 = nI nt2 := by rw [pk_un (by decide)]; exact m18
      have q19 : upd m1 8 (m1 5) 19 = nI nf2 := by rw [pk_un (by decide)]; exact m19
      have ks : k_sets (upd m1 8 (m1 5)) NR1 NH1 NF1 (M.1 60) (M.1 61) (M.1 62) (M.1 71) (M.1 75) (M.1 76) = (0, upd (upd (upd (upd (upd (upd (upd (upd (upd (upd m1 8 (m1 5)) 20 (nI np2)) 21 (nI nr2)) 22 (nI nt2)) 23 (nI nf2)) 30 (nI 0)) 45 (nI 0)) 35 (nI 0)) 51 (nI 0)) 36 (nI 0), RO', TH', FI', S', k_sets_101 (M.1 75) (cN 8), Fo') := by
        simp only [k_sets, k_copies_L36_L36, k_copies_L30_L30, k_copies_L6_L6, ← hRO', ← hTH', ← hFI', q16, q17, q18, q19, i0, i1, i2, i3, x2', ← hS']
      have kso : k_sets_ok (upd m1 8 (m1 5)) NR1 NH1 NF1 (M.1 60) (M.1 61) (M.1 62) (M.1 71) (M.1 75) (M.1 76) := by
        simp only [k_sets_ok, k_copies_L36_L36, k_copies_L30_L30, k_copies_L6_L6, k_copies_L36_L36_ok, k_copies_L30_L30_ok, k_copies_L6_L6_ok, k_copies_L36_L36_3_ok, k_copies_L30_L30_3_ok, k_copies_L6_L6_3_ok, ← hRO', q16, q17, q18, q19, i0, i1, i2, i3, j0, j1, j2, j3, r3, y1', y2, y3, y4, and_true, true_and]
        exact ⟨fun i hi => by rw [hc36] at hi; exact hi, fun i hi => by rw [hc30] at hi; exact hi, fun i hi => hi⟩
      have kb : k_town (M.1 54) (M.1 55) (M.1 56) (M.1 57) (M.1 58) (M.1 59) (M.1 60) (M.1 61) (M.1 62) (M.1 71) (M.1 75) (M.1 76) x1 = (nI nt2, upd (upd (upd (upd (upd (upd (upd (upd (upd (upd m1 8 (m1 5)) 20 (nI np2)) 21 (nI nr2)) 22 (nI nt2)) 23 (nI nf2)) 30 (nI 0)) 45 (nI 0)) 35 (nI 0)) 51 (nI 0)) 36 (nI 0), M.1 55, NR1, NH1, NF1, RO', TH', FI', S', k_sets_101 (M.1 75) (cN 8), Fo') := by
        simp only [k_town, if_neg k1, if_neg k2, y1, k_clears, o4, v2, if_pos v3, ks, m18]
      have kbo : k_town_ok (M.1 54) (M.1 55) (M.1 56) (M.1 57) (M.1 58) (M.1 59) (M.1 60) (M.1 61) (M.1 62) (M.1 71) (M.1 75) (M.1 76) x1 := by
        simp only [k_town_ok, if_neg k1, if_neg k2, y1, k_clears, o2, o4, m18, v2, if_pos v3, kso, and_self]
      refine ⟨by simp only [EO_town, e_town_ok, if_pos hx, ero, er, if_pos g1.nf, evo, and_self], Or.inl ⟨nI nt2, mrow (mrow (mrow (mrow (mrow (mrow (mrow (mrow (mrow (mrow (mrow (mrow (mrow (mrow (mrow (mrow (mrow (mrow (mrow (mrow (mrow (mrow (mrow (mrow (mrow M 0 (upd (M.1 0) 14 (nI 0))) 1 q1) 3 (upd (upd (upd (upd (M.1 3) 0 (nI np2)) 1 (nI nr2)) 2 (nI nt2)) 3 (nI nf2))) 4 A') 5 B') 6 L') 7 W') 8 FL') 9 FH') 10 FS') 11 Fr') 12 tw1) 13 A1) 14 B1) 15 L1) 16 W1) 17 FL1) 18 FH1) 19 FS1) 21 (upd (M.1 21) 3 (nI 1))) 23 (upd (M.1 23) 0 (nI 1000))) 29 (upd (M.1 29) 0 (nI 0))) 30 (J7_fill_53178_L8_5 (M.1 30) (-1) (cN 8))) 38 Rn) 43 (upd (upd (M.1 43) 0 (nI 0)) 1 (nI 0)), ?_, ?_, ?_, ?_, np2, nr2, nt2, nf2, ?_⟩⟩
      · simp only [e_town, if_pos hx, er, if_pos g1.nf, ev, l_makePlain, b_clear, J7_fill_53178_L8, h_clear, x3', pk_us, pk_un, ne_eq, Nat.reduceEqDiff, not_false_eq_true]
      · simp only [KO_town, mrow_hit, mrow_miss, ne_eq, Nat.reduceEqDiff, not_false_eq_true, reduceCtorEq, kbo]
      · simp only [K_town, mrow_hit, mrow_miss, ne_eq, Nat.reduceEqDiff, not_false_eq_true, reduceCtorEq, kb]
      · simp only [K_town, mrow_hit, mrow_miss, ne_eq, Nat.reduceEqDiff, not_false_eq_true, reduceCtorEq, kb]
        simp only [pk_un, ne_eq, Nat.reduceEqDiff, not_false_eq_true, reduceCtorEq]
        exact m0
      · simp only [IV, K_town, mrow_hit, mrow_miss, ne_eq, Nat.reduceEqDiff, not_false_eq_true, reduceCtorEq, kb]
        simp only [pk_us, pk_un, ne_eq, Nat.reduceEqDiff, not_false_eq_true, reduceCtorEq]
        refine ⟨g3, ⟨trivial, trivial, trivial, trivial⟩, ⟨trivial, trivial, trivial, trivial⟩, ⟨hW2, hT2, r1⟩, Or.inl ⟨pk_us, pk_us, ?_⟩, hDn, ⟨0, by omega, rfl, rfl, fun w hw => absurd hw (Nat.not_lt_zero w)⟩, ⟨0, by omega, rfl, rfl, fun w hw => absurd hw (Nat.not_lt_zero w)⟩, ?_, ⟨?_, trivial, trivial, b4, b5⟩, fun p hp => ?_⟩
        · simp only [pk_us, pk_un, ne_eq, Nat.reduceEqDiff, not_false_eq_true, reduceCtorEq]
          exact nI_0
        · rw [m2, g1.1]; exact ⟨0, by omega, rfl, rfl, f4⟩
        · rw [v4]; exact g1.2.2.1
        · rw [s101 _ _ p (by rw [cN_eq]; omega), fl8 _ _ _ p (by rw [cN_eq]; omega)]
          exact ⟨rfl, Or.inl rfl⟩
    · obtain ⟨kd, v1, v2, v3, v4, v5⟩ := res_bad hbd (m1 18)
      have kb : k_town (M.1 54) (M.1 55) (M.1 56) (M.1 57) (M.1 58) (M.1 59) (M.1 60) (M.1 61) (M.1 62) (M.1 71) (M.1 75) (M.1 76) x1 = (nI kd - nI 10, upd m1 8 (m1 5), M.1 55, NR1, NH1, NF1, M.1 60, M.1 61, M.1 62, M.1 71, M.1 75, M.1 76) := by
        simp only [k_town, if_neg k1, if_neg k2, y1, k_clears, o4, v2, if_neg v3]
      have kbo : k_town_ok (M.1 54) (M.1 55) (M.1 56) (M.1 57) (M.1 58) (M.1 59) (M.1 60) (M.1 61) (M.1 62) (M.1 71) (M.1 75) (M.1 76) x1 := by
        simp only [k_town_ok, if_neg k1, if_neg k2, y1, k_clears, o2, o4, v2, if_neg v3, and_self]
      refine ⟨by simp only [EO_town, e_town_ok, if_pos hx, ero, er, if_neg hbd.is, and_self], Or.inl ⟨nI kd - nI 10, mrow (mrow (mrow (mrow (mrow (mrow (mrow (mrow (mrow M 1 q1) 12 tw1) 13 A1) 14 B1) 15 L1) 16 W1) 17 FL1) 18 FH1) 19 FS1, ?_, ?_, ?_, ?_, np, nr, nt, nf, ?_⟩⟩
      · simp only [e_town, if_pos hx, er, if_neg hbd.is, v1]
      · simp only [KO_town, mrow_hit, mrow_miss, ne_eq, Nat.reduceEqDiff, not_false_eq_true, reduceCtorEq, kbo]
      · simp only [K_town, mrow_hit, mrow_miss, ne_eq, Nat.reduceEqDiff, not_false_eq_true, reduceCtorEq, kb]
      · simp only [K_town, mrow_hit, mrow_miss, ne_eq, Nat.reduceEqDiff, not_false_eq_true, reduceCtorEq, kb]
        rw [pk_un (by decide)]; exact m0
      · have e54 : ∀ j, j ≠ 0 → j ≠ 2 → j ≠ 8 → j ≠ 3 → j ≠ 4 → j ≠ 5 → j ≠ 6 → j ≠ 7 → (j < 16 ∨ 20 ≤ j) → upd m1 8 (m1 5) j = M.1 54 j := fun j g0 g2 g8 g3 g4 g5 g6 g7 gx => by
          rw [pk_un g8]; exact fr j g0 g2 g8 g3 g4 g5 g6 g7 gx
        simp only [IV, K_town, mrow_hit, mrow_miss, ne_eq, Nat.reduceEqDiff, not_false_eq_true, reduceCtorEq, kb]
        rw [e54 20 (by decide) (by decide) (by decide) (by decide) (by decide) (by decide) (by decide) (by decide) (by decide), e54 21 (by decide) (by decide) (by decide) (by decide) (by decide) (by decide) (by decide) (by decide) (by decide), e54 22 (by decide) (by decide) (by decide) (by decide) (by decide) (by decide) (by decide) (by decide) (by decide), e54 23 (by decide) (by decide) (by decide) (by decide) (by decide) (by decide) (by decide) (by decide) (by decide), e54 35 (by decide) (by decide) (by decide) (by decide) (by decide) (by decide) (by decide) (by decide) (by decide), e54 51 (by decide) (by decide) (by decide) (by decide) (by decide) (by decide) (by decide) (by decide) (by decide), e54 45 (by decide) (by decide) (by decide) (by decide) (by decide) (by decide) (by decide) (by decide) (by decide), e54 36 (by decide) (by decide) (by decide) (by decide) (by decide) (by decide) (by decide) (by decide) (by decide), pk_us, pk_un (show 2 ≠ 8 by decide), m2, v4, v5]
        exact ⟨⟨z1, z2, z3, z4⟩, ⟨s1, s2, s3, s4⟩, ⟨c1, c2, c3, c4⟩, ⟨t1, t2, t3⟩, LWr_cg hL (e54 30 (by decide) (by decide) (by decide) (by decide) (by decide) (by decide) (by decide) (by decide) (by decide)), hD, hH, hI, ⟨0, by omega, rfl, rfl, f4⟩, ⟨rfl, b2, b3, b4, b5⟩, hBK⟩
  · have kb : k_town (M.1 54) (M.1 55) (M.1 56) (M.1 57) (M.1 58) (M.1 59) (M.1 60) (M.1 61) (M.1 62) (M.1 71) (M.1 75) (M.1 76) x1 = (nI 0, upd (upd (M.1 54) 0 (nI 0)) 0 (nI 1), upd (M.1 55) 1 (M.1 55 1 + nI 1), M.1 57, M.1 58, M.1 59, M.1 60, M.1 61, M.1 62, M.1 71, M.1 75, M.1 76) ∧ k_town_ok (M.1 54) (M.1 55) (M.1 56) (M.1 57) (M.1 58) (M.1 59) (M.1 60) (M.1 61) (M.1 62) (M.1 71) (M.1 75) (M.1 76) x1 := by
      by_cases g1 : x1 < 0
      · simp only [k_town, k_town_ok, if_pos g1, and_self]
      · by_cases g2 : M.1 54 2 < x1
        · simp only [k_town, k_town_ok, if_neg g1, if_pos g2, and_self]
        · refine (tx_no (f3.trans f2.symm) hx g1 g2 (fun z => g2 ?_)).elim
          have hle : M.1 54 2 ≤ nI 600 := by rw [f3]; exact (pu_lei (by omega) (by omega)).mpr f1
          rw [pu_lt] at z ⊢
          rw [pu_le] at hle
          omega
    refine ⟨by simp only [EO_town, e_town_ok, if_neg hx], ?_⟩
    refine Ag.bad1 h (by decide) _ (by simp only [e_town, if_neg hx]) ?_ ?_ ?_ ?_ ?_
    · simp only [KO_town, mrow_hit, mrow_miss, ne_eq, Nat.reduceEqDiff, not_false_eq_true, reduceCtorEq, kb.2]
    · simp only [K_town, mrow_hit, mrow_miss, ne_eq, Nat.reduceEqDiff, not_false_eq_true, reduceCtorEq, kb.1]
    · simp only [K_town, mrow_hit, mrow_miss, ne_eq, Nat.reduceEqDiff, not_false_eq_true, reduceCtorEq, kb.1]
    · simp only [K_town, mrow_hit, mrow_miss, ne_eq, Nat.reduceEqDiff, not_false_eq_true, reduceCtorEq]
    · intro c hc
      by_cases g0 : c = 76
      · subst g0
        simp only [K_town, mrow_hit, mrow_miss, ne_eq, Nat.reduceEqDiff, not_false_eq_true, reduceCtorEq, kb.1]
      by_cases g1 : c = 75
      · subst g1
        simp only [K_town, mrow_hit, mrow_miss, ne_eq, Nat.reduceEqDiff, not_false_eq_true, reduceCtorEq, kb.1]
      by_cases g2 : c = 71
      · subst g2
        simp only [K_town, mrow_hit, mrow_miss, ne_eq, Nat.reduceEqDiff, not_false_eq_true, reduceCtorEq, kb.1]
      by_cases g3 : c = 62
      · subst g3
        simp only [K_town, mrow_hit, mrow_miss, ne_eq, Nat.reduceEqDiff, not_false_eq_true, reduceCtorEq, kb.1]
      by_cases g4 : c = 61
      · subst g4
        simp only [K_town, mrow_hit, mrow_miss, ne_eq, Nat.reduceEqDiff, not_false_eq_true, reduceCtorEq, kb.1]
      by_cases g5 : c = 60
      · subst g5
        simp only [K_town, mrow_hit, mrow_miss, ne_eq, Nat.reduceEqDiff, not_false_eq_true, reduceCtorEq, kb.1]
      by_cases g6 : c = 59
      · subst g6
        simp only [K_town, mrow_hit, mrow_miss, ne_eq, Nat.reduceEqDiff, not_false_eq_true, reduceCtorEq, kb.1]
      by_cases g7 : c = 58
      · subst g7
        simp only [K_town, mrow_hit, mrow_miss, ne_eq, Nat.reduceEqDiff, not_false_eq_true, reduceCtorEq, kb.1]
      by_cases g8 : c = 57
      · subst g8
        simp only [K_town, mrow_hit, mrow_miss, ne_eq, Nat.reduceEqDiff, not_false_eq_true, reduceCtorEq, kb.1]
      simp only [K_town]
      rw [mrow_miss _ _ g0, mrow_miss _ _ g1, mrow_miss _ _ g2, mrow_miss _ _ g3, mrow_miss _ _ g4, mrow_miss _ _ g5, mrow_miss _ _ g6, mrow_miss _ _ g7, mrow_miss _ _ g8, mrow_miss _ _ (scr_ne hc rfl), mrow_miss _ _ (scr_ne hc rfl), mrow_miss _ _ (scr_ne hc rfl)]
