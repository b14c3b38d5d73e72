/-! reading a law -/
theorem op_law {np nr nt nf : Nat} {M : Mem} (h : IV np nr nt nf M) (x1 : Int32) : EO_law M x1 ∧ Ag 1 0 (e_law M x1) (fun N => KO_law N x1) (fun N => K_law N x1) := by
  obtain ⟨⟨z1, z2, z3, z4⟩, hs, hcc, ht, hL, hD, hH, hI, hTP, ⟨b1, b2, b3, b4, b5⟩, hBK⟩ := id h
  obtain ⟨fd, f1, f2, f3, f4⟩ := id hTP
  have hB : BY (M.1 2) (M.1 56) := f4
  by_cases hx : ¬ x1 < nI 0 ∧ x1 ≤ (if (M.1 1 1) < (nI 150) then M.1 1 1 else (nI 150))
  · obtain ⟨n, hn, hn2, en⟩ := tx_in (by omega) f1 f2 hx
    have k1 : ¬ x1 < 0 := by rw [← nI_0]; exact hx.1
    have k2 : ¬ M.1 54 2 < x1 := by
      rw [f3, en]; intro z
      have := (pu_lti (by omega) (by omega)).mp z
      omega
    have k3 : ¬ nI 150 < x1 := by
      rw [en]; intro z
      have := (pu_lti (by omega) (by omega)).mp z
      omega
    have tq := bg_ts (n := n) f2 f1 hn2
    obtain ⟨tm, tm2, tm7, tmf⟩ := bg_ms (m := upd (M.1 54) 0 (nI 0)) (n := n)
    rw [← en] at tq tm tm2 tm7 tmf
    rcases y1 : k_begins (upd (M.1 54) 0 (nI 0)) x1 with ⟨u14, r15⟩
    rw [y1] at tm tm2 tm7 tmf
    simp only at tm tm2 tm7 tmf
    have tm' : MS (upd r15 29 (nI 0)) n 0 := tm.u (by decide) (by decide) (by decide)
    have t7' : upd r15 29 (nI 0) 7 = nI 0 := by rw [pk_un (by decide)]; exact tm7
    have hLI : LI 0 (upd (M.1 25) 3 (nI 0)) (M.1 27) (upd r15 29 (nI 0)) (M.1 63) (M.1 64) := ⟨pk_us, pk_us, fun k hk => absurd hk (Nat.not_lt_zero k), fun k hk => absurd hk (Nat.not_lt_zero k)⟩
    obtain ⟨o1, o2, q', lw', C', m', O', V', o3, o4, o5, o6⟩ := (rec_fp hn hB (cN 10) 0 (by rw [cN_eq]; omega) (by omega)).1 (t_begin (M.1 1) x1).2 (upd r15 29 (nI 0)) (upd (M.1 25) 3 (nI 0)) (M.1 27) (M.1 63) (M.1 64) 0 0 0 tq tm' t7' hLI (by omega)
    have fr : ∀ j, j ≠ 0 → j ≠ 2 → j ≠ 8 → j ≠ 3 → j ≠ 4 → j ≠ 5 → j ≠ 6 → j ≠ 7 → j ≠ 29 → m' j = M.1 54 j := fun j g0 g2 g8 g3 g4 g5 g6 g7 g29 => by
      rw [o5 j g4 g5 g6 g7 g29, pk_un g29, tmf j g2 g8 g3 g4 g5 g7, pk_un g0]
    have m0 : m' 0 = nI 0 := by rw [o5 0 (by decide) (by decide) (by decide) (by decide) (by decide), pk_un (by decide), tmf 0 (by decide) (by decide) (by decide) (by decide) (by decide) (by decide), pk_us]
    have m2 : m' 2 = nI 0 := by rw [o5 2 (by decide) (by decide) (by decide) (by decide) (by decide), pk_un (by decide)]; exact tm2
    have f20 : ∀ j, t5v j = true → m' j = M.1 54 j := fun j hj => fr j (t5v_ne hj rfl) (t5v_ne hj rfl) (t5v_ne hj rfl) (t5v_ne hj rfl) (t5v_ne hj rfl) (t5v_ne hj rfl) (t5v_ne hj rfl) (t5v_ne hj rfl) (t5v_ne hj rfl)
    have m30 := fr 30 (by decide) (by decide) (by decide) (by decide) (by decide) (by decide) (by decide) (by decide) (by decide)
    have m35 := fr 35 (by decide) (by decide) (by decide) (by decide) (by decide) (by decide) (by decide) (by decide) (by decide)
    have m51 := fr 51 (by decide) (by decide) (by decide) (by decide) (by decide) (by decide) (by decide) (by decide) (by decide)
    have m36 := fr 36 (by decide) (by decide) (by decide) (by decide) (by decide) (by decide) (by decide) (by decide) (by decide)
    have m45 := fr 45 (by decide) (by decide) (by decide) (by decide) (by decide) (by decide) (by decide) (by decide) (by decide)
    -- the bad end
    have bad : ∀ (q2 m2' : Nat → Int32), Bd q2 m2' n → (∀ j, j ≠ 4 → j ≠ 5 → j ≠ 6 → m2' j = m' j) → l_readFrom ((t_begin (M.1 1) x1).2) (M.1 2) (M.1 25) (M.1 27) = (0, q2, lw', C') → l_readFrom_ok ((t_begin (M.1 1) x1).2) (M.1 2) (M.1 25) (M.1 27) → k_law (M.1 54) (M.1 55) (M.1 56) (M.1 63) (M.1 64) (M.1 65) (M.1 66) x1 = ((k_result m2' (nI 1)).1, upd m2' 8 (m2' 5), M.1 55, O', V', M.1 65, M.1 66) → k_law_ok (M.1 54) (M.1 55) (M.1 56) (M.1 63) (M.1 64) (M.1 65) (M.1 66) x1 → EO_law M x1 ∧ Ag 1 0 (e_law M x1) (fun N => KO_law N x1) (fun N => K_law N x1) := by
      intro q2 m9 hbd hfm er ero kb kbo
      obtain ⟨kd, w1, w2, w3, w4, w5⟩ := res_bad hbd (nI 1)
      rw [w2] at kb
      refine ⟨by simp only [EO_law, e_law_ok, if_pos hx, ero, and_self], Or.inl ⟨nI kd - nI 10, mrow (mrow (mrow M 1 q2) 25 lw') 27 C', ?_, ?_, ?_, ?_, np, nr, nt, nf, ?_⟩⟩
      · simp only [e_law, if_pos hx, er, if_neg hbd.is, w1]
      · simp only [KO_law, mrow_hit, mrow_miss, ne_eq, Nat.reduceEqDiff, not_false_eq_true, reduceCtorEq, kbo]
      · simp only [K_law, mrow_hit, mrow_miss, ne_eq, Nat.reduceEqDiff, not_false_eq_true, reduceCtorEq, kb]
      · simp only [K_law, mrow_hit, mrow_miss, ne_eq, Nat.reduceEqDiff, not_false_eq_true, reduceCtorEq, kb]
        rw [pk_un (by decide), hfm 0 (by decide) (by decide) (by decide)]; exact m0
      · refine h.rd (N := _) (fun c hc => ?_) (fun j hj => ?_) ?_ ?_ ?_ ?_ ?_ ?_ ?_
        · simp only [K_law]
          rw [mrow_miss _ _ (tv_ne hc rfl), mrow_miss _ _ (tv_ne hc rfl), mrow_miss _ _ (tv_ne hc rfl), mrow_miss _ _ (tv_ne hc rfl), mrow_miss _ _ (tv_ne hc rfl), mrow_miss _ _ (tv_ne hc rfl), mrow_miss _ _ (tv_ne hc rfl), mrow_miss _ _ (tv_ne hc rfl), mrow_miss _ _ (tv_ne hc rfl)]
        all_goals simp only [K_law, mrow_hit, mrow_miss, ne_eq, Nat.reduceEqDiff, not_false_eq_true, reduceCtorEq, kb]
        · rw [pk_un (t5v_ne hj rfl), hfm j (t5v_ne hj rfl) (t5v_ne hj rfl) (t5v_ne hj rfl)]; exact f20 j hj
        · exact LWr_cg hL (by rw [pk_un (by decide), hfm 30 (by decide) (by decide) (by decide)]; exact m30)
        · exact hD
        · rw [pk_un (by decide), hfm 35 (by decide) (by decide) (by decide), m35]; exact hH
        · rw [pk_un (by decide), hfm 51 (by decide) (by decide) (by decide), m51]; exact hI
        · rw [pk_un (by decide), hfm 2 (by decide) (by decide) (by decide), m2, w4]; exact ⟨0, by omega, rfl, rfl, f4⟩
        · refine ⟨?_, ?_, ?_, b4, b5⟩
          · rw [pk_us]; exact w5
          · rw [pk_un (by decide), hfm 45 (by decide) (by decide) (by decide), m45]; exact b2
          · rw [pk_un (by decide), hfm 36 (by decide) (by decide) (by decide), m36]; exact b3
        · exact hBK
    rcases o6 with ⟨a, c, g1, g2, g3, g4, g5, g6, g7⟩ | ⟨hbd, -⟩
    · obtain ⟨e1, e2, s, q2, e3, e4, e5, e6, e7, e8⟩ := mo_eq (by omega) hB g2 g3
      rcases e8 with ⟨hl, ⟨b, hb1, hb2⟩, hb3⟩ | ⟨hl, hb2, hb3⟩
      · obtain ⟨v1, -⟩ := TF.of (s := s) (kd := 1) e5.1 e5.2.1 e5.2.2.2.1 e5.2.2.2.2.1 e3 (by omega)
        obtain ⟨v2, v3⟩ := MF.of (s := s) (kd := 1) e7.1 e7.2.1 e7.2.2.1 e3 (by omega)
        rcases x3 : t_fail q2 (nI 1) (nI s) with ⟨u18, r19⟩
        rcases x4 : k_wrong (upd m' 4 (nI s)) (nI 1) (nI s) with ⟨u81, r82⟩
        rw [x3] at v1
        rw [x4] at v2 v3
        simp only at v1 v2 v3
        have hbd : Bd r19 r82 n := ⟨_, _, v1, v2⟩
        obtain ⟨kd, w1, w2, w3, w4, w5⟩ := res_bad hbd (nI 1)
        refine bad r19 r82 hbd (fun j h4 h5 h6 => by rw [v3 j h4 h5 h6, pk_un h4]) ?_ ?_ ?_ ?_
        · simp only [l_readFrom, l_readSum, o3, hb2, if_neg hb1, e6, x3]
        · simp only [l_readFrom_ok, l_readSum_ok, l_readSum, o1, o3, e1, and_self]
        · simp only [k_law, if_neg k1, if_neg k2, if_neg k3, y1, k_readSum, o4, g3.fi, if_neg pu_n10, hb3, pk_us, x4, w2, if_neg w3]
        · simp only [k_law_ok, if_neg k1, if_neg k2, if_neg k3, y1, k_readSum_ok, k_readSum, o2, o4, g3.fi, if_neg pu_n10, e2, hb3, pk_us, x4, w2, if_neg w3, and_self]
      · obtain ⟨w2, w3, w4⟩ := res_good e7 (nI 1)
        obtain ⟨l1, l2, l3, l4⟩ := id g5
        have hc1 : 1 ≤ c := by
          rcases Nat.eq_zero_or_pos c with r | r
          · rw [r] at g6
            exact absurd g6 (Nat.zero_ne_one)
          · exact r
        have han := g2.2.2.2.2.2
        have ic : ix (nI c) = c := pu_ix (by omega)
        have yc : isN (nI c) := pu_isN (by omega)
        have e29 : upd (upd m' 4 (nI s)) 8 (upd m' 4 (nI s) 5) 29 = nI c := by rw [pk_un (by decide), pk_un (by decide)]; exact l2
        have er : l_readFrom ((t_begin (M.1 1) x1).2) (M.1 2) (M.1 25) (M.1 27) = (0, q2, lw', C') := by
          simp only [l_readFrom, l_readSum, o3, hb2, ↓reduceIte]
        have ero : l_readFrom_ok ((t_begin (M.1 1) x1).2) (M.1 2) (M.1 25) (M.1 27) := by
          simp only [l_readFrom_ok, l_readSum_ok, l_readSum, o1, o3, e1, and_self]
        have kb : k_law (M.1 54) (M.1 55) (M.1 56) (M.1 63) (M.1 64) (M.1 65) (M.1 66) x1 = (nI 1, upd (upd (upd m' 4 (nI s)) 8 (upd m' 4 (nI s) 5)) 30 (nI c), M.1 55, O', V', k_copies_L150_L150_3 O' (M.1 65) c c, k_copies_L150_L150_3 V' (M.1 66) c c) := by
          simp only [k_law, if_neg k1, if_neg k2, if_neg k3, y1, k_readSum, o4, g3.fi, if_neg pu_n10, hb3, if_pos pu_n01, w2, if_pos w3, e29, ic, k_copies_L150_L150]
        have kbo : k_law_ok (M.1 54) (M.1 55) (M.1 56) (M.1 63) (M.1 64) (M.1 65) (M.1 66) x1 := by
          simp only [k_law_ok, if_neg k1, if_neg k2, if_neg k3, y1, k_readSum_ok, k_readSum, o2, o4, g3.fi, if_neg pu_n10, e2, hb3, if_pos pu_n01, w2, if_pos w3, e29, ic, yc, k_copies_L150_L150, k_copies_L150_L150_ok, k_copies_L150_L150_3_ok, and_true, true_and]
          exact ⟨by omega, fun i hi => by omega, fun i hi => by omega⟩
        refine ⟨by simp only [EO_law, e_law_ok, if_pos hx, ero, and_self], Or.inl ⟨nI 1, mrow (mrow (mrow (mrow (mrow M 1 q2) 21 (upd (M.1 21) 3 (lw' 3))) 23 (va_cpy C' (M.1 23) 0 0 150)) 25 lw') 27 C', ?_, ?_, ?_, ?_, np, nr, nt, nf, ?_⟩⟩
        · simp only [e_law, if_pos hx, er, if_pos e5.nf, l_take]
        · simp only [KO_law, mrow_hit, mrow_miss, ne_eq, Nat.reduceEqDiff, not_false_eq_true, reduceCtorEq, kbo]
        · simp only [K_law, mrow_hit, mrow_miss, ne_eq, Nat.reduceEqDiff, not_false_eq_true, reduceCtorEq, kb]
        · simp only [K_law, mrow_hit, mrow_miss, ne_eq, Nat.reduceEqDiff, not_false_eq_true, reduceCtorEq, kb]
          rw [pk_un (by decide), pk_un (by decide), pk_un (by decide)]; exact m0
        · have hC : ∀ k, k < c → va_cpy C' (M.1 23) 0 0 150 k = C' k := fun k hk => by
            rw [pk_cpy_in (show 0 ≤ k by omega) (show k < 0 + 150 by omega), show 0 + (k - 0) = k by omega]
          refine h.rd (N := _) (fun c hc => ?_) (fun j hj => ?_) ?_ ?_ ?_ ?_ ?_ ?_ ?_
          · simp only [K_law]
            rw [mrow_miss _ _ (tv_ne hc rfl), mrow_miss _ _ (tv_ne hc rfl), mrow_miss _ _ (tv_ne hc rfl), mrow_miss _ _ (tv_ne hc rfl), mrow_miss _ _ (tv_ne hc rfl), mrow_miss _ _ (tv_ne hc rfl), mrow_miss _ _ (tv_ne hc rfl), mrow_miss _ _ (tv_ne hc rfl), mrow_miss _ _ (tv_ne hc rfl), mrow_miss _ _ (tv_ne hc rfl), mrow_miss _ _ (tv_ne hc rfl)]
          all_goals simp only [K_law, mrow_hit, mrow_miss, ne_eq, Nat.reduceEqDiff, not_false_eq_true, reduceCtorEq, kb]
          · rw [pk_un (t5v_ne hj rfl), pk_un (t5v_ne hj rfl), pk_un (t5v_ne hj rfl)]; exact f20 j hj
          · refine Or.inr ⟨c, hc1, by omega, by rw [pk_us]; exact l1, pk_us, fun k hk => ?_, fun k hk => ?_, ?_⟩
            · rw [hC k hk, cp150 _ _ _ c k hk, cp150 _ _ _ c k hk]; exact l3 k hk
            · rw [hC k hk, dp_cg (C := C') k (fun j hj => hC j (by omega))]; exact l4 k hk
            · rw [dp_cg (C := C') c (fun j hj => hC j hj), g6]; exact Nat.le_add_left 1 _
          · exact hD
          · rw [pk_un (by decide), pk_un (by decide), pk_un (by decide), m35]; exact hH
          · rw [pk_un (by decide), pk_un (by decide), pk_un (by decide), m51]; exact hI
          · rw [pk_un (by decide), pk_un (by decide), pk_un (by decide), m2, e5.1]; exact ⟨0, by omega, rfl, rfl, f4⟩
          · refine ⟨?_, ?_, ?_, b4, b5⟩
            · rw [pk_un (by decide), pk_us, w4]; exact e5.2.2.1
            · rw [pk_un (by decide), pk_un (by decide), pk_un (by decide), m45]; exact b2
            · rw [pk_un (by decide), pk_un (by decide), pk_un (by decide), m36]; exact b3
          · exact hBK
    · obtain ⟨d1, q2, d2, d3⟩ := hbd.nx (B := M.1 2) (by omega)
      obtain ⟨kd, w1, w2, w3, w4, w5⟩ := res_bad d3 (nI 1)
      refine bad q2 m' d3 (fun j _ _ _ => rfl) ?_ ?_ ?_ ?_
      · simp only [l_readFrom, l_readSum, o3, d2, ↓reduceIte]
      · simp only [l_readFrom_ok, l_readSum_ok, l_readSum, o1, o3, d1, and_self]
      · simp only [k_law, if_neg k1, if_neg k2, if_neg k3, y1, k_readSum, o4, d3.fi, if_pos pu_n01, w2, if_neg w3]
      · simp only [k_law_ok, if_neg k1, if_neg k2, if_neg k3, y1, k_readSum_ok, k_readSum, o2, o4, d3.fi, if_pos pu_n01, w2, if_neg w3, and_self]
  · have kb : k_law (M.1 54) (M.1 55) (M.1 56) (M.1 63) (M.1 64) (M.1 65) (M.1 66) x1 = (nI 0, upd (upd (M.1 54) 0 (nI 0)) 0 (nI 1), upd (M.1 55) 1 (M.1 55 1 + nI 1), M.1 63, M.1 64, M.1 65, M.1 66) ∧ k_law_ok (M.1 54) (M.1 55) (M.1 56) (M.1 63) (M.1 64) (M.1 65) (M.1 66) x1 := by
      by_cases g1 : x1 < 0
      · simp only [k_law, k_law_ok, if_pos g1, and_self]
      · by_cases g2 : M.1 54 2 < x1
        · simp only [k_law, k_law_ok, if_neg g1, if_pos g2, and_self]
        · by_cases g3 : nI 150 < x1
          · simp only [k_law, k_law_ok, if_neg g1, if_neg g2, if_pos g3, and_self]
          · exact (tx_no (f3.trans f2.symm) hx g1 g2 g3).elim
    refine ⟨by simp only [EO_law, e_law_ok, if_neg hx], ?_⟩
    refine Ag.bad1 h (by decide) _ (by simp only [e_law, if_neg hx]) ?_ ?_ ?_ ?_ ?_
    · simp only [KO_law, mrow_hit, mrow_miss, ne_eq, Nat.reduceEqDiff, not_false_eq_true, reduceCtorEq, kb.2]
    · simp only [K_law, mrow_hit, mrow_miss, ne_eq, Nat.reduceEqDiff, not_false_eq_true, reduceCtorEq, kb.1]
    · simp only [K_law, mrow_hit, mrow_miss, ne_eq, Nat.reduceEqDiff, not_false_eq_true, reduceCtorEq, kb.1]
    · simp only [K_law, mrow_hit, mrow_miss, ne_eq, Nat.reduceEqDiff, not_false_eq_true, reduceCtorEq]
    · intro c hc
      by_cases g1 : c = 66
      · subst g1
        simp only [K_law, mrow_hit, mrow_miss, ne_eq, Nat.reduceEqDiff, not_false_eq_true, reduceCtorEq, kb.1]
      · by_cases g2 : c = 65
        · subst g2
          simp only [K_law, mrow_hit, mrow_miss, ne_eq, Nat.reduceEqDiff, not_false_eq_true, reduceCtorEq, kb.1]
        · by_cases g3 : c = 64
          · subst g3
            simp only [K_law, mrow_hit, mrow_miss, ne_eq, Nat.reduceEqDiff, not_false_eq_true, reduceCtorEq, kb.1]
          · by_cases g4 : c = 63
            · subst g4
              simp only [K_law, mrow_hit, mrow_miss, ne_eq, Nat.reduceEqDiff, not_false_eq_true, reduceCtorEq, kb.1]
            · simp only [K_law]
              rw [mrow_miss _ _ g1, mrow_miss _ _ g2, mrow_miss _ _ g3, mrow_miss _ _ g4, mrow_miss _ _ (scr_ne hc rfl), mrow_miss _ _ (scr_ne hc rfl), mrow_miss _ _ (scr_ne hc rfl)]
