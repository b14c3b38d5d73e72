/-! a work -/
theorem op_work {np nr nt nf : Nat} {M : Mem} (h : IV np nr nt nf M) (x1 : Int32) : EO_work M nr nt nf x1 ∧ Ag 1 0 (e_work M nr nt nf x1) (fun N => KO_work N x1) (fun N => K_work N x1) := by
  obtain ⟨⟨z1, z2, z3, z4⟩, ⟨s1, s2, s3, s4⟩, ⟨c1, c2, c3, c4⟩, ⟨t1, t2, t3⟩, hL, hD, hH, hI, hTP, ⟨b1, b2, b3, b4, b5⟩, hBK⟩ := id h
  obtain ⟨fd, f1, f2, f3, f4⟩ := id hTP
  obtain ⟨w, w1, w2, w3, w4⟩ := id hH
  have hB : BY (M.1 2) (M.1 56) := f4
  by_cases hx : ¬ x1 < nI 0 ∧ x1 ≤ (if (M.1 1 1) < (nI 150) then M.1 1 1 else (nI 150))
  · obtain ⟨n, hn, hn2, en⟩ := tx_in (by omega) f1 f2 hx
    have k1 : ¬ x1 < 0 := by rw [← nI_0]; exact hx.1
    have k2 : ¬ M.1 54 2 < x1 := by
      rw [f3, en]; intro z
      have := (pu_lti (by omega) (by omega)).mp z
      omega
    have k3 : ¬ nI 150 < x1 := by
      rw [en]; intro z
      have := (pu_lti (by omega) (by omega)).mp z
      omega
    have tq := bg_ts (n := n) f2 f1 hn2
    obtain ⟨tm, tm2, tm7, tmf⟩ := bg_ms (m := upd (M.1 54) 0 (nI 0)) (n := n)
    rw [← en] at tq tm tm2 tm7 tmf
    rcases y1 : k_begins (upd (M.1 54) 0 (nI 0)) x1 with ⟨u14, r15⟩
    rw [y1] at tm tm2 tm7 tmf
    simp only at tm tm2 tm7 tmf
    have fr0 : ∀ j, j ≠ 0 → j ≠ 2 → j ≠ 8 → j ≠ 3 → j ≠ 4 → j ≠ 5 → j ≠ 7 → r15 j = M.1 54 j := fun j g0 g2 g8 g3 g4 g5 g7 => by
      rw [tmf j g2 g8 g3 g4 g5 g7, pk_un g0]
    have r35 : r15 35 = nI w := by rw [fr0 35 (by decide) (by decide) (by decide) (by decide) (by decide) (by decide) (by decide)]; exact w3
    have r0 : r15 0 = nI 0 := by rw [tmf 0 (by decide) (by decide) (by decide) (by decide) (by decide) (by decide), pk_us]
    by_cases cw : w = 16
    · have f16 : ¬ M.1 43 0 < nI 16 := by rw [w2, cw]; decide
      have g16 : r15 35 = nI 16 := by rw [r35, cw]
      obtain ⟨v2, v3, v4⟩ := res_good tm (nI 0)
      have kb : k_work (M.1 54) (M.1 55) (M.1 56) (M.1 60) (M.1 61) (M.1 65) (M.1 66) (M.1 67) (M.1 68) (M.1 69) (M.1 70) (M.1 71) (M.1 72) (M.1 73) x1 = (-20, upd r15 8 (r15 5), M.1 55, M.1 67, M.1 68, M.1 69, M.1 70, M.1 71, M.1 72, M.1 73) := by
        simp only [k_work, if_neg k1, if_neg k2, if_neg k3, y1, if_pos g16, v2]
      have kbo : k_work_ok (M.1 54) (M.1 55) (M.1 56) (M.1 60) (M.1 61) (M.1 65) (M.1 66) (M.1 67) (M.1 68) (M.1 69) (M.1 70) (M.1 71) (M.1 72) (M.1 73) x1 := by
        simp only [k_work_ok, if_neg k1, if_neg k2, if_neg k3, y1, if_pos g16, and_self]
      refine ⟨⟨z2, s2, z3, s3, z4, s4, by simp only [e_work_ok, if_pos hx, if_neg f16]⟩, Or.inl ⟨-20, mrow M 1 (t_begin (M.1 1) x1).2, ?_, ?_, ?_, ?_, np, nr, nt, nf, ?_⟩⟩
      · simp only [e_work, if_pos hx, if_neg f16]
      · simp only [KO_work, mrow_hit, mrow_miss, ne_eq, Nat.reduceEqDiff, not_false_eq_true, reduceCtorEq, kbo]
      · simp only [K_work, mrow_hit, mrow_miss, ne_eq, Nat.reduceEqDiff, not_false_eq_true, reduceCtorEq, kb]
      · simp only [K_work, mrow_hit, mrow_miss, ne_eq, Nat.reduceEqDiff, not_false_eq_true, reduceCtorEq, kb]
        rw [pk_un (by decide)]; exact r0
      · refine h.put (N := _) (fun c hc => ?_) (fun j hj => ?_) ?_ ?_ ?_ ?_ ?_ ?_
        · simp only [K_work]
          rw [mrow_miss _ _ (tw_ne hc rfl), mrow_miss _ _ (tw_ne hc rfl), mrow_miss _ _ (tw_ne hc rfl), mrow_miss _ _ (tw_ne hc rfl), mrow_miss _ _ (tw_ne hc rfl), mrow_miss _ _ (tw_ne hc rfl), mrow_miss _ _ (tw_ne hc rfl), mrow_miss _ _ (tw_ne hc rfl), mrow_miss _ _ (tw_ne hc rfl), mrow_miss _ _ (tw_ne hc rfl)]
        all_goals simp only [K_work, mrow_hit, mrow_miss, ne_eq, Nat.reduceEqDiff, not_false_eq_true, reduceCtorEq, kb]
        · rw [pk_un (t54_ne hj rfl)]; exact fr0 j (t54_ne hj rfl) (t54_ne hj rfl) (t54_ne hj rfl) (t54_ne hj rfl) (t54_ne hj rfl) (t54_ne hj rfl) (t54_ne hj rfl)
        · exact hD
        · rw [pk_un (by decide), r35]; rw [w3] at hH; exact hH
        · rw [pk_un (by decide), fr0 51 (by decide) (by decide) (by decide) (by decide) (by decide) (by decide) (by decide)]; exact hI
        · rw [pk_un (by decide), tm2, tq.1]; exact ⟨0, by omega, rfl, rfl, f4⟩
        · refine ⟨?_, ?_, ?_, b4, b5⟩
          · rw [pk_us, v4]; exact tq.2.2.1
          · rw [pk_un (by decide), fr0 45 (by decide) (by decide) (by decide) (by decide) (by decide) (by decide) (by decide)]; exact b2
          · rw [pk_un (by decide), fr0 36 (by decide) (by decide) (by decide) (by decide) (by decide) (by decide) (by decide)]; exact b3
        · exact hBK
    · have f16 : nI w < nI 16 := (pu_lti (by omega) (by omega)).mpr (by omega)
      have f16' : ¬ nI 16 ≤ nI w := fun z => by
        have := (pu_lei (by omega) (by omega)).mp z
        omega
      have g16 : ¬ nI w = nI 16 := fun z => cw ((pu_eqi (by omega) (by omega)).mp z)
      have iw : ix (nI w) = w := pu_ix (by omega)
      have yw : isN (nI w) := pu_isN (by omega)
      have tm' : MS (upd r15 34 (nI 0)) n 0 := tm.u (by decide) (by decide) (by decide)
      have t7' : upd r15 34 (nI 0) 7 = nI 0 := by rw [pk_un (by decide)]; exact tm7
      have hSZ : SZm nr nt nf (upd r15 34 (nI 0)) := ⟨by rw [pk_un (by decide), fr0 21 (by decide) (by decide) (by decide) (by decide) (by decide) (by decide) (by decide)]; exact c2, by rw [pk_un (by decide), fr0 22 (by decide) (by decide) (by decide) (by decide) (by decide) (by decide) (by decide)]; exact c3, by rw [pk_un (by decide), fr0 23 (by decide) (by decide) (by decide) (by decide) (by decide) (by decide) (by decide)]; exact c4⟩
      have hWI : WI nr nt nf 0 (upd (M.1 33) 3 (nI 0)) (M.1 34) (M.1 35) (M.1 36) (upd r15 34 (nI 0)) (M.1 69) := ⟨pk_us, pk_us, fun i hi => absurd hi (Nat.not_lt_zero i)⟩
      have hSW : SW nr nt nf n 0 0 0 0 (M.1 34) (M.1 36) (t_begin (M.1 1) x1).2 (upd r15 34 (nI 0)) (upd (M.1 33) 3 (nI 0)) (M.1 34) (M.1 35) (M.1 36) (M.1 69) := Or.inl ⟨0, 0, by omega, tq, tm', t7', hSZ, hWI, ⟨0, rfl⟩, fun i hi => absurd hi (Nat.not_lt_zero i), by omega⟩
      obtain ⟨o1, o2, q1, wk1, K1, F1, S1, m1, N1, o3, o4, o5, o6⟩ := wrk_l2 hn hB ⟨z2, z3, z4⟩ (M.1 34) (M.1 36) (cN 150) 0 FU 0 (t_begin (M.1 1) x1).2 (upd r15 34 (nI 0)) (upd (M.1 33) 3 (nI 0)) (M.1 34) (M.1 35) (M.1 36) (M.1 69) (by rw [cN_eq]; omega) (by rw [FU_eq]; omega) (by rw [FU_eq]; omega) hSW
      have fr : ∀ j, j ≠ 0 → j ≠ 2 → j ≠ 8 → j ≠ 3 → j ≠ 4 → j ≠ 5 → j ≠ 6 → j ≠ 7 → j ≠ 34 → m1 j = M.1 54 j := fun j g0 g2 g8 g3 g4 g5 g6 g7 g34 => by
        rw [o5 j g4 g5 g6 g7 g34, pk_un g34]; exact fr0 j g0 g2 g8 g3 g4 g5 g7
      have m0 : m1 0 = nI 0 := by rw [o5 0 (by decide) (by decide) (by decide) (by decide) (by decide), pk_un (by decide)]; exact r0
      have m2 : m1 2 = nI 0 := by rw [o5 2 (by decide) (by decide) (by decide) (by decide) (by decide), pk_un (by decide)]; exact tm2
      have f20 : ∀ j, t54 j = true → m1 j = M.1 54 j := fun j hj => fr j (t54_ne hj rfl) (t54_ne hj rfl) (t54_ne hj rfl) (t54_ne hj rfl) (t54_ne hj rfl) (t54_ne hj rfl) (t54_ne hj rfl) (t54_ne hj rfl) (t54_ne hj rfl)
      have m35 : m1 35 = nI w := by rw [fr 35 (by decide) (by decide) (by decide) (by decide) (by decide) (by decide) (by decide) (by decide) (by decide)]; exact w3
      have m51 := fr 51 (by decide) (by decide) (by decide) (by decide) (by decide) (by decide) (by decide) (by decide) (by decide)
      have m36 := fr 36 (by decide) (by decide) (by decide) (by decide) (by decide) (by decide) (by decide) (by decide) (by decide)
      have m45 := fr 45 (by decide) (by decide) (by decide) (by decide) (by decide) (by decide) (by decide) (by decide) (by decide)
      have er : x_readFrom ((t_begin (M.1 1) x1).2) (M.1 2) (M.1 33) (M.1 34) (M.1 35) (M.1 36) nr nt nf = (0, q1, wk1, K1, F1, S1) := by simp only [x_readFrom, o3]
      have ero : x_readFrom_ok ((t_begin (M.1 1) x1).2) (M.1 2) (M.1 33) (M.1 34) (M.1 35) (M.1 36) nr nt nf := ⟨o1, trivial⟩
      rcases o6 with ⟨a, c, g1, g2, g3, g4, g5, ⟨wi1, wi2, wi3⟩, ⟨fv, g7⟩, g8, g9⟩ | ⟨hbd, -⟩
      · have han := g2.2.2.2.2.2
        obtain ⟨v2, v3, v4⟩ := res_good g3 (nI 0)
        have e34 : upd m1 8 (m1 5) 34 = nI (3 * c) := by rw [pk_un (by decide)]; exact wi2
        have e35 : upd m1 8 (m1 5) 35 = nI w := by rw [pk_un (by decide)]; exact m35
        have i3 : ix (nI (3 * c)) = 3 * c := pu_ix (by omega)
        have y3 : isN (nI (3 * c)) := pu_isN (by omega)
        have hr : ∀ i, i < c → WRi nr nt nf K1 F1 S1 (k_copies_L150_L150_3 N1 (M.1 70) (3 * c) (3 * c)) i := fun i hi => by
          unfold WRi
          rw [cp150 _ _ _ (3 * c) (3 * i) (by omega), cp150 _ _ _ (3 * c) (3 * i + 1) (by omega), cp150 _ _ _ (3 * c) (3 * i + 2) (by omega)]
          exact wi3 i hi
        rcases y6 : k_take (M.1 71) (M.1 72) with ⟨u61, r62⟩
        have hD2 : DRd np nt nf (M.1 38) r62 := DRd_cg hD z3 z4 (fun _ _ => rfl) (fun j hj => by
          have := take_at (M.1 71) (M.1 72) hj
          rw [y6] at this
          exact this)
        have hXS : XS np nt nf (M.1 21) (M.1 23) (M.1 65) (M.1 66) (upd (upd (upd wk1 2 (nI 0)) 0 (nI 0)) 1 (nI 0)) (M.1 38) (upd (upd (upd (upd (upd m1 8 (m1 5)) 35 (nI (w + 1))) 37 (nI 0)) 38 (nI 0)) 39 (nI 0)) r62 := by
          refine ⟨hD2, ⟨0, by omega, ?_, ?_⟩, ?_, ?_, ⟨?_, ?_⟩, LWr_cg hL ?_⟩
          · rw [pk_un (by decide), pk_un (by decide), pk_us]
          · rw [pk_un (by decide), pk_un (by decide), pk_us]
          · rw [pk_un (by decide), pk_us, pk_un (by decide), pk_us]
          · rw [pk_us, pk_us]
          · rw [pk_un (by decide), pk_un (by decide), pk_un (by decide), pk_un (by decide), pk_un (by decide), f20 22 rfl]; exact c3
          · rw [pk_un (by decide), pk_un (by decide), pk_un (by decide), pk_un (by decide), pk_un (by decide), f20 23 rfl]; exact c4
          · rw [pk_un (by decide), pk_un (by decide), pk_un (by decide), pk_un (by decide), pk_un (by decide), f20 30 rfl]
        obtain ⟨p1, p2, G', Vs', wk', R', md', St', Fa', S', p3, p4, p5, p6⟩ := do_rec (O := M.1 65) (V := M.1 66) (Lw := M.1 21) (C := M.1 23) t2 t1 ⟨z1, z2, z3, z4⟩ hr (by omega) (cN 10) 6 fv 0 c 0 (by rw [cN_eq]; omega) (by omega) g7 (Nat.le_refl _) (M.1 22) (M.1 24) _ (M.1 38) _ (M.1 67) (M.1 68) r62 hXS
        obtain ⟨a1, a2, a3, a4, a5, a6⟩ := id p6
        have z0 : (3 * 0 : Nat) = 0 := rfl
        rw [z0] at p2 p4
        rcases y7 : k_copies_L51_L51 S' (M.1 71) (cN 51) with ⟨u76, r77⟩
        have h77 : ∀ j, j < 51 → r77 j = S' j := fun j hj => by
          have := take_at S' (M.1 71) hj
          simp only [k_take, y7] at this
          exact this
        have nw1 : nI w + nI 1 = nI (w + 1) := nI_add w 1
        have kb : k_work (M.1 54) (M.1 55) (M.1 56) (M.1 60) (M.1 61) (M.1 65) (M.1 66) (M.1 67) (M.1 68) (M.1 69) (M.1 70) (M.1 71) (M.1 72) (M.1 73) x1 = (md' 38, upd md' 36 (md' 39), M.1 55, St', Fa', N1, k_copies_L150_L150_3 N1 (M.1 70) (3 * c) (3 * c), r77, S', k_work_123 (upd m1 8 (m1 5)) (M.1 71) (M.1 73) (cN 51)) := by
          simp only [k_work, if_neg k1, if_neg k2, if_neg k3, y1, r35, if_neg g16, o4, v2, if_pos v3, e34, i3, k_copies_L150_L150, y6, e35, nw1, k_goesSteps, p4, y7]
        have kbo : k_work_ok (M.1 54) (M.1 55) (M.1 56) (M.1 60) (M.1 61) (M.1 65) (M.1 66) (M.1 67) (M.1 68) (M.1 69) (M.1 70) (M.1 71) (M.1 72) (M.1 73) x1 := by
          simp only [k_work_ok, if_neg k1, if_neg k2, if_neg k3, y1, r35, if_neg g16, o2, o4, v2, if_pos v3, e34, i3, y3, k_copies_L150_L150, k_copies_L150_L150_ok, k_copies_L150_L150_3_ok, y6, e35, nw1, k_goesSteps, k_goesSteps_ok, p2, p4, take_ok, and_true, true_and]
          refine ⟨by omega, fun i hi => by omega, fun i hi => ?_, ?_⟩
          · rw [cN_eq] at hi
            simp only [k_work_123_ok, e35, iw]
            exact ⟨yw, by omega, trivial⟩
          · have := take_ok (N := S') (s := M.1 71)
            exact (by simpa only [k_take_ok, and_true] using this)
        have ekw : h_keepWork (M.1 38) (M.1 43) (M.1 44) = (0, upd (M.1 43) 0 (nI (w + 1)), va_cpy (M.1 38) (M.1 44) 0 (w * 51) 51) := by
          simp only [h_keepWork, w2, if_neg f16', iw, nw1]
        have ekwo : h_keepWork_ok (M.1 38) (M.1 43) (M.1 44) := by
          simp only [h_keepWork_ok, w2, if_neg f16', iw]
          exact ⟨yw, by omega, trivial⟩
        refine ⟨⟨z2, s2, z3, s3, z4, s4, ?_⟩, Or.inl ⟨wk' 0, mrow (mrow (mrow (mrow (mrow (mrow (mrow (mrow (mrow (mrow (mrow M 0 (upd (M.1 0) 14 (wk' 1))) 1 q1) 22 G') 24 Vs') 33 wk') 34 K1) 35 F1) 36 S1) 38 R') 43 (upd (M.1 43) 0 (nI (w + 1)))) 44 (va_cpy (M.1 38) (M.1 44) 0 (w * 51) 51), ?_, ?_, ?_, ?_, np, nr, nt, nf, ?_⟩⟩
        · simp only [e_work_ok, if_pos hx, w2, if_pos f16, er, ero, if_pos g2.nf, ekwo, ekw, x_doneBy_ok, x_doSteps_ok, wi1, p1, and_self]
        · simp only [e_work, if_pos hx, w2, if_pos f16, er, if_pos g2.nf, ekw, x_doneBy, x_doSteps, wi1, p3]
        · simp only [KO_work, mrow_hit, mrow_miss, ne_eq, Nat.reduceEqDiff, not_false_eq_true, reduceCtorEq, kbo]
        · simp only [K_work, mrow_hit, mrow_miss, ne_eq, Nat.reduceEqDiff, not_false_eq_true, reduceCtorEq, kb]
          exact a3.symm
        · simp only [K_work, mrow_hit, mrow_miss, ne_eq, Nat.reduceEqDiff, not_false_eq_true, reduceCtorEq, kb]
          rw [pk_un (by decide), p5 0 (by decide) (by decide) (by decide), pk_un (by decide), pk_un (by decide), pk_un (by decide), pk_un (by decide), pk_un (by decide)]; exact m0
        · have pm : ∀ j, j ≠ 8 → j ≠ 35 → j ≠ 36 → j ≠ 37 → j ≠ 38 → j ≠ 39 → upd md' 36 (md' 39) j = m1 j := fun j d8 d35 d36 d37 d38 d39 => by
            rw [pk_un d36, p5 j d37 d38 d39, pk_un d39, pk_un d38, pk_un d37, pk_un d35, pk_un d8]
          have p35 : upd md' 36 (md' 39) 35 = nI (w + 1) := by
            rw [pk_un (by decide), p5 35 (by decide) (by decide) (by decide), pk_un (by decide), pk_un (by decide), pk_un (by decide), pk_us]
          have p8 : upd md' 36 (md' 39) 8 = -1 := by
            rw [pk_un (by decide), p5 8 (by decide) (by decide) (by decide), pk_un (by decide), pk_un (by decide), pk_un (by decide), pk_un (by decide), pk_us]; exact v4
          refine h.put (N := _) (fun c hc => ?_) (fun j hj => ?_) ?_ ?_ ?_ ?_ ?_ ?_
          · simp only [K_work]
            rw [mrow_miss _ _ (tw_ne hc rfl), mrow_miss _ _ (tw_ne hc rfl), mrow_miss _ _ (tw_ne hc rfl), mrow_miss _ _ (tw_ne hc rfl), mrow_miss _ _ (tw_ne hc rfl), mrow_miss _ _ (tw_ne hc rfl), mrow_miss _ _ (tw_ne hc rfl), mrow_miss _ _ (tw_ne hc rfl), mrow_miss _ _ (tw_ne hc rfl), mrow_miss _ _ (tw_ne hc rfl), mrow_miss _ _ (tw_ne hc rfl), mrow_miss _ _ (tw_ne hc rfl), mrow_miss _ _ (tw_ne hc rfl), mrow_miss _ _ (tw_ne hc rfl), mrow_miss _ _ (tw_ne hc rfl), mrow_miss _ _ (tw_ne hc rfl), mrow_miss _ _ (tw_ne hc rfl), mrow_miss _ _ (tw_ne hc rfl), mrow_miss _ _ (tw_ne hc rfl), mrow_miss _ _ (tw_ne hc rfl)]
          all_goals simp only [K_work, mrow_hit, mrow_miss, ne_eq, Nat.reduceEqDiff, not_false_eq_true, reduceCtorEq, kb]
          · rw [pm j (t54_ne hj rfl) (t54_ne hj rfl) (t54_ne hj rfl) (t54_ne hj rfl) (t54_ne hj rfl) (t54_ne hj rfl)]; exact f20 j hj
          · exact DRd_cg a1 z3 z4 (fun _ _ => rfl) h77
          · rw [p35, pk_us]
            refine ⟨w + 1, by omega, rfl, rfl, fun v hv => ?_⟩
            by_cases ev : v = w
            · rw [ev]
              refine DRd_cg hD z3 z4 (fun j hj => ?_) (fun j hj => ?_)
              · show va_cpy (M.1 38) (M.1 44) 0 (w * 51) 51 (w * 51 + j) = _
                rw [pk_cpy_in (show w * 51 ≤ w * 51 + j by omega) (show w * 51 + j < w * 51 + 51 by omega), show 0 + (w * 51 + j - w * 51) = j by omega]
              · show k_work_123 (upd m1 8 (m1 5)) (M.1 71) (M.1 73) (cN 51) (51 * w + j) = _
                rw [cN_eq, w123 _ _ _ (w := w) (by rw [e35]; exact iw), if_pos (show 51 * w ≤ 51 * w + j ∧ 51 * w + j < 51 * w + 51 by omega), show 51 * w + j - 51 * w = j by omega]
            · refine DRd_cg (w4 v (by omega)) z3 z4 (fun j hj => ?_) (fun j hj => ?_)
              · show va_cpy (M.1 38) (M.1 44) 0 (w * 51) 51 (v * 51 + j) = M.1 44 (v * 51 + j)
                rw [pk_cpy_out (show v * 51 + j < w * 51 ∨ w * 51 + 51 ≤ v * 51 + j by omega)]
              · show k_work_123 (upd m1 8 (m1 5)) (M.1 71) (M.1 73) (cN 51) (51 * v + j) = M.1 73 (51 * v + j)
                rw [cN_eq, w123 _ _ _ (w := w) (by rw [e35]; exact iw), if_neg (show ¬ (51 * w ≤ 51 * v + j ∧ 51 * v + j < 51 * w + 51) by omega)]
          · rw [pk_un (by decide), pm 51 (by decide) (by decide) (by decide) (by decide) (by decide) (by decide), m51]; exact hI
          · rw [pm 2 (by decide) (by decide) (by decide) (by decide) (by decide) (by decide), m2, g2.1]; exact ⟨0, by omega, rfl, rfl, f4⟩
          · refine ⟨?_, ?_, ?_, ?_, ?_⟩
            · rw [p8]; exact g2.2.2.1
            · rw [pm 45 (by decide) (by decide) (by decide) (by decide) (by decide) (by decide), m45]; exact b2
            · rw [pk_us, pk_us]; exact a4
            · rw [pk_un (by decide)]; exact b4
            · rw [pk_un (by decide)]; exact b5
          · exact hBK
      · obtain ⟨kd, v1, v2, v3, v4, v5⟩ := res_bad hbd (nI 0)
        have kb : k_work (M.1 54) (M.1 55) (M.1 56) (M.1 60) (M.1 61) (M.1 65) (M.1 66) (M.1 67) (M.1 68) (M.1 69) (M.1 70) (M.1 71) (M.1 72) (M.1 73) x1 = (nI kd - nI 10, upd m1 8 (m1 5), M.1 55, M.1 67, M.1 68, N1, M.1 70, M.1 71, M.1 72, M.1 73) := by
          simp only [k_work, if_neg k1, if_neg k2, if_neg k3, y1, r35, if_neg g16, o4, v2, if_neg v3]
        have kbo : k_work_ok (M.1 54) (M.1 55) (M.1 56) (M.1 60) (M.1 61) (M.1 65) (M.1 66) (M.1 67) (M.1 68) (M.1 69) (M.1 70) (M.1 71) (M.1 72) (M.1 73) x1 := by
          simp only [k_work_ok, if_neg k1, if_neg k2, if_neg k3, y1, r35, if_neg g16, o2, o4, v2, if_neg v3, and_self]
        refine ⟨⟨z2, s2, z3, s3, z4, s4, by simp only [e_work_ok, if_pos hx, w2, if_pos f16, ero, er, if_neg hbd.is, and_self]⟩, Or.inl ⟨nI kd - nI 10, mrow (mrow (mrow (mrow (mrow M 1 q1) 33 wk1) 34 K1) 35 F1) 36 S1, ?_, ?_, ?_, ?_, np, nr, nt, nf, ?_⟩⟩
        · simp only [e_work, if_pos hx, w2, if_pos f16, er, if_neg hbd.is, v1]
        · simp only [KO_work, mrow_hit, mrow_miss, ne_eq, Nat.reduceEqDiff, not_false_eq_true, reduceCtorEq, kbo]
        · simp only [K_work, mrow_hit, mrow_miss, ne_eq, Nat.reduceEqDiff, not_false_eq_true, reduceCtorEq, kb]
        · simp only [K_work, mrow_hit, mrow_miss, ne_eq, Nat.reduceEqDiff, not_false_eq_true, reduceCtorEq, kb]
          rw [pk_un (by decide)]; exact m0
        · refine h.put (N := _) (fun c hc => ?_) (fun j hj => ?_) ?_ ?_ ?_ ?_ ?_ ?_
          · simp only [K_work]
            rw [mrow_miss _ _ (tw_ne hc rfl), mrow_miss _ _ (tw_ne hc rfl), mrow_miss _ _ (tw_ne hc rfl), mrow_miss _ _ (tw_ne hc rfl), mrow_miss _ _ (tw_ne hc rfl), mrow_miss _ _ (tw_ne hc rfl), mrow_miss _ _ (tw_ne hc rfl), mrow_miss _ _ (tw_ne hc rfl), mrow_miss _ _ (tw_ne hc rfl), mrow_miss _ _ (tw_ne hc rfl), mrow_miss _ _ (tw_ne hc rfl), mrow_miss _ _ (tw_ne hc rfl), mrow_miss _ _ (tw_ne hc rfl), mrow_miss _ _ (tw_ne hc rfl)]
          all_goals simp only [K_work, mrow_hit, mrow_miss, ne_eq, Nat.reduceEqDiff, not_false_eq_true, reduceCtorEq, kb]
          · rw [pk_un (t54_ne hj rfl)]; exact f20 j hj
          · exact hD
          · rw [pk_un (by decide), m35]; rw [w3] at hH; exact hH
          · rw [pk_un (by decide), m51]; exact hI
          · rw [pk_un (by decide), m2, v4]; exact ⟨0, by omega, rfl, rfl, f4⟩
          · refine ⟨?_, ?_, ?_, b4, b5⟩
            · rw [pk_us]; exact v5
            · rw [pk_un (by decide), m45]; exact b2
            · rw [pk_un (by decide), m36]; exact b3
          · exact hBK
  · have kb : k_work (M.1 54) (M.1 55) (M.1 56) (M.1 60) (M.1 61) (M.1 65) (M.1 66) (M.1 67) (M.1 68) (M.1 69) (M.1 70) (M.1 71) (M.1 72) (M.1 73) x1 = (nI 0, upd (upd (M.1 54) 0 (nI 0)) 0 (nI 1), upd (M.1 55) 1 (M.1 55 1 + nI 1), M.1 67, M.1 68, M.1 69, M.1 70, M.1 71, M.1 72, M.1 73) ∧ k_work_ok (M.1 54) (M.1 55) (M.1 56) (M.1 60) (M.1 61) (M.1 65) (M.1 66) (M.1 67) (M.1 68) (M.1 69) (M.1 70) (M.1 71) (M.1 72) (M.1 73) x1 := by
      by_cases g1 : x1 < 0
      · simp only [k_work, k_work_ok, if_pos g1, and_self]
      · by_cases g2 : M.1 54 2 < x1
        · simp only [k_work, k_work_ok, if_neg g1, if_pos g2, and_self]
        · by_cases g3 : nI 150 < x1
          · simp only [k_work, k_work_ok, if_neg g1, if_neg g2, if_pos g3, and_self]
          · exact (tx_no (f3.trans f2.symm) hx g1 g2 g3).elim
    refine ⟨⟨z2, s2, z3, s3, z4, s4, by simp only [e_work_ok, if_neg hx]⟩, ?_⟩
    refine Ag.bad1 h (by decide) _ (by simp only [e_work, if_neg hx]) ?_ ?_ ?_ ?_ ?_
    · simp only [KO_work, mrow_hit, mrow_miss, ne_eq, Nat.reduceEqDiff, not_false_eq_true, reduceCtorEq, kb.2]
    · simp only [K_work, mrow_hit, mrow_miss, ne_eq, Nat.reduceEqDiff, not_false_eq_true, reduceCtorEq, kb.1]
    · simp only [K_work, mrow_hit, mrow_miss, ne_eq, Nat.reduceEqDiff, not_false_eq_true, reduceCtorEq, kb.1]
    · simp only [K_work, mrow_hit, mrow_miss, ne_eq, Nat.reduceEqDiff, not_false_eq_true, reduceCtorEq]
    · intro c hc
      by_cases g1 : c = 73
      · subst g1
        simp only [K_work, mrow_hit, mrow_miss, ne_eq, Nat.reduceEqDiff, not_false_eq_true, reduceCtorEq, kb.1]
      · by_cases g2 : c = 71
        · subst g2
          simp only [K_work, mrow_hit, mrow_miss, ne_eq, Nat.reduceEqDiff, not_false_eq_true, reduceCtorEq, kb.1]
        · by_cases g3 : c = 70
          · subst g3
            simp only [K_work, mrow_hit, mrow_miss, ne_eq, Nat.reduceEqDiff, not_false_eq_true, reduceCtorEq, kb.1]
          · by_cases g4 : c = 69
            · subst g4
              simp only [K_work, mrow_hit, mrow_miss, ne_eq, Nat.reduceEqDiff, not_false_eq_true, reduceCtorEq, kb.1]
            · simp only [K_work]
              rw [mrow_miss _ _ g1, mrow_miss _ _ (scr_ne hc rfl), mrow_miss _ _ g2, mrow_miss _ _ g3, mrow_miss _ _ g4, mrow_miss _ _ (scr_ne hc rfl), mrow_miss _ _ (scr_ne hc rfl), mrow_miss _ _ (scr_ne hc rfl), mrow_miss _ _ (scr_ne hc rfl), mrow_miss _ _ (scr_ne hc rfl)]
