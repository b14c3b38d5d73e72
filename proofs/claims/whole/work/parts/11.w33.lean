set_option maxHeartbeats 4000000 in
set_option maxRecDepth 3000 in
theorem c_e_span_0 (z : Zp) (d : Nat) (M : Mem) (x1 : Int32) (x2 : Int32) (x3 : Int32) (x4 : Int32) (x5 : Int32) (x6 : Int32) (nr : Nat) (hnr : nr ≤ 12) (hr : M.1 3 1 = nI nr) (nt : Nat) (hnt : nt ≤ 10) (ht : M.1 3 2 = nI nt) (nf : Nat) (hnf : nf ≤ 6) (hf : M.1 3 3 = nI nf) (hk : e_span_ok M nr nt nf x1 x2 x3 x4 x5 x6) : GM z mX11_span (d + 7) [.ref 0, .int x1, .int x2, .int x3, .int x4, .int x5, .int x6] M (fun rs => rs = e_span M nr nt nf x1 x2 x3 x4 x5 x6) := by
  simp only [e_span_ok] at hk
  refine GM.of oX11_span.1 (Nat.le_of_ble_eq_true rfl) ?_
  show G z mX11_span (d + 7) 0 0 0 [some (.ref 0), some (.int x1), some (.int x2), some (.int x3), some (.int x4), some (.int x5), some (.int x6), none, none, none, none] [] M _
  obtain ⟨Q, hQ⟩ : ∃ Q : Rs → Prop, Q = (fun rs => rs = e_span M nr nt nf x1 x2 x3 x4 x5 x6) := ⟨_, rfl⟩
  rw [← hQ]
  refine G.sl [(.aload_n 0, 1, 0, 0, 0, 0), (.iload_n 2, 1, 2, 0, 0, 0), (.iconst 1, 1, 0, 0, 0, nI 1), (.bipush 20, 2, 0, 0, 0, nI 20)] [] (pc2 := 5) (ls2 := [some (.ref 0), some (.int x1), some (.int x2), some (.int x3), some (.int x4), some (.int x5), some (.int x6), none, none, none, none]) (st2 := [.int (nI 20), .int (nI 1), .int x2, .ref 0]) (M2 := M) (Ps := []) (by decide +kernel) rfl rfl trivial ?_
  by_cases c1 : ¬ x2 < (nI 1) ∧ x2 ≤ (nI 20)
  · skip
    rw [if_pos c1] at hk
    have t2 : GM z mX11_needWithin (d + 6) [.ref 0, .int x2, .int (nI 1), .int (nI 20)] M (fun rs => rs = .inl (none, M)) := e_needWithin_g z d _ x2 (nI 1) (nI 20) c1
    refine G.callV (as := [.int x2, .int (nI 1), .int (nI 20)]) (rest := []) (a := 0) oX11_needWithin lk_EvenFinders_182 (by decide +kernel) rfl rfl ⟨rfl, rfl⟩ (Nat.le_of_ble_eq_true rfl) rfl ⟨Nat.le_of_ble_eq_true rfl, Nat.le_of_ble_eq_true rfl⟩ t2 (fun v9 N9 h3 => ?_) (fun E9 N9 h3 => by cases h3)
    cases h3
    show G z mX11_span (d + 7) 1 6 8 [some (.ref 0), some (.int x1), some (.int x2), some (.int x3), some (.int x4), some (.int x5), some (.int x6), none, none, none, none] [] M Q
    refine G.sl [(.aload_n 0, 1, 0, 0, 0, 0), (.iload_n 3, 1, 3, 0, 0, 0), (.iconst 0, 1, 0, 0, 0, nI 0), (.bipush 16, 2, 0, 0, 0, nI 16)] [] (pc2 := 13) (ls2 := [some (.ref 0), some (.int x1), some (.int x2), some (.int x3), some (.int x4), some (.int x5), some (.int x6), none, none, none, none]) (st2 := [.int (nI 16), .int (nI 0), .int x3, .ref 0]) (M2 := M) (Ps := []) (by decide +kernel) rfl rfl trivial ?_
    by_cases c4 : ¬ x3 < (nI 0) ∧ x3 ≤ (nI 16)
    · skip
      rw [if_pos c4] at hk
      have t5 : GM z mX11_needWithin (d + 6) [.ref 0, .int x3, .int (nI 0), .int (nI 16)] M (fun rs => rs = .inl (none, M)) := e_needWithin_g z d _ x3 (nI 0) (nI 16) c4
      refine G.callV (as := [.int x3, .int (nI 0), .int (nI 16)]) (rest := []) (a := 0) oX11_needWithin lk_EvenFinders_182 (by decide +kernel) rfl rfl ⟨rfl, rfl⟩ (Nat.le_of_ble_eq_true rfl) rfl ⟨Nat.le_of_ble_eq_true rfl, Nat.le_of_ble_eq_true rfl⟩ t5 (fun v9 N9 h6 => ?_) (fun E9 N9 h6 => by cases h6)
      cases h6
      show G z mX11_span (d + 7) 2 12 16 [some (.ref 0), some (.int x1), some (.int x2), some (.int x3), some (.int x4), some (.int x5), some (.int x6), none, none, none, none] [] M Q
      refine G.sl [(.aload_n 0, 1, 0, 0, 0, 0), (.iload 4, 2, 4, 0, 0, 0), (.iconst 1, 1, 0, 0, 0, nI 1), (.bipush 96, 2, 0, 0, 0, nI 96)] [] (pc2 := 22) (ls2 := [some (.ref 0), some (.int x1), some (.int x2), some (.int x3), some (.int x4), some (.int x5), some (.int x6), none, none, none, none]) (st2 := [.int (nI 96), .int (nI 1), .int x4, .ref 0]) (M2 := M) (Ps := []) (by decide +kernel) rfl rfl trivial ?_
      by_cases c7 : ¬ x4 < (nI 1) ∧ x4 ≤ (nI 96)
      · skip
        rw [if_pos c7] at hk
        have t8 : GM z mX11_needWithin (d + 6) [.ref 0, .int x4, .int (nI 1), .int (nI 96)] M (fun rs => rs = .inl (none, M)) := e_needWithin_g z d _ x4 (nI 1) (nI 96) c7
        refine G.callV (as := [.int x4, .int (nI 1), .int (nI 96)]) (rest := []) (a := 0) oX11_needWithin lk_EvenFinders_182 (by decide +kernel) rfl rfl ⟨rfl, rfl⟩ (Nat.le_of_ble_eq_true rfl) rfl ⟨Nat.le_of_ble_eq_true rfl, Nat.le_of_ble_eq_true rfl⟩ t8 (fun v9 N9 h9 => ?_) (fun E9 N9 h9 => by cases h9)
        cases h9
        show G z mX11_span (d + 7) 3 18 25 [some (.ref 0), some (.int x1), some (.int x2), some (.int x3), some (.int x4), some (.int x5), some (.int x6), none, none, none, none] [] M Q
        refine G.sl [(.aload_n 0, 1, 0, 0, 0, 0), (.iload 5, 2, 5, 0, 0, 0), (.iconst 0, 1, 0, 0, 0, nI 0), (.iconst 2, 1, 0, 0, 0, nI 2)] [] (pc2 := 30) (ls2 := [some (.ref 0), some (.int x1), some (.int x2), some (.int x3), some (.int x4), some (.int x5), some (.int x6), none, none, none, none]) (st2 := [.int (nI 2), .int (nI 0), .int x5, .ref 0]) (M2 := M) (Ps := []) (by decide +kernel) rfl rfl trivial ?_
        by_cases c10 : ¬ x5 < (nI 0) ∧ x5 ≤ (nI 2)
        · skip
          rw [if_pos c10] at hk
          have t11 : GM z mX11_needWithin (d + 6) [.ref 0, .int x5, .int (nI 0), .int (nI 2)] M (fun rs => rs = .inl (none, M)) := e_needWithin_g z d _ x5 (nI 0) (nI 2) c10
          refine G.callV (as := [.int x5, .int (nI 0), .int (nI 2)]) (rest := []) (a := 0) oX11_needWithin lk_EvenFinders_182 (by decide +kernel) rfl rfl ⟨rfl, rfl⟩ (Nat.le_of_ble_eq_true rfl) rfl ⟨Nat.le_of_ble_eq_true rfl, Nat.le_of_ble_eq_true rfl⟩ t11 (fun v9 N9 h12 => ?_) (fun E9 N9 h12 => by cases h12)
          cases h12
          show G z mX11_span (d + 7) 4 24 33 [some (.ref 0), some (.int x1), some (.int x2), some (.int x3), some (.int x4), some (.int x5), some (.int x6), none, none, none, none] [] M Q
          refine G.sl [(.aload_n 0, 1, 0, 0, 0, 0), (.iload 6, 2, 6, 0, 0, 0), (.iconst 0, 1, 0, 0, 0, nI 0), (.aload_n 0, 1, 0, 0, 0, 0), (.getfield 19, 3, 10, 1, 107, 0), (.getfield 189, 3, 6, 3, 33, 0), (.iconst 1, 1, 0, 0, 0, nI 1), (.isub, 1, 0, 0, 0, 0)] [] (pc2 := 46) (ls2 := [some (.ref 0), some (.int x1), some (.int x2), some (.int x3), some (.int x4), some (.int x5), some (.int x6), none, none, none, none]) (st2 := [.int ((M.1 3 3) - (nI 1)), .int (nI 0), .int x6, .ref 0]) (M2 := M) (Ps := []) (by decide +kernel) rfl rfl trivial ?_
          rw [hf]
          by_cases c13 : ¬ x6 < (nI 0) ∧ x6 ≤ ((nI nf) - (nI 1))
          · skip
            rw [if_pos c13] at hk
            have t14 : GM z mX11_needWithin (d + 6) [.ref 0, .int x6, .int (nI 0), .int ((nI nf) - (nI 1))] M (fun rs => rs = .inl (none, M)) := e_needWithin_g z d _ x6 (nI 0) ((nI nf) - (nI 1)) c13
            refine G.callV (as := [.int x6, .int (nI 0), .int ((nI nf) - (nI 1))]) (rest := []) (a := 0) oX11_needWithin lk_EvenFinders_182 (by decide +kernel) rfl rfl ⟨rfl, rfl⟩ (Nat.le_of_ble_eq_true rfl) rfl ⟨Nat.le_of_ble_eq_true rfl, Nat.le_of_ble_eq_true rfl⟩ t14 (fun v9 N9 h15 => ?_) (fun E9 N9 h15 => by cases h15)
            cases h15
            show G z mX11_span (d + 7) 5 30 49 [some (.ref 0), some (.int x1), some (.int x2), some (.int x3), some (.int x4), some (.int x5), some (.int x6), none, none, none, none] [] M Q
            refine G.sl [(.ldc_w 355, 3, 0, 0, 7, nI 1000000), (.istore 7, 2, 7, 0, 0, 0), (.iconst 0, 1, 0, 0, 0, nI 0), (.istore 8, 2, 8, 0, 0, 0), (.iconst 0, 1, 0, 0, 0, nI 0), (.istore 9, 2, 9, 0, 0, 0), (.iconst 0, 1, 0, 0, 0, nI 0), (.istore 10, 2, 10, 0, 0, 0)] [] (pc2 := 63) (ls2 := [some (.ref 0), some (.int x1), some (.int x2), some (.int x3), some (.int x4), some (.int x5), some (.int x6), some (.int (nI 1000000)), some (.int (nI 0)), some (.int (nI 0)), some (.int (nI 0))]) (st2 := []) (M2 := M) (Ps := []) (by decide +kernel) rfl rfl trivial ?_
            obtain ⟨k29, hk⟩ := hk
            refine G.mem (M' := mrow (mrow (mrow (mrow M 22 (M.1 22)) 24 (M.1 24)) 41 (M.1 41)) 53 (M.1 53)) (by simp only [mrow_self]) ?_
            refine lp_e_span_0_63 z d M Q x1 x2 x3 x4 x5 x6 nr hnr hr nt hnt ht nf hnf hf FU (nI 1000000) (nI 0) (nI 0) (nI 0) (M.1 22) (M.1 24) (M.1 41) (M.1 53) (by first | (simp only [mput, mrow_same, mrow_hit, mrow_miss, mrow_sw, idr_eq, ne_eq, Nat.reduceEqDiff, not_false_eq_true, Nat.reduceLT, reduceCtorEq]; exact k29) | exact k29) ?_
            try simp only [mput, mrow_same, mrow_hit, mrow_miss, mrow_sw, idr_eq, ne_eq, Nat.reduceEqDiff, not_false_eq_true, Nat.reduceLT, reduceCtorEq]
            rcases g30 : e_span_63 (M.1 4) (M.1 5) (M.1 6) (M.1 7) (M.1 21) (M.1 23) (M.1 38) nr nt nf x1 x2 x3 x4 x5 x6 FU (nI 1000000) (nI 0) (nI 0) (nI 0) (M.1 22) (M.1 24) (M.1 41) (M.1 53) with ⟨v31, v32, v33, v34, r35, r36, r37, r38⟩
            show G z mX11_span (d + 7) 5 30 136 [none, none, none, none, none, some (.int x5), none, some (.int v31), some (.int v32), some (.int v33), none] [] (mrow (mrow (mrow (mrow M 22 r35) 24 r36) 41 r37) 53 r38) Q
            refine G.sl [(.iload 5, 2, 5, 0, 0, 0)] [] (pc2 := 138) (ls2 := [none, none, none, none, none, some (.int x5), none, some (.int v31), some (.int v32), some (.int v33), none]) (st2 := [.int x5]) (M2 := mrow (mrow (mrow (mrow M 22 r35) 24 r36) 41 r37) 53 r38) (Ps := []) (by decide +kernel) rfl rfl trivial ?_
            refine G.if_ne (off := (6)) (tgt := 144) (by decide +kernel) rfl (fun c39 => ?_) (fun c39 => ?_)
            · skip
              refine G.sl [(.iload 5, 2, 5, 0, 0, 0), (.iconst 1, 1, 0, 0, 0, nI 1)] [] (pc2 := 147) (ls2 := [none, none, none, none, none, some (.int x5), none, some (.int v31), some (.int v32), some (.int v33), none]) (st2 := [.int (nI 1), .int x5]) (M2 := mrow (mrow (mrow (mrow M 22 r35) 24 r36) 41 r37) 53 r38) (Ps := []) (by decide +kernel) rfl rfl trivial ?_
              refine G.ic_ne (off := (8)) (tgt := 155) (by decide +kernel) rfl (fun c40 => ?_) (fun c40 => ?_)
              · skip
                refine G.sl [(.iload 9, 2, 9, 0, 0, 0)] [] (pc2 := 157) (ls2 := [none, none, none, none, none, some (.int x5), none, some (.int v31), some (.int v32), some (.int v33), none]) (st2 := [.int v33]) (M2 := mrow (mrow (mrow (mrow M 22 r35) 24 r36) 41 r37) 53 r38) (Ps := []) (by decide +kernel) rfl rfl trivial ?_
                exact G.reti (by decide +kernel) rfl rfl (Nat.le_of_ble_eq_true rfl) (Nat.le_of_ble_eq_true rfl) ((by rw [hQ]; simp only [e_span, if_pos c1, if_pos c4, if_pos c7, if_pos c10, if_pos c13, g30, if_neg c39, if_neg c40, mrow_self]))
              · skip
                refine G.sl [(.iload 8, 2, 8, 0, 0, 0), (.goto 5, 3, 157, 0, 0, 0)] [] (pc2 := 157) (ls2 := [none, none, none, none, none, some (.int x5), none, some (.int v31), some (.int v32), some (.int v33), none]) (st2 := [.int v32]) (M2 := mrow (mrow (mrow (mrow M 22 r35) 24 r36) 41 r37) 53 r38) (Ps := []) (by decide +kernel) rfl rfl trivial ?_
                exact G.reti (by decide +kernel) rfl rfl (Nat.le_of_ble_eq_true rfl) (Nat.le_of_ble_eq_true rfl) ((by rw [hQ]; simp only [e_span, if_pos c1, if_pos c4, if_pos c7, if_pos c10, if_pos c13, g30, if_neg c39, if_pos c40, mrow_self]))
            · skip
              refine G.sl [(.iload 7, 2, 7, 0, 0, 0)] [] (pc2 := 143) (ls2 := [none, none, none, none, none, some (.int x5), none, some (.int v31), some (.int v32), some (.int v33), none]) (st2 := [.int v31]) (M2 := mrow (mrow (mrow (mrow M 22 r35) 24 r36) 41 r37) 53 r38) (Ps := []) (by decide +kernel) rfl rfl trivial ?_
              exact G.reti (by decide +kernel) rfl rfl (Nat.le_of_ble_eq_true rfl) (Nat.le_of_ble_eq_true rfl) ((by rw [hQ]; simp only [e_span, if_pos c1, if_pos c4, if_pos c7, if_pos c10, if_pos c13, g30, if_pos c39, mrow_self]))
          · skip
            rw [if_neg c13] at hk
            have t41 : GM z mX11_needWithin (d + 6) [.ref 0, .int x6, .int (nI 0), .int ((nI nf) - (nI 1))] M (fun rs => rs = .inr ("java/lang/IllegalArgumentException", mrow M 0 (upd (M.1 0) 16 ((M.1 0 16) + nI 1)))) := e_needWithin_b z d _ x6 (nI 0) ((nI nf) - (nI 1)) c13
            refine G.callV (as := [.int x6, .int (nI 0), .int ((nI nf) - (nI 1))]) (rest := []) (a := 0) oX11_needWithin lk_EvenFinders_182 (by decide +kernel) rfl rfl ⟨rfl, rfl⟩ (Nat.le_of_ble_eq_true rfl) rfl ⟨Nat.le_of_ble_eq_true rfl, Nat.le_of_ble_eq_true rfl⟩ t41 (fun v9 N9 h9 => by cases h9) (fun E9 N9 h9 => ?_)
            cases h9
            rw [hQ]
            simp only [e_span, if_pos c1, if_pos c4, if_pos c7, if_pos c10, if_neg c13]
        · skip
          rw [if_neg c10] at hk
          have t42 : GM z mX11_needWithin (d + 6) [.ref 0, .int x5, .int (nI 0), .int (nI 2)] M (fun rs => rs = .inr ("java/lang/IllegalArgumentException", mrow M 0 (upd (M.1 0) 16 ((M.1 0 16) + nI 1)))) := e_needWithin_b z d _ x5 (nI 0) (nI 2) c10
          refine G.callV (as := [.int x5, .int (nI 0), .int (nI 2)]) (rest := []) (a := 0) oX11_needWithin lk_EvenFinders_182 (by decide +kernel) rfl rfl ⟨rfl, rfl⟩ (Nat.le_of_ble_eq_true rfl) rfl ⟨Nat.le_of_ble_eq_true rfl, Nat.le_of_ble_eq_true rfl⟩ t42 (fun v9 N9 h9 => by cases h9) (fun E9 N9 h9 => ?_)
          cases h9
          rw [hQ]
          simp only [e_span, if_pos c1, if_pos c4, if_pos c7, if_neg c10]
      · skip
        rw [if_neg c7] at hk
        have t43 : GM z mX11_needWithin (d + 6) [.ref 0, .int x4, .int (nI 1), .int (nI 96)] M (fun rs => rs = .inr ("java/lang/IllegalArgumentException", mrow M 0 (upd (M.1 0) 16 ((M.1 0 16) + nI 1)))) := e_needWithin_b z d _ x4 (nI 1) (nI 96) c7
        refine G.callV (as := [.int x4, .int (nI 1), .int (nI 96)]) (rest := []) (a := 0) oX11_needWithin lk_EvenFinders_182 (by decide +kernel) rfl rfl ⟨rfl, rfl⟩ (Nat.le_of_ble_eq_true rfl) rfl ⟨Nat.le_of_ble_eq_true rfl, Nat.le_of_ble_eq_true rfl⟩ t43 (fun v9 N9 h9 => by cases h9) (fun E9 N9 h9 => ?_)
        cases h9
        rw [hQ]
        simp only [e_span, if_pos c1, if_pos c4, if_neg c7]
    · skip
      rw [if_neg c4] at hk
      have t44 : GM z mX11_needWithin (d + 6) [.ref 0, .int x3, .int (nI 0), .int (nI 16)] M (fun rs => rs = .inr ("java/lang/IllegalArgumentException", mrow M 0 (upd (M.1 0) 16 ((M.1 0 16) + nI 1)))) := e_needWithin_b z d _ x3 (nI 0) (nI 16) c4
      refine G.callV (as := [.int x3, .int (nI 0), .int (nI 16)]) (rest := []) (a := 0) oX11_needWithin lk_EvenFinders_182 (by decide +kernel) rfl rfl ⟨rfl, rfl⟩ (Nat.le_of_ble_eq_true rfl) rfl ⟨Nat.le_of_ble_eq_true rfl, Nat.le_of_ble_eq_true rfl⟩ t44 (fun v9 N9 h9 => by cases h9) (fun E9 N9 h9 => ?_)
      cases h9
      rw [hQ]
      simp only [e_span, if_pos c1, if_neg c4]
  · skip
    rw [if_neg c1] at hk
    have t45 : GM z mX11_needWithin (d + 6) [.ref 0, .int x2, .int (nI 1), .int (nI 20)] M (fun rs => rs = .inr ("java/lang/IllegalArgumentException", mrow M 0 (upd (M.1 0) 16 ((M.1 0 16) + nI 1)))) := e_needWithin_b z d _ x2 (nI 1) (nI 20) c1
    refine G.callV (as := [.int x2, .int (nI 1), .int (nI 20)]) (rest := []) (a := 0) oX11_needWithin lk_EvenFinders_182 (by decide +kernel) rfl rfl ⟨rfl, rfl⟩ (Nat.le_of_ble_eq_true rfl) rfl ⟨Nat.le_of_ble_eq_true rfl, Nat.le_of_ble_eq_true rfl⟩ t45 (fun v9 N9 h9 => by cases h9) (fun E9 N9 h9 => ?_)
    cases h9
    rw [hQ]
    simp only [e_span, if_neg c1]
