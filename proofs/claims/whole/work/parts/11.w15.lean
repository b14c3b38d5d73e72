set_option maxHeartbeats 4000000 in
set_option maxRecDepth 3000 in
theorem c_k_takes_54 (z : Zp) (d : Nat) (M : Mem) (x1 : Int32) (x2 : Int32) (x3 : Int32) : GM z mX12_takes (d + 1) [.ref 54, .int x1, .int x2, .int x3] M (fun rs => rs = .inl (some (.int ((k_takes (M.1 54) (M.1 55) x1 x2 x3).1)), mrow (mrow M 54 ((k_takes (M.1 54) (M.1 55) x1 x2 x3).2.1)) 55 ((k_takes (M.1 54) (M.1 55) x1 x2 x3).2.2))) := by
  refine GM.of oX12_takes.1 (Nat.le_of_ble_eq_true rfl) ?_
  show G z mX12_takes (d + 1) 0 0 0 [some (.ref 54), some (.int x1), some (.int x2), some (.int x3), none, none, none, none, none] [] M _
  obtain ⟨Q, hQ⟩ : ∃ Q : Rs → Prop, Q = (fun rs => rs = .inl (some (.int ((k_takes (M.1 54) (M.1 55) x1 x2 x3).1)), mrow (mrow M 54 ((k_takes (M.1 54) (M.1 55) x1 x2 x3).2.1)) 55 ((k_takes (M.1 54) (M.1 55) x1 x2 x3).2.2))) := ⟨_, rfl⟩
  rw [← hQ]
  refine G.sl [(.aload_n 0, 1, 0, 0, 0, 0), (.iconst 0, 1, 0, 0, 0, nI 0), (.putfield 3, 3, 11, 0, 123, 0), (.aload_n 0, 1, 0, 0, 0, 0), (.iload_n 1, 1, 1, 0, 0, 0), (.iconst 0, 1, 0, 0, 0, nI 0), (.bipush 99, 2, 0, 0, 0, nI 99)] [] (pc2 := 10) (ls2 := [some (.ref 54), some (.int x1), some (.int x2), some (.int x3), none, none, none, none, none]) (st2 := [.int (nI 99), .int (nI 0), .int x1, .ref 54]) (M2 := mput M 54 0 (nI 0)) (Ps := []) (by decide +kernel) rfl rfl trivial ?_
  refine G.mem (M' := mrow M 54 (upd (M.1 54) 0 (nI 0))) (by first | rfl | (simp only [mput, mrow_same, mrow_hit, mrow_miss, mrow_sw, idr_eq, ne_eq, Nat.reduceEqDiff, not_false_eq_true, Nat.reduceLT, reduceCtorEq]; done)) ?_
  have t2 : GM z mX12_within (d) [.int x1, .int (nI 0), .int (nI 99)] (mrow M 54 (upd (M.1 54) 0 (nI 0))) (fun rs => rs = .inl (some (.int (k_within x1 (nI 0) (nI 99))), mrow M 54 (upd (M.1 54) 0 (nI 0)))) := by
    have q9 := c_k_within z d (mrow M 54 (upd (M.1 54) 0 (nI 0))) x1 (nI 0) (nI 99)
    try simp only [mput, mrow_same, mrow_hit, mrow_miss, mrow_sw, idr_eq, ne_eq, Nat.reduceEqDiff, not_false_eq_true, Nat.reduceLT, reduceCtorEq] at q9
    exact q9
  refine G.callS (as := [.int x1, .int (nI 0), .int (nI 99)]) (rest := [.ref 54]) oX12_within lk_EvenFindersModel_379 (by decide +kernel) rfl (Nat.le_of_ble_eq_true rfl) rfl ⟨Nat.le_of_ble_eq_true rfl, Nat.le_of_ble_eq_true rfl⟩ t2 (fun v9 N9 h3 => ?_) (fun E9 N9 h3 => by cases h3)
  cases h3
  show G z mX12_takes (d + 1) 0 0 13 [some (.ref 54), some (.int x1), some (.int x2), some (.int x3), none, none, none, none, none] [.int (k_within x1 (nI 0) (nI 99)), .ref 54] (mrow M 54 (upd (M.1 54) 0 (nI 0))) Q
  refine G.if_eq (off := (26)) (tgt := 39) (by decide +kernel) rfl (fun c4 => ?_) (fun c4 => ?_)
  · skip
    refine G.sl [(.iconst 0, 1, 0, 0, 0, nI 0), (.iconst 1, 1, 0, 0, 0, nI 1), (.iconst 1, 1, 0, 0, 0, nI 1)] [] (pc2 := 42) (ls2 := [some (.ref 54), some (.int x1), some (.int x2), some (.int x3), none, none, none, none, none]) (st2 := [.int (nI 1), .int (nI 1), .int (nI 0), .ref 54]) (M2 := mrow M 54 (upd (M.1 54) 0 (nI 0))) (Ps := []) (by decide +kernel) rfl rfl trivial ?_
    have t5 : GM z mX12_may (d) [.ref 54, .int (nI 0), .int (nI 1), .int (nI 1)] (mrow M 54 (upd (M.1 54) 0 (nI 0))) (fun rs => rs = .inl (some (.int (nI 0)), mrow (mrow M 54 (upd (upd (M.1 54) 0 (nI 0)) 0 (nI 1))) 55 (upd (M.1 55) 1 ((M.1 55 1) + nI 1)))) := by
      have q9 := m_may_1_f z d (mrow M 54 (upd (M.1 54) 0 (nI 0))) (nI 1) (by first | rfl | (simp only [mput, mrow_same, mrow_hit, mrow_miss, mrow_sw, idr_eq, ne_eq, Nat.reduceEqDiff, not_false_eq_true, Nat.reduceLT, reduceCtorEq, pk_us]; done)) (by decide)
      try simp only [mput, mrow_same, mrow_hit, mrow_miss, mrow_sw, idr_eq, ne_eq, Nat.reduceEqDiff, not_false_eq_true, Nat.reduceLT, reduceCtorEq] at q9
      exact q9
    refine G.callV (as := [.int (nI 0), .int (nI 1), .int (nI 1)]) (rest := []) (a := 54) oX12_may lk_EvenFindersModel_213 (by decide +kernel) rfl rfl ⟨rfl, rfl⟩ (Nat.le_of_ble_eq_true rfl) rfl ⟨Nat.le_of_ble_eq_true rfl, Nat.le_of_ble_eq_true rfl⟩ t5 (fun v9 N9 h6 => ?_) (fun E9 N9 h6 => by cases h6)
    cases h6
    show G z mX12_takes (d + 1) 0 0 45 [some (.ref 54), some (.int x1), some (.int x2), some (.int x3), none, none, none, none, none] [.int (nI 0)] (mrow (mrow M 54 (upd (upd (M.1 54) 0 (nI 0)) 0 (nI 1))) 55 (upd (M.1 55) 1 ((M.1 55 1) + nI 1))) Q
    refine G.if_ne (off := (5)) (tgt := 50) (by decide +kernel) rfl (fun h9 => absurd (by decide) h9) (fun _ => ?_)
    refine G.sl [(.iconst 0, 1, 0, 0, 0, nI 0)] [] (pc2 := 49) (ls2 := [some (.ref 54), some (.int x1), some (.int x2), some (.int x3), none, none, none, none, none]) (st2 := [.int (nI 0)]) (M2 := mrow (mrow M 54 (upd (upd (M.1 54) 0 (nI 0)) 0 (nI 1))) 55 (upd (M.1 55) 1 ((M.1 55 1) + nI 1))) (Ps := []) (by decide +kernel) rfl rfl trivial ?_
    exact G.reti (by decide +kernel) rfl rfl (Nat.le_of_ble_eq_true rfl) (Nat.le_of_ble_eq_true rfl) ((by rw [hQ]; simp only [k_takes, if_pos c4, mrow_self]))
  · skip
    refine G.sl [(.iload_n 2, 1, 2, 0, 0, 0), (.iconst 0, 1, 0, 0, 0, nI 0), (.bipush 99, 2, 0, 0, 0, nI 99)] [] (pc2 := 20) (ls2 := [some (.ref 54), some (.int x1), some (.int x2), some (.int x3), none, none, none, none, none]) (st2 := [.int (nI 99), .int (nI 0), .int x2, .ref 54]) (M2 := mrow M 54 (upd (M.1 54) 0 (nI 0))) (Ps := []) (by decide +kernel) rfl rfl trivial ?_
    have t8 : GM z mX12_within (d) [.int x2, .int (nI 0), .int (nI 99)] (mrow M 54 (upd (M.1 54) 0 (nI 0))) (fun rs => rs = .inl (some (.int (k_within x2 (nI 0) (nI 99))), mrow M 54 (upd (M.1 54) 0 (nI 0)))) := by
      have q9 := c_k_within z d (mrow M 54 (upd (M.1 54) 0 (nI 0))) x2 (nI 0) (nI 99)
      try simp only [mput, mrow_same, mrow_hit, mrow_miss, mrow_sw, idr_eq, ne_eq, Nat.reduceEqDiff, not_false_eq_true, Nat.reduceLT, reduceCtorEq] at q9
      exact q9
    refine G.callS (as := [.int x2, .int (nI 0), .int (nI 99)]) (rest := [.ref 54]) oX12_within lk_EvenFindersModel_379 (by decide +kernel) rfl (Nat.le_of_ble_eq_true rfl) rfl ⟨Nat.le_of_ble_eq_true rfl, Nat.le_of_ble_eq_true rfl⟩ t8 (fun v9 N9 h9 => ?_) (fun E9 N9 h9 => by cases h9)
    cases h9
    show G z mX12_takes (d + 1) 0 0 23 [some (.ref 54), some (.int x1), some (.int x2), some (.int x3), none, none, none, none, none] [.int (k_within x2 (nI 0) (nI 99)), .ref 54] (mrow M 54 (upd (M.1 54) 0 (nI 0))) Q
    refine G.if_eq (off := (16)) (tgt := 39) (by decide +kernel) rfl (fun c10 => ?_) (fun c10 => ?_)
    · skip
      refine G.sl [(.iconst 0, 1, 0, 0, 0, nI 0), (.iconst 1, 1, 0, 0, 0, nI 1), (.iconst 1, 1, 0, 0, 0, nI 1)] [] (pc2 := 42) (ls2 := [some (.ref 54), some (.int x1), some (.int x2), some (.int x3), none, none, none, none, none]) (st2 := [.int (nI 1), .int (nI 1), .int (nI 0), .ref 54]) (M2 := mrow M 54 (upd (M.1 54) 0 (nI 0))) (Ps := []) (by decide +kernel) rfl rfl trivial ?_
      have t11 : GM z mX12_may (d) [.ref 54, .int (nI 0), .int (nI 1), .int (nI 1)] (mrow M 54 (upd (M.1 54) 0 (nI 0))) (fun rs => rs = .inl (some (.int (nI 0)), mrow (mrow M 54 (upd (upd (M.1 54) 0 (nI 0)) 0 (nI 1))) 55 (upd (M.1 55) 1 ((M.1 55 1) + nI 1)))) := by
        have q9 := m_may_1_f z d (mrow M 54 (upd (M.1 54) 0 (nI 0))) (nI 1) (by first | rfl | (simp only [mput, mrow_same, mrow_hit, mrow_miss, mrow_sw, idr_eq, ne_eq, Nat.reduceEqDiff, not_false_eq_true, Nat.reduceLT, reduceCtorEq, pk_us]; done)) (by decide)
        try simp only [mput, mrow_same, mrow_hit, mrow_miss, mrow_sw, idr_eq, ne_eq, Nat.reduceEqDiff, not_false_eq_true, Nat.reduceLT, reduceCtorEq] at q9
        exact q9
      refine G.callV (as := [.int (nI 0), .int (nI 1), .int (nI 1)]) (rest := []) (a := 54) oX12_may lk_EvenFindersModel_213 (by decide +kernel) rfl rfl ⟨rfl, rfl⟩ (Nat.le_of_ble_eq_true rfl) rfl ⟨Nat.le_of_ble_eq_true rfl, Nat.le_of_ble_eq_true rfl⟩ t11 (fun v9 N9 h12 => ?_) (fun E9 N9 h12 => by cases h12)
      cases h12
      show G z mX12_takes (d + 1) 0 0 45 [some (.ref 54), some (.int x1), some (.int x2), some (.int x3), none, none, none, none, none] [.int (nI 0)] (mrow (mrow M 54 (upd (upd (M.1 54) 0 (nI 0)) 0 (nI 1))) 55 (upd (M.1 55) 1 ((M.1 55 1) + nI 1))) Q
      refine G.if_ne (off := (5)) (tgt := 50) (by decide +kernel) rfl (fun h9 => absurd (by decide) h9) (fun _ => ?_)
      refine G.sl [(.iconst 0, 1, 0, 0, 0, nI 0)] [] (pc2 := 49) (ls2 := [some (.ref 54), some (.int x1), some (.int x2), some (.int x3), none, none, none, none, none]) (st2 := [.int (nI 0)]) (M2 := mrow (mrow M 54 (upd (upd (M.1 54) 0 (nI 0)) 0 (nI 1))) 55 (upd (M.1 55) 1 ((M.1 55 1) + nI 1))) (Ps := []) (by decide +kernel) rfl rfl trivial ?_
      exact G.reti (by decide +kernel) rfl rfl (Nat.le_of_ble_eq_true rfl) (Nat.le_of_ble_eq_true rfl) ((by rw [hQ]; simp only [k_takes, if_neg c4, if_pos c10, mrow_self]))
    · skip
      refine G.sl [(.iload_n 3, 1, 3, 0, 0, 0), (.iconst 0, 1, 0, 0, 0, nI 0), (.iconst 2, 1, 0, 0, 0, nI 2)] [] (pc2 := 29) (ls2 := [some (.ref 54), some (.int x1), some (.int x2), some (.int x3), none, none, none, none, none]) (st2 := [.int (nI 2), .int (nI 0), .int x3, .ref 54]) (M2 := mrow M 54 (upd (M.1 54) 0 (nI 0))) (Ps := []) (by decide +kernel) rfl rfl trivial ?_
      have t14 : GM z mX12_within (d) [.int x3, .int (nI 0), .int (nI 2)] (mrow M 54 (upd (M.1 54) 0 (nI 0))) (fun rs => rs = .inl (some (.int (k_within x3 (nI 0) (nI 2))), mrow M 54 (upd (M.1 54) 0 (nI 0)))) := by
        have q9 := c_k_within z d (mrow M 54 (upd (M.1 54) 0 (nI 0))) x3 (nI 0) (nI 2)
        try simp only [mput, mrow_same, mrow_hit, mrow_miss, mrow_sw, idr_eq, ne_eq, Nat.reduceEqDiff, not_false_eq_true, Nat.reduceLT, reduceCtorEq] at q9
        exact q9
      refine G.callS (as := [.int x3, .int (nI 0), .int (nI 2)]) (rest := [.ref 54]) oX12_within lk_EvenFindersModel_379 (by decide +kernel) rfl (Nat.le_of_ble_eq_true rfl) rfl ⟨Nat.le_of_ble_eq_true rfl, Nat.le_of_ble_eq_true rfl⟩ t14 (fun v9 N9 h15 => ?_) (fun E9 N9 h15 => by cases h15)
      cases h15
      show G z mX12_takes (d + 1) 0 0 32 [some (.ref 54), some (.int x1), some (.int x2), some (.int x3), none, none, none, none, none] [.int (k_within x3 (nI 0) (nI 2)), .ref 54] (mrow M 54 (upd (M.1 54) 0 (nI 0))) Q
      refine G.if_eq (off := (7)) (tgt := 39) (by decide +kernel) rfl (fun c16 => ?_) (fun c16 => ?_)
      · skip
        refine G.sl [(.iconst 0, 1, 0, 0, 0, nI 0), (.iconst 1, 1, 0, 0, 0, nI 1), (.iconst 1, 1, 0, 0, 0, nI 1)] [] (pc2 := 42) (ls2 := [some (.ref 54), some (.int x1), some (.int x2), some (.int x3), none, none, none, none, none]) (st2 := [.int (nI 1), .int (nI 1), .int (nI 0), .ref 54]) (M2 := mrow M 54 (upd (M.1 54) 0 (nI 0))) (Ps := []) (by decide +kernel) rfl rfl trivial ?_
        have t17 : GM z mX12_may (d) [.ref 54, .int (nI 0), .int (nI 1), .int (nI 1)] (mrow M 54 (upd (M.1 54) 0 (nI 0))) (fun rs => rs = .inl (some (.int (nI 0)), mrow (mrow M 54 (upd (upd (M.1 54) 0 (nI 0)) 0 (nI 1))) 55 (upd (M.1 55) 1 ((M.1 55 1) + nI 1)))) := by
          have q9 := m_may_1_f z d (mrow M 54 (upd (M.1 54) 0 (nI 0))) (nI 1) (by first | rfl | (simp only [mput, mrow_same, mrow_hit, mrow_miss, mrow_sw, idr_eq, ne_eq, Nat.reduceEqDiff, not_false_eq_true, Nat.reduceLT, reduceCtorEq, pk_us]; done)) (by decide)
          try simp only [mput, mrow_same, mrow_hit, mrow_miss, mrow_sw, idr_eq, ne_eq, Nat.reduceEqDiff, not_false_eq_true, Nat.reduceLT, reduceCtorEq] at q9
          exact q9
        refine G.callV (as := [.int (nI 0), .int (nI 1), .int (nI 1)]) (rest := []) (a := 54) oX12_may lk_EvenFindersModel_213 (by decide +kernel) rfl rfl ⟨rfl, rfl⟩ (Nat.le_of_ble_eq_true rfl) rfl ⟨Nat.le_of_ble_eq_true rfl, Nat.le_of_ble_eq_true rfl⟩ t17 (fun v9 N9 h18 => ?_) (fun E9 N9 h18 => by cases h18)
        cases h18
        show G z mX12_takes (d + 1) 0 0 45 [some (.ref 54), some (.int x1), some (.int x2), some (.int x3), none, none, none, none, none] [.int (nI 0)] (mrow (mrow M 54 (upd (upd (M.1 54) 0 (nI 0)) 0 (nI 1))) 55 (upd (M.1 55) 1 ((M.1 55 1) + nI 1))) Q
        refine G.if_ne (off := (5)) (tgt := 50) (by decide +kernel) rfl (fun h9 => absurd (by decide) h9) (fun _ => ?_)
        refine G.sl [(.iconst 0, 1, 0, 0, 0, nI 0)] [] (pc2 := 49) (ls2 := [some (.ref 54), some (.int x1), some (.int x2), some (.int x3), none, none, none, none, none]) (st2 := [.int (nI 0)]) (M2 := mrow (mrow M 54 (upd (upd (M.1 54) 0 (nI 0)) 0 (nI 1))) 55 (upd (M.1 55) 1 ((M.1 55 1) + nI 1))) (Ps := []) (by decide +kernel) rfl rfl trivial ?_
        exact G.reti (by decide +kernel) rfl rfl (Nat.le_of_ble_eq_true rfl) (Nat.le_of_ble_eq_true rfl) ((by rw [hQ]; simp only [k_takes, if_neg c4, if_neg c10, if_pos c16, mrow_self]))
      · skip
        refine G.sl [(.iconst 1, 1, 0, 0, 0, nI 1), (.goto 4, 3, 40, 0, 0, 0), (.iconst 1, 1, 0, 0, 0, nI 1), (.iconst 1, 1, 0, 0, 0, nI 1)] [] (pc2 := 42) (ls2 := [some (.ref 54), some (.int x1), some (.int x2), some (.int x3), none, none, none, none, none]) (st2 := [.int (nI 1), .int (nI 1), .int (nI 1), .ref 54]) (M2 := mrow M 54 (upd (M.1 54) 0 (nI 0))) (Ps := []) (by decide +kernel) rfl rfl trivial ?_
        have t19 : GM z mX12_may (d) [.ref 54, .int (nI 1), .int (nI 1), .int (nI 1)] (mrow M 54 (upd (M.1 54) 0 (nI 0))) (fun rs => rs = .inl (some (.int (nI 1)), mrow M 54 (upd (M.1 54) 0 (nI 0)))) := by
          have q9 := m_may_1_t z d (mrow M 54 (upd (M.1 54) 0 (nI 0))) (nI 1) (by first | rfl | (simp only [mput, mrow_same, mrow_hit, mrow_miss, mrow_sw, idr_eq, ne_eq, Nat.reduceEqDiff, not_false_eq_true, Nat.reduceLT, reduceCtorEq, pk_us]; done))
          try simp only [mput, mrow_same, mrow_hit, mrow_miss, mrow_sw, idr_eq, ne_eq, Nat.reduceEqDiff, not_false_eq_true, Nat.reduceLT, reduceCtorEq] at q9
          exact q9
        refine G.callV (as := [.int (nI 1), .int (nI 1), .int (nI 1)]) (rest := []) (a := 54) oX12_may lk_EvenFindersModel_213 (by decide +kernel) rfl rfl ⟨rfl, rfl⟩ (Nat.le_of_ble_eq_true rfl) rfl ⟨Nat.le_of_ble_eq_true rfl, Nat.le_of_ble_eq_true rfl⟩ t19 (fun v9 N9 h20 => ?_) (fun E9 N9 h20 => by cases h20)
        cases h20
        show G z mX12_takes (d + 1) 0 0 45 [some (.ref 54), some (.int x1), some (.int x2), some (.int x3), none, none, none, none, none] [.int (nI 1)] (mrow M 54 (upd (M.1 54) 0 (nI 0))) Q
        refine G.if_ne (off := (5)) (tgt := 50) (by decide +kernel) rfl (fun _ => ?_) (fun h9 => absurd h9 (by decide))
        refine G.sl [(.iconst 0, 1, 0, 0, 0, nI 0), (.istore 4, 2, 4, 0, 0, 0), (.iconst (-1), 1, 0, 0, 0, (-1)), (.istore 5, 2, 5, 0, 0, 0), (.iconst 0, 1, 0, 0, 0, nI 0), (.istore 6, 2, 6, 0, 0, 0)] [] (pc2 := 59) (ls2 := [some (.ref 54), some (.int x1), some (.int x2), some (.int x3), some (.int (nI 0)), some (.int ((-1))), some (.int (nI 0)), none, none]) (st2 := []) (M2 := mrow M 54 (upd (M.1 54) 0 (nI 0))) (Ps := []) (by decide +kernel) rfl rfl trivial ?_
        refine G.loc (ls2 := [none, some (.int x1), some (.int x2), some (.int x3), some (.int (nI 0)), some (.int ((-1))), some (.int (nI 0)), none, none]) (by simp [subL]) ?_
        refine lp_k_takes_54_59 z d (mrow M 54 (upd (M.1 54) 0 (nI 0))) Q (cN 4) x1 x2 x3 (cN_eq 4) ?_
        try simp only [mput, mrow_same, mrow_hit, mrow_miss, mrow_sw, idr_eq, ne_eq, Nat.reduceEqDiff, not_false_eq_true, Nat.reduceLT, reduceCtorEq]
        rcases g38 : k_takes_59 x1 x2 x3 (cN 4) with ⟨v39, v40⟩
        show G z mX12_takes (d + 1) 0 0 156 [none, some (.int x1), some (.int x2), some (.int x3), some (.int v39), some (.int v40), none, none, none] [] (mrow M 54 (upd (M.1 54) 0 (nI 0))) Q
        refine G.sl [(.iload_n 3, 1, 3, 0, 0, 0)] [] (pc2 := 157) (ls2 := [none, some (.int x1), some (.int x2), some (.int x3), some (.int v39), some (.int v40), none, none, none]) (st2 := [.int x3]) (M2 := mrow M 54 (upd (M.1 54) 0 (nI 0))) (Ps := []) (by decide +kernel) rfl rfl trivial ?_
        refine G.if_ne (off := (8)) (tgt := 165) (by decide +kernel) rfl (fun c41 => ?_) (fun c41 => ?_)
        · skip
          refine G.sl [(.iload_n 3, 1, 3, 0, 0, 0), (.iconst 1, 1, 0, 0, 0, nI 1)] [] (pc2 := 167) (ls2 := [none, some (.int x1), some (.int x2), some (.int x3), some (.int v39), some (.int v40), none, none, none]) (st2 := [.int (nI 1), .int x3]) (M2 := mrow M 54 (upd (M.1 54) 0 (nI 0))) (Ps := []) (by decide +kernel) rfl rfl trivial ?_
          refine G.ic_ne (off := (8)) (tgt := 175) (by decide +kernel) rfl (fun c42 => ?_) (fun c42 => ?_)
          · skip
            refine G.sl [(.iload 5, 2, 5, 0, 0, 0), (.iconst (-1), 1, 0, 0, 0, (-1))] [] (pc2 := 178) (ls2 := [none, some (.int x1), some (.int x2), some (.int x3), some (.int v39), some (.int v40), none, none, none]) (st2 := [.int ((-1)), .int v40]) (M2 := mrow M 54 (upd (M.1 54) 0 (nI 0))) (Ps := []) (by decide +kernel) rfl rfl trivial ?_
            refine G.ic_ne (off := (7)) (tgt := 185) (by decide +kernel) rfl (fun c43 => ?_) (fun c43 => ?_)
            · skip
              refine G.sl [(.iload 5, 2, 5, 0, 0, 0), (.bipush 10, 2, 0, 0, 0, nI 10), (.idiv, 1, 0, 0, 0, 0), (.iload 5, 2, 5, 0, 0, 0), (.bipush 10, 2, 0, 0, 0, nI 10), (.irem, 1, 0, 0, 0, 0), (.iload_n 1, 1, 1, 0, 0, 0), (.iload_n 2, 1, 2, 0, 0, 0)] [] (pc2 := 197) (ls2 := [none, some (.int x1), some (.int x2), some (.int x3), some (.int v39), some (.int v40), none, none, none]) (st2 := [.int x2, .int x1, .int (v40 - v40 / (nI 10) * (nI 10)), .int (v40 / (nI 10))]) (M2 := mrow M 54 (upd (M.1 54) 0 (nI 0))) (Ps := [¬ (nI 10) = 0, ¬ (nI 10) = 0]) (by decide +kernel) rfl rfl ⟨(by decide), (by decide), trivial⟩ ?_
              have t45 : GM z mX12_hasBy (d) [.int (v40 / (nI 10)), .int (v40 - v40 / (nI 10) * (nI 10)), .int x1, .int x2] (mrow M 54 (upd (M.1 54) 0 (nI 0))) (fun rs => rs = .inl (some (.int (k_hasBy (v40 / (nI 10)) (v40 - v40 / (nI 10) * (nI 10)) x1 x2)), mrow M 54 (upd (M.1 54) 0 (nI 0)))) := by
                have q9 := c_k_hasBy z d (mrow M 54 (upd (M.1 54) 0 (nI 0))) (v40 / (nI 10)) (v40 - v40 / (nI 10) * (nI 10)) x1 x2
                try simp only [mput, mrow_same, mrow_hit, mrow_miss, mrow_sw, idr_eq, ne_eq, Nat.reduceEqDiff, not_false_eq_true, Nat.reduceLT, reduceCtorEq] at q9
                exact q9
              refine G.callS (as := [.int (v40 / (nI 10)), .int (v40 - v40 / (nI 10) * (nI 10)), .int x1, .int x2]) (rest := []) oX12_hasBy lk_EvenFindersModel_422 (by decide +kernel) rfl (Nat.le_of_ble_eq_true rfl) rfl ⟨Nat.le_of_ble_eq_true rfl, Nat.le_of_ble_eq_true rfl⟩ t45 (fun v9 N9 h46 => ?_) (fun E9 N9 h46 => by cases h46)
              cases h46
              show G z mX12_takes (d + 1) 0 0 200 [none, some (.int x1), some (.int x2), some (.int x3), some (.int v39), some (.int v40), none, none, none] [.int (k_hasBy (v40 / (nI 10)) (v40 - v40 / (nI 10) * (nI 10)) x1 x2)] (mrow M 54 (upd (M.1 54) 0 (nI 0))) Q
              refine G.sl [(.iload 5, 2, 5, 0, 0, 0), (.bipush 10, 2, 0, 0, 0, nI 10), (.irem, 1, 0, 0, 0, 0), (.iload 5, 2, 5, 0, 0, 0), (.bipush 10, 2, 0, 0, 0, nI 10), (.idiv, 1, 0, 0, 0, 0), (.iload_n 1, 1, 1, 0, 0, 0), (.iload_n 2, 1, 2, 0, 0, 0)] [] (pc2 := 212) (ls2 := [none, some (.int x1), some (.int x2), some (.int x3), some (.int v39), some (.int v40), none, none, none]) (st2 := [.int x2, .int x1, .int (v40 / (nI 10)), .int (v40 - v40 / (nI 10) * (nI 10)), .int (k_hasBy (v40 / (nI 10)) (v40 - v40 / (nI 10) * (nI 10)) x1 x2)]) (M2 := mrow M 54 (upd (M.1 54) 0 (nI 0))) (Ps := [¬ (nI 10) = 0, ¬ (nI 10) = 0]) (by decide +kernel) rfl rfl ⟨(by decide), (by decide), trivial⟩ ?_
              have t48 : GM z mX12_hasBy (d) [.int (v40 - v40 / (nI 10) * (nI 10)), .int (v40 / (nI 10)), .int x1, .int x2] (mrow M 54 (upd (M.1 54) 0 (nI 0))) (fun rs => rs = .inl (some (.int (k_hasBy (v40 - v40 / (nI 10) * (nI 10)) (v40 / (nI 10)) x1 x2)), mrow M 54 (upd (M.1 54) 0 (nI 0)))) := by
                have q9 := c_k_hasBy z d (mrow M 54 (upd (M.1 54) 0 (nI 0))) (v40 - v40 / (nI 10) * (nI 10)) (v40 / (nI 10)) x1 x2
                try simp only [mput, mrow_same, mrow_hit, mrow_miss, mrow_sw, idr_eq, ne_eq, Nat.reduceEqDiff, not_false_eq_true, Nat.reduceLT, reduceCtorEq] at q9
                exact q9
              refine G.callS (as := [.int (v40 - v40 / (nI 10) * (nI 10)), .int (v40 / (nI 10)), .int x1, .int x2]) (rest := [.int (k_hasBy (v40 / (nI 10)) (v40 - v40 / (nI 10) * (nI 10)) x1 x2)]) oX12_hasBy lk_EvenFindersModel_422 (by decide +kernel) rfl (Nat.le_of_ble_eq_true rfl) rfl ⟨Nat.le_of_ble_eq_true rfl, Nat.le_of_ble_eq_true rfl⟩ t48 (fun v9 N9 h49 => ?_) (fun E9 N9 h49 => by cases h49)
              cases h49
              show G z mX12_takes (d + 1) 0 0 215 [none, some (.int x1), some (.int x2), some (.int x3), some (.int v39), some (.int v40), none, none, none] [.int (k_hasBy (v40 - v40 / (nI 10) * (nI 10)) (v40 / (nI 10)) x1 x2), .int (k_hasBy (v40 / (nI 10)) (v40 - v40 / (nI 10) * (nI 10)) x1 x2)] (mrow M 54 (upd (M.1 54) 0 (nI 0))) Q
              refine G.sl [(.iadd, 1, 0, 0, 0, 0)] [] (pc2 := 216) (ls2 := [none, some (.int x1), some (.int x2), some (.int x3), some (.int v39), some (.int v40), none, none, none]) (st2 := [.int ((k_hasBy (v40 / (nI 10)) (v40 - v40 / (nI 10) * (nI 10)) x1 x2) + (k_hasBy (v40 - v40 / (nI 10) * (nI 10)) (v40 / (nI 10)) x1 x2))]) (M2 := mrow M 54 (upd (M.1 54) 0 (nI 0))) (Ps := []) (by decide +kernel) rfl rfl trivial ?_
              refine G.mem (M' := mrow (mrow M 54 (upd (M.1 54) 0 (nI 0))) 55 (M.1 55)) (((mrow_id (N := mrow M 54 (upd (M.1 54) 0 (nI 0))) (c := 55) (f := M.1 55) (by first | rfl | (simp only [mput, mrow_same, mrow_hit, mrow_miss, mrow_sw, idr_eq, ne_eq, Nat.reduceEqDiff, not_false_eq_true, Nat.reduceLT, reduceCtorEq]; done))).symm).trans (by first | rfl | (simp only [mput, mrow_same, mrow_hit, mrow_miss, mrow_sw, idr_eq, ne_eq, Nat.reduceEqDiff, not_false_eq_true, Nat.reduceLT, reduceCtorEq]; done))) ?_
              exact G.reti (by decide +kernel) rfl rfl (Nat.le_of_ble_eq_true rfl) (Nat.le_of_ble_eq_true rfl) ((by rw [hQ]; simp only [k_takes, if_neg c4, if_neg c10, if_neg c16, g38, if_neg c41, if_neg c42, if_neg c43, mrow_self]))
            · skip
              refine G.sl [(.iconst 0, 1, 0, 0, 0, nI 0), (.goto 34, 3, 216, 0, 0, 0)] [] (pc2 := 216) (ls2 := [none, some (.int x1), some (.int x2), some (.int x3), some (.int v39), some (.int v40), none, none, none]) (st2 := [.int (nI 0)]) (M2 := mrow M 54 (upd (M.1 54) 0 (nI 0))) (Ps := []) (by decide +kernel) rfl rfl trivial ?_
              refine G.mem (M' := mrow (mrow M 54 (upd (M.1 54) 0 (nI 0))) 55 (M.1 55)) (((mrow_id (N := mrow M 54 (upd (M.1 54) 0 (nI 0))) (c := 55) (f := M.1 55) (by first | rfl | (simp only [mput, mrow_same, mrow_hit, mrow_miss, mrow_sw, idr_eq, ne_eq, Nat.reduceEqDiff, not_false_eq_true, Nat.reduceLT, reduceCtorEq]; done))).symm).trans (by first | rfl | (simp only [mput, mrow_same, mrow_hit, mrow_miss, mrow_sw, idr_eq, ne_eq, Nat.reduceEqDiff, not_false_eq_true, Nat.reduceLT, reduceCtorEq]; done))) ?_
              exact G.reti (by decide +kernel) rfl rfl (Nat.le_of_ble_eq_true rfl) (Nat.le_of_ble_eq_true rfl) ((by rw [hQ]; simp only [k_takes, if_neg c4, if_neg c10, if_neg c16, g38, if_neg c41, if_neg c42, if_pos c43, mrow_self]))
          · skip
            refine G.sl [(.iload 5, 2, 5, 0, 0, 0), (.goto 44, 3, 216, 0, 0, 0)] [] (pc2 := 216) (ls2 := [none, some (.int x1), some (.int x2), some (.int x3), some (.int v39), some (.int v40), none, none, none]) (st2 := [.int v40]) (M2 := mrow M 54 (upd (M.1 54) 0 (nI 0))) (Ps := []) (by decide +kernel) rfl rfl trivial ?_
            refine G.mem (M' := mrow (mrow M 54 (upd (M.1 54) 0 (nI 0))) 55 (M.1 55)) (((mrow_id (N := mrow M 54 (upd (M.1 54) 0 (nI 0))) (c := 55) (f := M.1 55) (by first | rfl | (simp only [mput, mrow_same, mrow_hit, mrow_miss, mrow_sw, idr_eq, ne_eq, Nat.reduceEqDiff, not_false_eq_true, Nat.reduceLT, reduceCtorEq]; done))).symm).trans (by first | rfl | (simp only [mput, mrow_same, mrow_hit, mrow_miss, mrow_sw, idr_eq, ne_eq, Nat.reduceEqDiff, not_false_eq_true, Nat.reduceLT, reduceCtorEq]; done))) ?_
            exact G.reti (by decide +kernel) rfl rfl (Nat.le_of_ble_eq_true rfl) (Nat.le_of_ble_eq_true rfl) ((by rw [hQ]; simp only [k_takes, if_neg c4, if_neg c10, if_neg c16, g38, if_neg c41, if_pos c42, mrow_self]))
        · skip
          refine G.sl [(.iload 4, 2, 4, 0, 0, 0), (.goto 54, 3, 216, 0, 0, 0)] [] (pc2 := 216) (ls2 := [none, some (.int x1), some (.int x2), some (.int x3), some (.int v39), some (.int v40), none, none, none]) (st2 := [.int v39]) (M2 := mrow M 54 (upd (M.1 54) 0 (nI 0))) (Ps := []) (by decide +kernel) rfl rfl trivial ?_
          refine G.mem (M' := mrow (mrow M 54 (upd (M.1 54) 0 (nI 0))) 55 (M.1 55)) (((mrow_id (N := mrow M 54 (upd (M.1 54) 0 (nI 0))) (c := 55) (f := M.1 55) (by first | rfl | (simp only [mput, mrow_same, mrow_hit, mrow_miss, mrow_sw, idr_eq, ne_eq, Nat.reduceEqDiff, not_false_eq_true, Nat.reduceLT, reduceCtorEq]; done))).symm).trans (by first | rfl | (simp only [mput, mrow_same, mrow_hit, mrow_miss, mrow_sw, idr_eq, ne_eq, Nat.reduceEqDiff, not_false_eq_true, Nat.reduceLT, reduceCtorEq]; done))) ?_
          exact G.reti (by decide +kernel) rfl rfl (Nat.le_of_ble_eq_true rfl) (Nat.le_of_ble_eq_true rfl) ((by rw [hQ]; simp only [k_takes, if_neg c4, if_neg c10, if_neg c16, g38, if_pos c41, mrow_self]))
set_option maxHeartbeats 4000000 in
set_option maxRecDepth 3000 in
theorem c_k_bounded_54 (z : Zp) (d : Nat) (M : Mem) (x1 : Int32) (x2 : Int32) (nt : Nat) (hnt : nt ≤ 10) (ct : M.1 54 22 = nI nt) : GM z mX12_bounded (d + 1) [.ref 54, .int x1, .int x2] M (fun rs => rs = .inl (some (.int (k_bounded (M.1 61) (M.1 72) nt x1 x2)), M)) := by
  refine GM.of oX12_bounded.1 (Nat.le_of_ble_eq_true rfl) ?_
  show G z mX12_bounded (d + 1) 0 0 0 [some (.ref 54), some (.int x1), some (.int x2), none] [] M _
  obtain ⟨Q, hQ⟩ : ∃ Q : Rs → Prop, Q = (fun rs => rs = .inl (some (.int (k_bounded (M.1 61) (M.1 72) nt x1 x2)), M)) := ⟨_, rfl⟩
  rw [← hQ]
  refine G.sl [(.aload_n 0, 1, 0, 0, 0, 0), (.aload_n 0, 1, 0, 0, 0, 0), (.iload_n 1, 1, 1, 0, 0, 0)] [] (pc2 := 3) (ls2 := [some (.ref 54), some (.int x1), some (.int x2), none]) (st2 := [.int x1, .ref 54, .ref 54]) (M2 := M) (Ps := []) (by decide +kernel) rfl rfl trivial ?_
  have t2 : GM z mX12_heldBy (d) [.ref 54, .int x1] M (fun rs => rs = .inl (some (.int (k_heldBy (M.1 72) nt x1)), M)) := by
    have q9 := c_k_heldBy_54 z d M x1 nt hnt ct
    try simp only [mput, mrow_same, mrow_hit, mrow_miss, mrow_sw, idr_eq, ne_eq, Nat.reduceEqDiff, not_false_eq_true, Nat.reduceLT, reduceCtorEq] at q9
    exact q9
  refine G.callV (as := [.int x1]) (rest := [.ref 54]) (a := 54) oX12_heldBy lk_EvenFindersModel_342 (by decide +kernel) rfl rfl ⟨rfl, rfl⟩ (Nat.le_of_ble_eq_true rfl) rfl ⟨Nat.le_of_ble_eq_true rfl, Nat.le_of_ble_eq_true rfl⟩ t2 (fun v9 N9 h3 => ?_) (fun E9 N9 h3 => by cases h3)
  cases h3
  show G z mX12_bounded (d + 1) 0 0 6 [some (.ref 54), some (.int x1), some (.int x2), none] [.int (k_heldBy (M.1 72) nt x1), .ref 54] M Q
  have t5 : GM z mX12_worthOf (d) [.ref 54, .int (k_heldBy (M.1 72) nt x1)] M (fun rs => rs = .inl (some (.int (k_worthOf (M.1 61) nt (k_heldBy (M.1 72) nt x1))), M)) := by
    have q9 := c_k_worthOf_54 z d M (k_heldBy (M.1 72) nt x1) nt hnt ct
    try simp only [mput, mrow_same, mrow_hit, mrow_miss, mrow_sw, idr_eq, ne_eq, Nat.reduceEqDiff, not_false_eq_true, Nat.reduceLT, reduceCtorEq] at q9
    exact q9
  refine G.callV (as := [.int (k_heldBy (M.1 72) nt x1)]) (rest := []) (a := 54) oX12_worthOf lk_EvenFindersModel_388 (by decide +kernel) rfl rfl ⟨rfl, rfl⟩ (Nat.le_of_ble_eq_true rfl) rfl ⟨Nat.le_of_ble_eq_true rfl, Nat.le_of_ble_eq_true rfl⟩ t5 (fun v9 N9 h6 => ?_) (fun E9 N9 h6 => by cases h6)
  cases h6
  show G z mX12_bounded (d + 1) 0 0 9 [some (.ref 54), some (.int x1), some (.int x2), none] [.int (k_worthOf (M.1 61) nt (k_heldBy (M.1 72) nt x1))] M Q
  refine G.sl [(.istore_n 3, 1, 3, 0, 0, 0), (.iload_n 3, 1, 3, 0, 0, 0), (.iload_n 2, 1, 2, 0, 0, 0)] [] (pc2 := 12) (ls2 := [some (.ref 54), some (.int x1), some (.int x2), some (.int (k_worthOf (M.1 61) nt (k_heldBy (M.1 72) nt x1)))]) (st2 := [.int x2, .int (k_worthOf (M.1 61) nt (k_heldBy (M.1 72) nt x1))]) (M2 := M) (Ps := []) (by decide +kernel) rfl rfl trivial ?_
  refine G.ic_ge (off := (7)) (tgt := 19) (by decide +kernel) rfl (fun c7 => ?_) (fun c7 => ?_)
  · skip
    refine G.sl [(.iload_n 2, 1, 2, 0, 0, 0)] [] (pc2 := 20) (ls2 := [some (.ref 54), some (.int x1), some (.int x2), some (.int (k_worthOf (M.1 61) nt (k_heldBy (M.1 72) nt x1)))]) (st2 := [.int x2]) (M2 := M) (Ps := []) (by decide +kernel) rfl rfl trivial ?_
    exact G.reti (by decide +kernel) rfl rfl (Nat.le_of_ble_eq_true rfl) (Nat.le_of_ble_eq_true rfl) ((by rw [hQ]; simp only [k_bounded, if_pos c7, mrow_self]))
  · skip
    refine G.sl [(.iload_n 3, 1, 3, 0, 0, 0), (.goto 4, 3, 20, 0, 0, 0)] [] (pc2 := 20) (ls2 := [some (.ref 54), some (.int x1), some (.int x2), some (.int (k_worthOf (M.1 61) nt (k_heldBy (M.1 72) nt x1)))]) (st2 := [.int (k_worthOf (M.1 61) nt (k_heldBy (M.1 72) nt x1))]) (M2 := M) (Ps := []) (by decide +kernel) rfl rfl trivial ?_
    exact G.reti (by decide +kernel) rfl rfl (Nat.le_of_ble_eq_true rfl) (Nat.le_of_ble_eq_true rfl) ((by rw [hQ]; simp only [k_bounded, if_neg c7, mrow_self]))
set_option maxHeartbeats 4000000 in
set_option maxRecDepth 3000 in
theorem lp_k_sixpenceBy_54_5 (z : Zp) (d : Nat) (M : Mem) (Q : Rs → Prop) (x1 : Int32) (x2 : Int32) (nt : Nat) (hnt : nt ≤ 10) (ct : M.1 54 22 = nI nt) (nf : Nat) (hnf : nf ≤ 6) (cf : M.1 54 23 = nI nf) (hX : G z mX12_sixpenceBy (d + 2) 0 0 37 [none, none, none, some (.int (k_sixpenceBy_5 (M.1 61) (M.1 72) nt x1 x2 nf)), none] [] M Q) : G z mX12_sixpenceBy (d + 2) 0 0 5 [some (.ref 54), some (.int x1), some (.int x2), some (.int (nI 0)), some (.int (nI 0))] [] M Q := by
  refine down (n := nf) (P := fun i4 => G z mX12_sixpenceBy (d + 2) 0 0 5 [some (.ref 54), some (.int x1), some (.int x2), some (.int (k_sixpenceBy_5 (M.1 61) (M.1 72) nt x1 x2 i4)), some (.int (nI i4))] [] M Q) ?_ ?_ 0 (Nat.zero_le _)
  · skip
    refine G.sl [(.iload 4, 2, 4, 0, 0, 0), (.aload_n 0, 1, 0, 0, 0, 0), (.getfield 165, 3, 11, 23, 146, 0)] [] (pc2 := 11) (ls2 := [some (.ref 54), some (.int x1), some (.int x2), some (.int (k_sixpenceBy_5 (M.1 61) (M.1 72) nt x1 x2 nf)), some (.int (nI nf))]) (st2 := [.int (M.1 54 23), .int (nI nf)]) (M2 := M) (Ps := []) (by decide +kernel) rfl rfl trivial ?_
    rw [cf]
    refine G.ic_ge (off := (26)) (tgt := 37) (by decide +kernel) rfl (fun _ => ?_) (fun h9 => absurd (nI_le (by omega) (by omega)) h9)
    refine G.loc (ls2 := [none, none, none, some (.int (k_sixpenceBy_5 (M.1 61) (M.1 72) nt x1 x2 nf)), none]) (by simp [subL]) ?_
    exact hX
  · skip
    intro i4 hi ih
    show G z mX12_sixpenceBy (d + 2) 0 0 5 [some (.ref 54), some (.int x1), some (.int x2), some (.int (k_sixpenceBy_5 (M.1 61) (M.1 72) nt x1 x2 i4)), some (.int (nI i4))] [] M Q
    refine G.sl [(.iload 4, 2, 4, 0, 0, 0), (.aload_n 0, 1, 0, 0, 0, 0), (.getfield 165, 3, 11, 23, 146, 0)] [] (pc2 := 11) (ls2 := [some (.ref 54), some (.int x1), some (.int x2), some (.int (k_sixpenceBy_5 (M.1 61) (M.1 72) nt x1 x2 i4)), some (.int (nI i4))]) (st2 := [.int (M.1 54 23), .int (nI i4)]) (M2 := M) (Ps := []) (by decide +kernel) rfl rfl trivial ?_
    rw [cf]
    refine G.ic_ge (off := (26)) (tgt := 37) (by decide +kernel) rfl (fun h9 => absurd h9 (nI_ge (by omega) (by omega))) (fun _ => ?_)
    refine G.sl [(.iload_n 3, 1, 3, 0, 0, 0), (.iload_n 1, 1, 1, 0, 0, 0), (.iload 4, 2, 4, 0, 0, 0), (.ishr, 1, 0, 0, 0, 0), (.iconst 1, 1, 0, 0, 0, nI 1), (.iand, 1, 0, 0, 0, 0), (.aload_n 0, 1, 0, 0, 0, 0), (.iload 4, 2, 4, 0, 0, 0), (.iload_n 2, 1, 2, 0, 0, 0)] [] (pc2 := 25) (ls2 := [some (.ref 54), some (.int x1), some (.int x2), some (.int (k_sixpenceBy_5 (M.1 61) (M.1 72) nt x1 x2 i4)), some (.int (nI i4))]) (st2 := [.int x2, .int (nI i4), .ref 54, .int ((x1 >>> ((nI i4) &&& 31)) &&& (nI 1)), .int (k_sixpenceBy_5 (M.1 61) (M.1 72) nt x1 x2 i4)]) (M2 := M) (Ps := []) (by decide +kernel) rfl rfl trivial ?_
    have t2 : GM z mX12_bounded (d + 1) [.ref 54, .int (nI i4), .int x2] M (fun rs => rs = .inl (some (.int (k_bounded (M.1 61) (M.1 72) nt (nI i4) x2)), M)) := by
      have q9 := c_k_bounded_54 z d M (nI i4) x2 nt hnt ct
      try simp only [mput, mrow_same, mrow_hit, mrow_miss, mrow_sw, idr_eq, ne_eq, Nat.reduceEqDiff, not_false_eq_true, Nat.reduceLT, reduceCtorEq] at q9
      exact q9
    refine G.callV (as := [.int (nI i4), .int x2]) (rest := [.int ((x1 >>> ((nI i4) &&& 31)) &&& (nI 1)), .int (k_sixpenceBy_5 (M.1 61) (M.1 72) nt x1 x2 i4)]) (a := 54) oX12_bounded lk_EvenFindersModel_426 (by decide +kernel) rfl rfl ⟨rfl, rfl⟩ (Nat.le_of_ble_eq_true rfl) rfl ⟨Nat.le_of_ble_eq_true rfl, Nat.le_of_ble_eq_true rfl⟩ t2 (fun v9 N9 h3 => ?_) (fun E9 N9 h3 => by cases h3)
    cases h3
    show G z mX12_sixpenceBy (d + 2) 0 0 28 [some (.ref 54), some (.int x1), some (.int x2), some (.int (k_sixpenceBy_5 (M.1 61) (M.1 72) nt x1 x2 i4)), some (.int (nI i4))] [.int (k_bounded (M.1 61) (M.1 72) nt (nI i4) x2), .int ((x1 >>> ((nI i4) &&& 31)) &&& (nI 1)), .int (k_sixpenceBy_5 (M.1 61) (M.1 72) nt x1 x2 i4)] M Q
    refine G.sl [(.imul, 1, 0, 0, 0, 0), (.iadd, 1, 0, 0, 0, 0), (.istore_n 3, 1, 3, 0, 0, 0), (.iinc 4 1, 3, 4, 0, 0, nI 1), (.goto (-29), 3, 5, 0, 0, 0)] [] (pc2 := 5) (ls2 := [some (.ref 54), some (.int x1), some (.int x2), some (.int ((k_sixpenceBy_5 (M.1 61) (M.1 72) nt x1 x2 i4) + (((x1 >>> ((nI i4) &&& 31)) &&& (nI 1)) * (k_bounded (M.1 61) (M.1 72) nt (nI i4) x2)))), some (.int ((nI i4) + nI 1))]) (st2 := []) (M2 := M) (Ps := []) (by decide +kernel) rfl rfl trivial ?_
    rw [nI_add i4 1]
    simp only [k_sixpenceBy_5] at ih
    exact ih
set_option maxHeartbeats 4000000 in
set_option maxRecDepth 3000 in
theorem c_k_sixpenceBy_54 (z : Zp) (d : Nat) (M : Mem) (x1 : Int32) (x2 : Int32) (nt : Nat) (hnt : nt ≤ 10) (ct : M.1 54 22 = nI nt) (nf : Nat) (hnf : nf ≤ 6) (cf : M.1 54 23 = nI nf) : GM z mX12_sixpenceBy (d + 2) [.ref 54, .int x1, .int x2] M (fun rs => rs = .inl (some (.int (k_sixpenceBy (M.1 61) (M.1 72) nt nf x1 x2)), M)) := by
  refine GM.of oX12_sixpenceBy.1 (Nat.le_of_ble_eq_true rfl) ?_
  show G z mX12_sixpenceBy (d + 2) 0 0 0 [some (.ref 54), some (.int x1), some (.int x2), none, none] [] M _
  obtain ⟨Q, hQ⟩ : ∃ Q : Rs → Prop, Q = (fun rs => rs = .inl (some (.int (k_sixpenceBy (M.1 61) (M.1 72) nt nf x1 x2)), M)) := ⟨_, rfl⟩
  rw [← hQ]
  refine G.sl [(.iconst 0, 1, 0, 0, 0, nI 0), (.istore_n 3, 1, 3, 0, 0, 0), (.iconst 0, 1, 0, 0, 0, nI 0), (.istore 4, 2, 4, 0, 0, 0)] [] (pc2 := 5) (ls2 := [some (.ref 54), some (.int x1), some (.int x2), some (.int (nI 0)), some (.int (nI 0))]) (st2 := []) (M2 := M) (Ps := []) (by decide +kernel) rfl rfl trivial ?_
  refine lp_k_sixpenceBy_54_5 z d M Q x1 x2 nt hnt ct nf hnf cf ?_
  show G z mX12_sixpenceBy (d + 2) 0 0 37 [none, none, none, some (.int (k_sixpenceBy_5 (M.1 61) (M.1 72) nt x1 x2 nf)), none] [] M Q
  refine G.sl [(.iload_n 3, 1, 3, 0, 0, 0)] [] (pc2 := 38) (ls2 := [none, none, none, some (.int (k_sixpenceBy_5 (M.1 61) (M.1 72) nt x1 x2 nf)), none]) (st2 := [.int (k_sixpenceBy_5 (M.1 61) (M.1 72) nt x1 x2 nf)]) (M2 := M) (Ps := []) (by decide +kernel) rfl rfl trivial ?_
  exact G.reti (by decide +kernel) rfl rfl (Nat.le_of_ble_eq_true rfl) (Nat.le_of_ble_eq_true rfl) ((by rw [hQ]; simp only [k_sixpenceBy, mrow_self]))
set_option maxHeartbeats 4000000 in
set_option maxRecDepth 3000 in
theorem lp_k_sixpence_54_64 (z : Zp) (d : Nat) (M : Mem) (Q : Rs → Prop) (x1 : Int32) (x2 : Int32) (x3 : Int32) (nt : Nat) (hnt : nt ≤ 10) (ct : M.1 54 22 = nI nt) (nf : Nat) (hnf : nf ≤ 6) (cf : M.1 54 23 = nI nf) : ∀ (k0 : Nat) (s4 : Int32), k_sixpence_64_ok (M.1 61) (M.1 72) nt nf x1 x2 x3 k0 s4 → (match k_sixpence_64 (M.1 61) (M.1 72) nt nf x1 x2 x3 k0 s4 with | s4' => G z mX12_sixpence (d + 3) 0 0 81 [some (.ref 54), some (.int x1), some (.int x2), none, some (.int (s4'))] [] M Q) → G z mX12_sixpence (d + 3) 0 0 64 [some (.ref 54), some (.int x1), some (.int x2), some (.int x3), some (.int s4)] [] M Q := by
  intro k0
  induction k0 with
  | zero =>
      intro s4 hk hX
      exact (by simpa only [k_sixpence_64_ok] using hk : False).elim
  | succ k0 ih =>
      intro s4 hk hX
      simp only [k_sixpence_64_ok] at hk
      refine G.sl [(.aload_n 0, 1, 0, 0, 0, 0), (.iload_n 2, 1, 2, 0, 0, 0), (.iload 4, 2, 4, 0, 0, 0)] [] (pc2 := 68) (ls2 := [some (.ref 54), some (.int x1), some (.int x2), some (.int x3), some (.int s4)]) (st2 := [.int s4, .int x2, .ref 54]) (M2 := M) (Ps := []) (by decide +kernel) rfl rfl trivial ?_
      obtain ⟨k24, hk⟩ := hk
      have t25 : GM z mX12_sixpenceBy (d + 2) [.ref 54, .int x2, .int s4] M (fun rs => rs = .inl (some (.int (k_sixpenceBy (M.1 61) (M.1 72) nt nf x2 s4)), M)) := by
        have q9 := c_k_sixpenceBy_54 z d M x2 s4 nt hnt ct nf hnf cf
        try simp only [mput, mrow_same, mrow_hit, mrow_miss, mrow_sw, idr_eq, ne_eq, Nat.reduceEqDiff, not_false_eq_true, Nat.reduceLT, reduceCtorEq] at q9
        exact q9
      refine G.callV (as := [.int x2, .int s4]) (rest := []) (a := 54) oX12_sixpenceBy lk_EvenFindersModel_429 (by decide +kernel) rfl rfl ⟨rfl, rfl⟩ (Nat.le_of_ble_eq_true rfl) rfl ⟨Nat.le_of_ble_eq_true rfl, Nat.le_of_ble_eq_true rfl⟩ t25 (fun v9 N9 h26 => ?_) (fun E9 N9 h26 => by cases h26)
      cases h26
      show G z mX12_sixpence (d + 3) 0 0 71 [some (.ref 54), some (.int x1), some (.int x2), some (.int x3), some (.int s4)] [.int (k_sixpenceBy (M.1 61) (M.1 72) nt nf x2 s4)] M Q
      refine G.sl [(.iload_n 3, 1, 3, 0, 0, 0)] [] (pc2 := 72) (ls2 := [some (.ref 54), some (.int x1), some (.int x2), some (.int x3), some (.int s4)]) (st2 := [.int x3, .int (k_sixpenceBy (M.1 61) (M.1 72) nt nf x2 s4)]) (M2 := M) (Ps := []) (by decide +kernel) rfl rfl trivial ?_
      refine G.ic_le (off := (9)) (tgt := 81) (by decide +kernel) rfl (fun c27 => ?_) (fun c27 => ?_)
      · skip
        rw [if_pos c27] at hk
        refine G.loc (ls2 := [some (.ref 54), some (.int x1), some (.int x2), none, some (.int s4)]) (by simp [subL]) ?_
        simp only [k_sixpence_64, if_pos c27] at hX
        exact hX
      · skip
        rw [if_neg c27] at hk
        refine G.sl [(.iinc 4 (-1), 3, 4, 0, 0, (-1)), (.goto (-14), 3, 64, 0, 0, 0)] [] (pc2 := 64) (ls2 := [some (.ref 54), some (.int x1), some (.int x2), some (.int x3), some (.int (s4 + (-1)))]) (st2 := []) (M2 := M) (Ps := []) (by decide +kernel) rfl rfl trivial ?_
        simp only [k_sixpence_64, if_neg c27] at hX
        exact ih (s4 + (-1)) hk hX
set_option maxHeartbeats 4000000 in
set_option maxRecDepth 3000 in
theorem c_k_sixpence_54 (z : Zp) (d : Nat) (M : Mem) (x1 : Int32) (x2 : Int32) (x3 : Int32) (nf : Nat) (hnf : nf ≤ 6) (cf : M.1 54 23 = nI nf) (hk : k_sixpence_ok (M.1 54) (M.1 55) (M.1 61) (M.1 71) (M.1 72) nf x1 x2 x3) : GM z mX12_sixpence (d + 3) [.ref 54, .int x1, .int x2, .int x3] M (fun rs => rs = .inl (some (.int ((k_sixpence (M.1 54) (M.1 55) (M.1 61) (M.1 71) (M.1 72) nf x1 x2 x3).1)), mrow (mrow (mrow M 54 ((k_sixpence (M.1 54) (M.1 55) (M.1 61) (M.1 71) (M.1 72) nf x1 x2 x3).2.1)) 55 ((k_sixpence (M.1 54) (M.1 55) (M.1 61) (M.1 71) (M.1 72) nf x1 x2 x3).2.2.1)) 72 ((k_sixpence (M.1 54) (M.1 55) (M.1 61) (M.1 71) (M.1 72) nf x1 x2 x3).2.2.2))) := by
  simp only [k_sixpence_ok] at hk
  refine GM.of oX12_sixpence.1 (Nat.le_of_ble_eq_true rfl) ?_
  show G z mX12_sixpence (d + 3) 0 0 0 [some (.ref 54), some (.int x1), some (.int x2), some (.int x3), none] [] M _
  obtain ⟨Q, hQ⟩ : ∃ Q : Rs → Prop, Q = (fun rs => rs = .inl (some (.int ((k_sixpence (M.1 54) (M.1 55) (M.1 61) (M.1 71) (M.1 72) nf x1 x2 x3).1)), mrow (mrow (mrow M 54 ((k_sixpence (M.1 54) (M.1 55) (M.1 61) (M.1 71) (M.1 72) nf x1 x2 x3).2.1)) 55 ((k_sixpence (M.1 54) (M.1 55) (M.1 61) (M.1 71) (M.1 72) nf x1 x2 x3).2.2.1)) 72 ((k_sixpence (M.1 54) (M.1 55) (M.1 61) (M.1 71) (M.1 72) nf x1 x2 x3).2.2.2))) := ⟨_, rfl⟩
  rw [← hQ]
  refine G.sl [(.aload_n 0, 1, 0, 0, 0, 0), (.iconst 0, 1, 0, 0, 0, nI 0), (.putfield 3, 3, 11, 0, 123, 0), (.aload_n 0, 1, 0, 0, 0, 0), (.iload_n 1, 1, 1, 0, 0, 0), (.iconst 1, 1, 0, 0, 0, nI 1)] [] (pc2 := 8) (ls2 := [some (.ref 54), some (.int x1), some (.int x2), some (.int x3), none]) (st2 := [.int (nI 1), .int x1, .ref 54]) (M2 := mput M 54 0 (nI 0)) (Ps := []) (by decide +kernel) rfl rfl trivial ?_
  refine G.mem (M' := mrow M 54 (upd (M.1 54) 0 (nI 0))) (by first | rfl | (simp only [mput, mrow_same, mrow_hit, mrow_miss, mrow_sw, idr_eq, ne_eq, Nat.reduceEqDiff, not_false_eq_true, Nat.reduceLT, reduceCtorEq]; done)) ?_
  obtain ⟨k1, hk⟩ := hk
  rcases g2 : k_isFinder (upd (M.1 54) 0 (nI 0)) (M.1 55) nf x1 (nI 1) with ⟨v3, r4, r5⟩
  try simp only [g2] at hk
  have ev3 : v3 = 0 ∨ v3 = 1 := by
    have q9 := k_isFinder_01 (upd (M.1 54) 0 (nI 0)) (M.1 55) nf x1 (nI 1)
    rw [g2] at q9
    exact q9
  have t6 : GM z mX12_isFinder (d + 2) [.ref 54, .int x1, .int (nI 1)] (mrow M 54 (upd (M.1 54) 0 (nI 0))) (fun rs => rs = .inl (some (.int v3), mrow (mrow M 54 r4) 55 r5)) := by
    have q9 := c_k_isFinder_54 z (d + 1) (mrow M 54 (upd (M.1 54) 0 (nI 0))) x1 (nI 1) nf hnf cf
    try simp only [mput, mrow_same, mrow_hit, mrow_miss, mrow_sw, idr_eq, ne_eq, Nat.reduceEqDiff, not_false_eq_true, Nat.reduceLT, reduceCtorEq, g2] at q9
    exact q9
  refine G.callV (as := [.int x1, .int (nI 1)]) (rest := []) (a := 54) oX12_isFinder lk_EvenFindersModel_400 (by decide +kernel) rfl rfl ⟨rfl, rfl⟩ (Nat.le_of_ble_eq_true rfl) rfl ⟨Nat.le_of_ble_eq_true rfl, Nat.le_of_ble_eq_true rfl⟩ t6 (fun v9 N9 h7 => ?_) (fun E9 N9 h7 => by cases h7)
  cases h7
  show G z mX12_sixpence (d + 3) 0 0 11 [some (.ref 54), some (.int x1), some (.int x2), some (.int x3), none] [.int v3] (mrow (mrow M 54 r4) 55 r5) Q
  refine G.if_eq (off := (42)) (tgt := 53) (by decide +kernel) rfl (fun c8 => ?_) (fun c8 => ?_)
  · skip
    rw [if_pos c8] at hk
    refine G.sl [(.iconst 0, 1, 0, 0, 0, nI 0)] [] (pc2 := 54) (ls2 := [some (.ref 54), some (.int x1), some (.int x2), some (.int x3), none]) (st2 := [.int (nI 0)]) (M2 := mrow (mrow M 54 r4) 55 r5) (Ps := []) (by decide +kernel) rfl rfl trivial ?_
    refine G.mem (M' := mrow (mrow (mrow M 54 r4) 55 r5) 72 (M.1 72)) (((mrow_id (N := mrow (mrow M 54 r4) 55 r5) (c := 72) (f := M.1 72) (by first | rfl | (simp only [mput, mrow_same, mrow_hit, mrow_miss, mrow_sw, idr_eq, ne_eq, Nat.reduceEqDiff, not_false_eq_true, Nat.reduceLT, reduceCtorEq]; done))).symm).trans (by first | rfl | (simp only [mput, mrow_same, mrow_hit, mrow_miss, mrow_sw, idr_eq, ne_eq, Nat.reduceEqDiff, not_false_eq_true, Nat.reduceLT, reduceCtorEq]; done))) ?_
    exact G.reti (by decide +kernel) rfl rfl (Nat.le_of_ble_eq_true rfl) (Nat.le_of_ble_eq_true rfl) ((by rw [hQ]; simp only [k_sixpence, g2, if_pos c8, mrow_self]))
  · skip
    rw [if_neg c8] at hk
    refine G.sl [(.aload_n 0, 1, 0, 0, 0, 0), (.iload_n 2, 1, 2, 0, 0, 0)] [] (pc2 := 16) (ls2 := [some (.ref 54), some (.int x1), some (.int x2), some (.int x3), none]) (st2 := [.int x2, .ref 54]) (M2 := mrow (mrow M 54 r4) 55 r5) (Ps := []) (by decide +kernel) rfl rfl trivial ?_
    refine G.if_lt (off := (28)) (tgt := 44) (by decide +kernel) rfl (fun c9 => ?_) (fun c9 => ?_)
    · skip
      rw [if_pos c9] at hk
      refine G.sl [(.iconst 0, 1, 0, 0, 0, nI 0), (.iconst 2, 1, 0, 0, 0, nI 2), (.iconst 1, 1, 0, 0, 0, nI 1)] [] (pc2 := 47) (ls2 := [some (.ref 54), some (.int x1), some (.int x2), some (.int x3), none]) (st2 := [.int (nI 1), .int (nI 2), .int (nI 0), .ref 54]) (M2 := mrow (mrow M 54 r4) 55 r5) (Ps := []) (by decide +kernel) rfl rfl trivial ?_
      obtain ⟨k10, hk⟩ := hk
      rcases g11 : k_may_1 r4 r5 (nI 0) (nI 2) with ⟨v12, r13, r14⟩
      try simp only [g11] at hk
      have ev12 : v12 = 0 ∨ v12 = 1 := by
        have q9 := k_may_1_01 r4 r5 (nI 0) (nI 2)
        rw [g11] at q9
        exact q9
      have t15 : GM z mX12_may (d + 2) [.ref 54, .int (nI 0), .int (nI 2), .int (nI 1)] (mrow (mrow M 54 r4) 55 r5) (fun rs => rs = .inl (some (.int v12), mrow (mrow M 54 r13) 55 r14)) := by
        have q9 := c_k_may_1_54 z (d + 2) (mrow (mrow M 54 r4) 55 r5) (nI 0) (nI 2)
        try simp only [mput, mrow_same, mrow_hit, mrow_miss, mrow_sw, idr_eq, ne_eq, Nat.reduceEqDiff, not_false_eq_true, Nat.reduceLT, reduceCtorEq, g11] at q9
        exact q9
      refine G.callV (as := [.int (nI 0), .int (nI 2), .int (nI 1)]) (rest := []) (a := 54) oX12_may lk_EvenFindersModel_213 (by decide +kernel) rfl rfl ⟨rfl, rfl⟩ (Nat.le_of_ble_eq_true rfl) rfl ⟨Nat.le_of_ble_eq_true rfl, Nat.le_of_ble_eq_true rfl⟩ t15 (fun v9 N9 h16 => ?_) (fun E9 N9 h16 => by cases h16)
      cases h16
      show G z mX12_sixpence (d + 3) 0 0 50 [some (.ref 54), some (.int x1), some (.int x2), some (.int x3), none] [.int v12] (mrow (mrow M 54 r13) 55 r14) Q
      refine G.if_ne (off := (5)) (tgt := 55) (by decide +kernel) rfl (fun c17 => ?_) (fun c17 => ?_)
      · skip
        rw [if_neg c17] at hk
        refine G.sl [(.aload_n 0, 1, 0, 0, 0, 0)] [] (pc2 := 56) (ls2 := [some (.ref 54), some (.int x1), some (.int x2), some (.int x3), none]) (st2 := [.ref 54]) (M2 := mrow (mrow M 54 r13) 55 r14) (Ps := []) (by decide +kernel) rfl rfl trivial ?_
        obtain ⟨k18, hk⟩ := hk
        rcases g19 : k_take (M.1 71) (M.1 72) with ⟨u20, r21⟩
        try simp only [g19] at hk
        have t22 : GM z mX12_take (d + 2) [.ref 54] (mrow (mrow M 54 r13) 55 r14) (fun rs => rs = .inl (none, mrow (mrow (mrow M 54 r13) 55 r14) 72 r21)) := by
          have q9 := c_k_take_54 z (d + 1) (mrow (mrow M 54 r13) 55 r14) k18
          try simp only [mput, mrow_same, mrow_hit, mrow_miss, mrow_sw, idr_eq, ne_eq, Nat.reduceEqDiff, not_false_eq_true, Nat.reduceLT, reduceCtorEq, g19] at q9
          exact q9
        refine G.callV (as := []) (rest := []) (a := 54) oX12_take lk_EvenFindersModel_320 (by decide +kernel) rfl rfl ⟨rfl, rfl⟩ (Nat.le_of_ble_eq_true rfl) rfl ⟨Nat.le_of_ble_eq_true rfl, Nat.le_of_ble_eq_true rfl⟩ t22 (fun v9 N9 h23 => ?_) (fun E9 N9 h23 => by cases h23)
        cases h23
        show G z mX12_sixpence (d + 3) 0 0 59 [some (.ref 54), some (.int x1), some (.int x2), some (.int x3), none] [] (mrow (mrow (mrow M 54 r13) 55 r14) 72 r21) Q
        refine G.sl [(.sipush 600, 3, 0, 0, 0, nI 600), (.istore 4, 2, 4, 0, 0, 0)] [] (pc2 := 64) (ls2 := [some (.ref 54), some (.int x1), some (.int x2), some (.int x3), some (.int (nI 600))]) (st2 := []) (M2 := mrow (mrow (mrow M 54 r13) 55 r14) 72 r21) (Ps := []) (by decide +kernel) rfl rfl trivial ?_
        obtain ⟨k28, k29, k30, k31, hk⟩ := hk
        obtain ⟨k32, hk⟩ := hk
        refine lp_k_sixpence_54_64 z d (mrow (mrow (mrow M 54 r13) 55 r14) 72 r21) Q x1 x2 x3 (ix (r13 22)) k29 (ixE k28) (ix (r13 23)) k31 (ixE k30) FU (nI 600) (by first | (simp only [mput, mrow_same, mrow_hit, mrow_miss, mrow_sw, idr_eq, ne_eq, Nat.reduceEqDiff, not_false_eq_true, Nat.reduceLT, reduceCtorEq]; exact k32) | exact k32) ?_
        try simp only [mput, mrow_same, mrow_hit, mrow_miss, mrow_sw, idr_eq, ne_eq, Nat.reduceEqDiff, not_false_eq_true, Nat.reduceLT, reduceCtorEq]
        show G z mX12_sixpence (d + 3) 0 0 81 [some (.ref 54), some (.int x1), some (.int x2), none, some (.int (k_sixpence_64 (M.1 61) r21 (ix (r13 22)) (ix (r13 23)) x1 x2 x3 FU (nI 600)))] [] (mrow (mrow (mrow M 54 r13) 55 r14) 72 r21) Q
        refine G.sl [(.iload_n 2, 1, 2, 0, 0, 0), (.iload_n 1, 1, 1, 0, 0, 0), (.ishr, 1, 0, 0, 0, 0), (.iconst 1, 1, 0, 0, 0, nI 1), (.iand, 1, 0, 0, 0, 0)] [] (pc2 := 86) (ls2 := [some (.ref 54), some (.int x1), some (.int x2), none, some (.int (k_sixpence_64 (M.1 61) r21 (ix (r13 22)) (ix (r13 23)) x1 x2 x3 FU (nI 600)))]) (st2 := [.int ((x2 >>> (x1 &&& 31)) &&& (nI 1))]) (M2 := mrow (mrow (mrow M 54 r13) 55 r14) 72 r21) (Ps := []) (by decide +kernel) rfl rfl trivial ?_
        refine G.if_ne (off := (7)) (tgt := 93) (by decide +kernel) rfl (fun c33 => ?_) (fun c33 => ?_)
        · skip
          refine G.sl [(.aload_n 0, 1, 0, 0, 0, 0), (.iload_n 1, 1, 1, 0, 0, 0), (.iload 4, 2, 4, 0, 0, 0)] [] (pc2 := 97) (ls2 := [some (.ref 54), some (.int x1), some (.int x2), none, some (.int (k_sixpence_64 (M.1 61) r21 (ix (r13 22)) (ix (r13 23)) x1 x2 x3 FU (nI 600)))]) (st2 := [.int (k_sixpence_64 (M.1 61) r21 (ix (r13 22)) (ix (r13 23)) x1 x2 x3 FU (nI 600)), .int x1, .ref 54]) (M2 := mrow (mrow (mrow M 54 r13) 55 r14) 72 r21) (Ps := []) (by decide +kernel) rfl rfl trivial ?_
          have t35 : GM z mX12_bounded (d + 2) [.ref 54, .int x1, .int (k_sixpence_64 (M.1 61) r21 (ix (r13 22)) (ix (r13 23)) x1 x2 x3 FU (nI 600))] (mrow (mrow (mrow M 54 r13) 55 r14) 72 r21) (fun rs => rs = .inl (some (.int (k_bounded (M.1 61) r21 (ix (r13 22)) x1 (k_sixpence_64 (M.1 61) r21 (ix (r13 22)) (ix (r13 23)) x1 x2 x3 FU (nI 600)))), mrow (mrow (mrow M 54 r13) 55 r14) 72 r21)) := by
            have q9 := c_k_bounded_54 z (d + 1) (mrow (mrow (mrow M 54 r13) 55 r14) 72 r21) x1 (k_sixpence_64 (M.1 61) r21 (ix (r13 22)) (ix (r13 23)) x1 x2 x3 FU (nI 600)) (ix (r13 22)) (by omega) (ixE k28)
            try simp only [mput, mrow_same, mrow_hit, mrow_miss, mrow_sw, idr_eq, ne_eq, Nat.reduceEqDiff, not_false_eq_true, Nat.reduceLT, reduceCtorEq] at q9
            exact q9
          refine G.callV (as := [.int x1, .int (k_sixpence_64 (M.1 61) r21 (ix (r13 22)) (ix (r13 23)) x1 x2 x3 FU (nI 600))]) (rest := []) (a := 54) oX12_bounded lk_EvenFindersModel_426 (by decide +kernel) rfl rfl ⟨rfl, rfl⟩ (Nat.le_of_ble_eq_true rfl) rfl ⟨Nat.le_of_ble_eq_true rfl, Nat.le_of_ble_eq_true rfl⟩ t35 (fun v9 N9 h36 => ?_) (fun E9 N9 h36 => by cases h36)
          cases h36
          show G z mX12_sixpence (d + 3) 0 0 100 [some (.ref 54), some (.int x1), some (.int x2), none, some (.int (k_sixpence_64 (M.1 61) r21 (ix (r13 22)) (ix (r13 23)) x1 x2 x3 FU (nI 600)))] [.int (k_bounded (M.1 61) r21 (ix (r13 22)) x1 (k_sixpence_64 (M.1 61) r21 (ix (r13 22)) (ix (r13 23)) x1 x2 x3 FU (nI 600)))] (mrow (mrow (mrow M 54 r13) 55 r14) 72 r21) Q
          exact G.reti (by decide +kernel) rfl rfl (Nat.le_of_ble_eq_true rfl) (Nat.le_of_ble_eq_true rfl) ((by rw [hQ]; simp only [k_sixpence, g2, if_neg c8, if_pos c9, g11, if_neg c17, g19, if_neg c33, mrow_self]))
        · skip
          refine G.sl [(.iconst 0, 1, 0, 0, 0, nI 0), (.goto 10, 3, 100, 0, 0, 0)] [] (pc2 := 100) (ls2 := [some (.ref 54), some (.int x1), some (.int x2), none, some (.int (k_sixpence_64 (M.1 61) r21 (ix (r13 22)) (ix (r13 23)) x1 x2 x3 FU (nI 600)))]) (st2 := [.int (nI 0)]) (M2 := mrow (mrow (mrow M 54 r13) 55 r14) 72 r21) (Ps := []) (by decide +kernel) rfl rfl trivial ?_
          exact G.reti (by decide +kernel) rfl rfl (Nat.le_of_ble_eq_true rfl) (Nat.le_of_ble_eq_true rfl) ((by rw [hQ]; simp only [k_sixpence, g2, if_neg c8, if_pos c9, g11, if_neg c17, g19, if_pos c33, mrow_self]))
      · skip
        rw [if_pos c17] at hk
        refine G.sl [(.iconst 0, 1, 0, 0, 0, nI 0)] [] (pc2 := 54) (ls2 := [some (.ref 54), some (.int x1), some (.int x2), some (.int x3), none]) (st2 := [.int (nI 0)]) (M2 := mrow (mrow M 54 r13) 55 r14) (Ps := []) (by decide +kernel) rfl rfl trivial ?_
        refine G.mem (M' := mrow (mrow (mrow M 54 r13) 55 r14) 72 (M.1 72)) (((mrow_id (N := mrow (mrow M 54 r13) 55 r14) (c := 72) (f := M.1 72) (by first | rfl | (simp only [mput, mrow_same, mrow_hit, mrow_miss, mrow_sw, idr_eq, ne_eq, Nat.reduceEqDiff, not_false_eq_true, Nat.reduceLT, reduceCtorEq]; done))).symm).trans (by first | rfl | (simp only [mput, mrow_same, mrow_hit, mrow_miss, mrow_sw, idr_eq, ne_eq, Nat.reduceEqDiff, not_false_eq_true, Nat.reduceLT, reduceCtorEq]; done))) ?_
        exact G.reti (by decide +kernel) rfl rfl (Nat.le_of_ble_eq_true rfl) (Nat.le_of_ble_eq_true rfl) ((by rw [hQ]; simp only [k_sixpence, g2, if_neg c8, if_pos c9, g11, if_pos c17, mrow_self]))
    · skip
      rw [if_neg c9] at hk
      refine G.sl [(.iload_n 2, 1, 2, 0, 0, 0), (.iconst 1, 1, 0, 0, 0, nI 1), (.aload_n 0, 1, 0, 0, 0, 0), (.getfield 165, 3, 11, 23, 146, 0), (.ishl, 1, 0, 0, 0, 0)] [] (pc2 := 26) (ls2 := [some (.ref 54), some (.int x1), some (.int x2), some (.int x3), none]) (st2 := [.int ((nI 1) <<< ((r4 23) &&& 31)), .int x2, .ref 54]) (M2 := mrow (mrow M 54 r4) 55 r5) (Ps := []) (by decide +kernel) rfl rfl trivial ?_
      refine G.ic_ge (off := (18)) (tgt := 44) (by decide +kernel) rfl (fun c37 => ?_) (fun c37 => ?_)
      · skip
        rw [if_pos c37] at hk
        refine G.sl [(.iconst 0, 1, 0, 0, 0, nI 0), (.iconst 2, 1, 0, 0, 0, nI 2), (.iconst 1, 1, 0, 0, 0, nI 1)] [] (pc2 := 47) (ls2 := [some (.ref 54), some (.int x1), some (.int x2), some (.int x3), none]) (st2 := [.int (nI 1), .int (nI 2), .int (nI 0), .ref 54]) (M2 := mrow (mrow M 54 r4) 55 r5) (Ps := []) (by decide +kernel) rfl rfl trivial ?_
        obtain ⟨k38, hk⟩ := hk
        rcases g39 : k_may_1 r4 r5 (nI 0) (nI 2) with ⟨v40, r41, r42⟩
        try simp only [g39] at hk
        have ev40 : v40 = 0 ∨ v40 = 1 := by
          have q9 := k_may_1_01 r4 r5 (nI 0) (nI 2)
          rw [g39] at q9
          exact q9
        have t43 : GM z mX12_may (d + 2) [.ref 54, .int (nI 0), .int (nI 2), .int (nI 1)] (mrow (mrow M 54 r4) 55 r5) (fun rs => rs = .inl (some (.int v40), mrow (mrow M 54 r41) 55 r42)) := by
          have q9 := c_k_may_1_54 z (d + 2) (mrow (mrow M 54 r4) 55 r5) (nI 0) (nI 2)
          try simp only [mput, mrow_same, mrow_hit, mrow_miss, mrow_sw, idr_eq, ne_eq, Nat.reduceEqDiff, not_false_eq_true, Nat.reduceLT, reduceCtorEq, g39] at q9
          exact q9
        refine G.callV (as := [.int (nI 0), .int (nI 2), .int (nI 1)]) (rest := []) (a := 54) oX12_may lk_EvenFindersModel_213 (by decide +kernel) rfl rfl ⟨rfl, rfl⟩ (Nat.le_of_ble_eq_true rfl) rfl ⟨Nat.le_of_ble_eq_true rfl, Nat.le_of_ble_eq_true rfl⟩ t43 (fun v9 N9 h44 => ?_) (fun E9 N9 h44 => by cases h44)
        cases h44
        show G z mX12_sixpence (d + 3) 0 0 50 [some (.ref 54), some (.int x1), some (.int x2), some (.int x3), none] [.int v40] (mrow (mrow M 54 r41) 55 r42) Q
        refine G.if_ne (off := (5)) (tgt := 55) (by decide +kernel) rfl (fun c45 => ?_) (fun c45 => ?_)
        · skip
          rw [if_neg c45] at hk
          refine G.sl [(.aload_n 0, 1, 0, 0, 0, 0)] [] (pc2 := 56) (ls2 := [some (.ref 54), some (.int x1), some (.int x2), some (.int x3), none]) (st2 := [.ref 54]) (M2 := mrow (mrow M 54 r41) 55 r42) (Ps := []) (by decide +kernel) rfl rfl trivial ?_
          obtain ⟨k46, hk⟩ := hk
          rcases g47 : k_take (M.1 71) (M.1 72) with ⟨u48, r49⟩
          try simp only [g47] at hk
          have t50 : GM z mX12_take (d + 2) [.ref 54] (mrow (mrow M 54 r41) 55 r42) (fun rs => rs = .inl (none, mrow (mrow (mrow M 54 r41) 55 r42) 72 r49)) := by
            have q9 := c_k_take_54 z (d + 1) (mrow (mrow M 54 r41) 55 r42) k46
            try simp only [mput, mrow_same, mrow_hit, mrow_miss, mrow_sw, idr_eq, ne_eq, Nat.reduceEqDiff, not_false_eq_true, Nat.reduceLT, reduceCtorEq, g47] at q9
            exact q9
          refine G.callV (as := []) (rest := []) (a := 54) oX12_take lk_EvenFindersModel_320 (by decide +kernel) rfl rfl ⟨rfl, rfl⟩ (Nat.le_of_ble_eq_true rfl) rfl ⟨Nat.le_of_ble_eq_true rfl, Nat.le_of_ble_eq_true rfl⟩ t50 (fun v9 N9 h51 => ?_) (fun E9 N9 h51 => by cases h51)
          cases h51
          show G z mX12_sixpence (d + 3) 0 0 59 [some (.ref 54), some (.int x1), some (.int x2), some (.int x3), none] [] (mrow (mrow (mrow M 54 r41) 55 r42) 72 r49) Q
          refine G.sl [(.sipush 600, 3, 0, 0, 0, nI 600), (.istore 4, 2, 4, 0, 0, 0)] [] (pc2 := 64) (ls2 := [some (.ref 54), some (.int x1), some (.int x2), some (.int x3), some (.int (nI 600))]) (st2 := []) (M2 := mrow (mrow (mrow M 54 r41) 55 r42) 72 r49) (Ps := []) (by decide +kernel) rfl rfl trivial ?_
          obtain ⟨k56, k57, k58, k59, hk⟩ := hk
          obtain ⟨k60, hk⟩ := hk
          refine lp_k_sixpence_54_64 z d (mrow (mrow (mrow M 54 r41) 55 r42) 72 r49) Q x1 x2 x3 (ix (r41 22)) k57 (ixE k56) (ix (r41 23)) k59 (ixE k58) FU (nI 600) (by first | (simp only [mput, mrow_same, mrow_hit, mrow_miss, mrow_sw, idr_eq, ne_eq, Nat.reduceEqDiff, not_false_eq_true, Nat.reduceLT, reduceCtorEq]; exact k60) | exact k60) ?_
          try simp only [mput, mrow_same, mrow_hit, mrow_miss, mrow_sw, idr_eq, ne_eq, Nat.reduceEqDiff, not_false_eq_true, Nat.reduceLT, reduceCtorEq]
          show G z mX12_sixpence (d + 3) 0 0 81 [some (.ref 54), some (.int x1), some (.int x2), none, some (.int (k_sixpence_64 (M.1 61) r49 (ix (r41 22)) (ix (r41 23)) x1 x2 x3 FU (nI 600)))] [] (mrow (mrow (mrow M 54 r41) 55 r42) 72 r49) Q
          refine G.sl [(.iload_n 2, 1, 2, 0, 0, 0), (.iload_n 1, 1, 1, 0, 0, 0), (.ishr, 1, 0, 0, 0, 0), (.iconst 1, 1, 0, 0, 0, nI 1), (.iand, 1, 0, 0, 0, 0)] [] (pc2 := 86) (ls2 := [some (.ref 54), some (.int x1), some (.int x2), none, some (.int (k_sixpence_64 (M.1 61) r49 (ix (r41 22)) (ix (r41 23)) x1 x2 x3 FU (nI 600)))]) (st2 := [.int ((x2 >>> (x1 &&& 31)) &&& (nI 1))]) (M2 := mrow (mrow (mrow M 54 r41) 55 r42) 72 r49) (Ps := []) (by decide +kernel) rfl rfl trivial ?_
          refine G.if_ne (off := (7)) (tgt := 93) (by decide +kernel) rfl (fun c61 => ?_) (fun c61 => ?_)
          · skip
            refine G.sl [(.aload_n 0, 1, 0, 0, 0, 0), (.iload_n 1, 1, 1, 0, 0, 0), (.iload 4, 2, 4, 0, 0, 0)] [] (pc2 := 97) (ls2 := [some (.ref 54), some (.int x1), some (.int x2), none, some (.int (k_sixpence_64 (M.1 61) r49 (ix (r41 22)) (ix (r41 23)) x1 x2 x3 FU (nI 600)))]) (st2 := [.int (k_sixpence_64 (M.1 61) r49 (ix (r41 22)) (ix (r41 23)) x1 x2 x3 FU (nI 600)), .int x1, .ref 54]) (M2 := mrow (mrow (mrow M 54 r41) 55 r42) 72 r49) (Ps := []) (by decide +kernel) rfl rfl trivial ?_
            have t63 : GM z mX12_bounded (d + 2) [.ref 54, .int x1, .int (k_sixpence_64 (M.1 61) r49 (ix (r41 22)) (ix (r41 23)) x1 x2 x3 FU (nI 600))] (mrow (mrow (mrow M 54 r41) 55 r42) 72 r49) (fun rs => rs = .inl (some (.int (k_bounded (M.1 61) r49 (ix (r41 22)) x1 (k_sixpence_64 (M.1 61) r49 (ix (r41 22)) (ix (r41 23)) x1 x2 x3 FU (nI 600)))), mrow (mrow (mrow M 54 r41) 55 r42) 72 r49)) := by
              have q9 := c_k_bounded_54 z (d + 1) (mrow (mrow (mrow M 54 r41) 55 r42) 72 r49) x1 (k_sixpence_64 (M.1 61) r49 (ix (r41 22)) (ix (r41 23)) x1 x2 x3 FU (nI 600)) (ix (r41 22)) (by omega) (ixE k56)
              try simp only [mput, mrow_same, mrow_hit, mrow_miss, mrow_sw, idr_eq, ne_eq, Nat.reduceEqDiff, not_false_eq_true, Nat.reduceLT, reduceCtorEq] at q9
              exact q9
            refine G.callV (as := [.int x1, .int (k_sixpence_64 (M.1 61) r49 (ix (r41 22)) (ix (r41 23)) x1 x2 x3 FU (nI 600))]) (rest := []) (a := 54) oX12_bounded lk_EvenFindersModel_426 (by decide +kernel) rfl rfl ⟨rfl, rfl⟩ (Nat.le_of_ble_eq_true rfl) rfl ⟨Nat.le_of_ble_eq_true rfl, Nat.le_of_ble_eq_true rfl⟩ t63 (fun v9 N9 h64 => ?_) (fun E9 N9 h64 => by cases h64)
            cases h64
            show G z mX12_sixpence (d + 3) 0 0 100 [some (.ref 54), some (.int x1), some (.int x2), none, some (.int (k_sixpence_64 (M.1 61) r49 (ix (r41 22)) (ix (r41 23)) x1 x2 x3 FU (nI 600)))] [.int (k_bounded (M.1 61) r49 (ix (r41 22)) x1 (k_sixpence_64 (M.1 61) r49 (ix (r41 22)) (ix (r41 23)) x1 x2 x3 FU (nI 600)))] (mrow (mrow (mrow M 54 r41) 55 r42) 72 r49) Q
            exact G.reti (by decide +kernel) rfl rfl (Nat.le_of_ble_eq_true rfl) (Nat.le_of_ble_eq_true rfl) ((by rw [hQ]; simp only [k_sixpence, g2, if_neg c8, if_neg c9, if_pos c37, g39, if_neg c45, g47, if_neg c61, mrow_self]))
          · skip
            refine G.sl [(.iconst 0, 1, 0, 0, 0, nI 0), (.goto 10, 3, 100, 0, 0, 0)] [] (pc2 := 100) (ls2 := [some (.ref 54), some (.int x1), some (.int x2), none, some (.int (k_sixpence_64 (M.1 61) r49 (ix (r41 22)) (ix (r41 23)) x1 x2 x3 FU (nI 600)))]) (st2 := [.int (nI 0)]) (M2 := mrow (mrow (mrow M 54 r41) 55 r42) 72 r49) (Ps := []) (by decide +kernel) rfl rfl trivial ?_
            exact G.reti (by decide +kernel) rfl rfl (Nat.le_of_ble_eq_true rfl) (Nat.le_of_ble_eq_true rfl) ((by rw [hQ]; simp only [k_sixpence, g2, if_neg c8, if_neg c9, if_pos c37, g39, if_neg c45, g47, if_pos c61, mrow_self]))
        · skip
          rw [if_pos c45] at hk
          refine G.sl [(.iconst 0, 1, 0, 0, 0, nI 0)] [] (pc2 := 54) (ls2 := [some (.ref 54), some (.int x1), some (.int x2), some (.int x3), none]) (st2 := [.int (nI 0)]) (M2 := mrow (mrow M 54 r41) 55 r42) (Ps := []) (by decide +kernel) rfl rfl trivial ?_
          refine G.mem (M' := mrow (mrow (mrow M 54 r41) 55 r42) 72 (M.1 72)) (((mrow_id (N := mrow (mrow M 54 r41) 55 r42) (c := 72) (f := M.1 72) (by first | rfl | (simp only [mput, mrow_same, mrow_hit, mrow_miss, mrow_sw, idr_eq, ne_eq, Nat.reduceEqDiff, not_false_eq_true, Nat.reduceLT, reduceCtorEq]; done))).symm).trans (by first | rfl | (simp only [mput, mrow_same, mrow_hit, mrow_miss, mrow_sw, idr_eq, ne_eq, Nat.reduceEqDiff, not_false_eq_true, Nat.reduceLT, reduceCtorEq]; done))) ?_
          exact G.reti (by decide +kernel) rfl rfl (Nat.le_of_ble_eq_true rfl) (Nat.le_of_ble_eq_true rfl) ((by rw [hQ]; simp only [k_sixpence, g2, if_neg c8, if_neg c9, if_pos c37, g39, if_pos c45, mrow_self]))
      · skip
        rw [if_neg c37] at hk
        refine G.sl [(.iload_n 3, 1, 3, 0, 0, 0), (.iconst 0, 1, 0, 0, 0, nI 0), (.sipush 999, 3, 0, 0, 0, nI 999)] [] (pc2 := 34) (ls2 := [some (.ref 54), some (.int x1), some (.int x2), some (.int x3), none]) (st2 := [.int (nI 999), .int (nI 0), .int x3, .ref 54]) (M2 := mrow (mrow M 54 r4) 55 r5) (Ps := []) (by decide +kernel) rfl rfl trivial ?_
        obtain ⟨k65, hk⟩ := hk
        have t66 : GM z mX12_within (d + 2) [.int x3, .int (nI 0), .int (nI 999)] (mrow (mrow M 54 r4) 55 r5) (fun rs => rs = .inl (some (.int (k_within x3 (nI 0) (nI 999))), mrow (mrow M 54 r4) 55 r5)) := by
          have q9 := c_k_within z (d + 2) (mrow (mrow M 54 r4) 55 r5) x3 (nI 0) (nI 999)
          try simp only [mput, mrow_same, mrow_hit, mrow_miss, mrow_sw, idr_eq, ne_eq, Nat.reduceEqDiff, not_false_eq_true, Nat.reduceLT, reduceCtorEq] at q9
          exact q9
        refine G.callS (as := [.int x3, .int (nI 0), .int (nI 999)]) (rest := [.ref 54]) oX12_within lk_EvenFindersModel_379 (by decide +kernel) rfl (Nat.le_of_ble_eq_true rfl) rfl ⟨Nat.le_of_ble_eq_true rfl, Nat.le_of_ble_eq_true rfl⟩ t66 (fun v9 N9 h67 => ?_) (fun E9 N9 h67 => by cases h67)
        cases h67
        show G z mX12_sixpence (d + 3) 0 0 37 [some (.ref 54), some (.int x1), some (.int x2), some (.int x3), none] [.int (k_within x3 (nI 0) (nI 999)), .ref 54] (mrow (mrow M 54 r4) 55 r5) Q
        refine G.if_eq (off := (7)) (tgt := 44) (by decide +kernel) rfl (fun c68 => ?_) (fun c68 => ?_)
        · skip
          rw [if_pos c68] at hk
          refine G.sl [(.iconst 0, 1, 0, 0, 0, nI 0), (.iconst 2, 1, 0, 0, 0, nI 2), (.iconst 1, 1, 0, 0, 0, nI 1)] [] (pc2 := 47) (ls2 := [some (.ref 54), some (.int x1), some (.int x2), some (.int x3), none]) (st2 := [.int (nI 1), .int (nI 2), .int (nI 0), .ref 54]) (M2 := mrow (mrow M 54 r4) 55 r5) (Ps := []) (by decide +kernel) rfl rfl trivial ?_
          obtain ⟨k69, hk⟩ := hk
          rcases g70 : k_may_1 r4 r5 (nI 0) (nI 2) with ⟨v71, r72, r73⟩
          try simp only [g70] at hk
          have ev71 : v71 = 0 ∨ v71 = 1 := by
            have q9 := k_may_1_01 r4 r5 (nI 0) (nI 2)
            rw [g70] at q9
            exact q9
          have t74 : GM z mX12_may (d + 2) [.ref 54, .int (nI 0), .int (nI 2), .int (nI 1)] (mrow (mrow M 54 r4) 55 r5) (fun rs => rs = .inl (some (.int v71), mrow (mrow M 54 r72) 55 r73)) := by
            have q9 := c_k_may_1_54 z (d + 2) (mrow (mrow M 54 r4) 55 r5) (nI 0) (nI 2)
            try simp only [mput, mrow_same, mrow_hit, mrow_miss, mrow_sw, idr_eq, ne_eq, Nat.reduceEqDiff, not_false_eq_true, Nat.reduceLT, reduceCtorEq, g70] at q9
            exact q9
          refine G.callV (as := [.int (nI 0), .int (nI 2), .int (nI 1)]) (rest := []) (a := 54) oX12_may lk_EvenFindersModel_213 (by decide +kernel) rfl rfl ⟨rfl, rfl⟩ (Nat.le_of_ble_eq_true rfl) rfl ⟨Nat.le_of_ble_eq_true rfl, Nat.le_of_ble_eq_true rfl⟩ t74 (fun v9 N9 h75 => ?_) (fun E9 N9 h75 => by cases h75)
          cases h75
          show G z mX12_sixpence (d + 3) 0 0 50 [some (.ref 54), some (.int x1), some (.int x2), some (.int x3), none] [.int v71] (mrow (mrow M 54 r72) 55 r73) Q
          refine G.if_ne (off := (5)) (tgt := 55) (by decide +kernel) rfl (fun c76 => ?_) (fun c76 => ?_)
          · skip
            rw [if_neg c76] at hk
            refine G.sl [(.aload_n 0, 1, 0, 0, 0, 0)] [] (pc2 := 56) (ls2 := [some (.ref 54), some (.int x1), some (.int x2), some (.int x3), none]) (st2 := [.ref 54]) (M2 := mrow (mrow M 54 r72) 55 r73) (Ps := []) (by decide +kernel) rfl rfl trivial ?_
            obtain ⟨k77, hk⟩ := hk
            rcases g78 : k_take (M.1 71) (M.1 72) with ⟨u79, r80⟩
            try simp only [g78] at hk
            have t81 : GM z mX12_take (d + 2) [.ref 54] (mrow (mrow M 54 r72) 55 r73) (fun rs => rs = .inl (none, mrow (mrow (mrow M 54 r72) 55 r73) 72 r80)) := by
              have q9 := c_k_take_54 z (d + 1) (mrow (mrow M 54 r72) 55 r73) k77
              try simp only [mput, mrow_same, mrow_hit, mrow_miss, mrow_sw, idr_eq, ne_eq, Nat.reduceEqDiff, not_false_eq_true, Nat.reduceLT, reduceCtorEq, g78] at q9
              exact q9
            refine G.callV (as := []) (rest := []) (a := 54) oX12_take lk_EvenFindersModel_320 (by decide +kernel) rfl rfl ⟨rfl, rfl⟩ (Nat.le_of_ble_eq_true rfl) rfl ⟨Nat.le_of_ble_eq_true rfl, Nat.le_of_ble_eq_true rfl⟩ t81 (fun v9 N9 h82 => ?_) (fun E9 N9 h82 => by cases h82)
            cases h82
            show G z mX12_sixpence (d + 3) 0 0 59 [some (.ref 54), some (.int x1), some (.int x2), some (.int x3), none] [] (mrow (mrow (mrow M 54 r72) 55 r73) 72 r80) Q
            refine G.sl [(.sipush 600, 3, 0, 0, 0, nI 600), (.istore 4, 2, 4, 0, 0, 0)] [] (pc2 := 64) (ls2 := [some (.ref 54), some (.int x1), some (.int x2), some (.int x3), some (.int (nI 600))]) (st2 := []) (M2 := mrow (mrow (mrow M 54 r72) 55 r73) 72 r80) (Ps := []) (by decide +kernel) rfl rfl trivial ?_
            obtain ⟨k87, k88, k89, k90, hk⟩ := hk
            obtain ⟨k91, hk⟩ := hk
            refine lp_k_sixpence_54_64 z d (mrow (mrow (mrow M 54 r72) 55 r73) 72 r80) Q x1 x2 x3 (ix (r72 22)) k88 (ixE k87) (ix (r72 23)) k90 (ixE k89) FU (nI 600) (by first | (simp only [mput, mrow_same, mrow_hit, mrow_miss, mrow_sw, idr_eq, ne_eq, Nat.reduceEqDiff, not_false_eq_true, Nat.reduceLT, reduceCtorEq]; exact k91) | exact k91) ?_
            try simp only [mput, mrow_same, mrow_hit, mrow_miss, mrow_sw, idr_eq, ne_eq, Nat.reduceEqDiff, not_false_eq_true, Nat.reduceLT, reduceCtorEq]
            show G z mX12_sixpence (d + 3) 0 0 81 [some (.ref 54), some (.int x1), some (.int x2), none, some (.int (k_sixpence_64 (M.1 61) r80 (ix (r72 22)) (ix (r72 23)) x1 x2 x3 FU (nI 600)))] [] (mrow (mrow (mrow M 54 r72) 55 r73) 72 r80) Q
            refine G.sl [(.iload_n 2, 1, 2, 0, 0, 0), (.iload_n 1, 1, 1, 0, 0, 0), (.ishr, 1, 0, 0, 0, 0), (.iconst 1, 1, 0, 0, 0, nI 1), (.iand, 1, 0, 0, 0, 0)] [] (pc2 := 86) (ls2 := [some (.ref 54), some (.int x1), some (.int x2), none, some (.int (k_sixpence_64 (M.1 61) r80 (ix (r72 22)) (ix (r72 23)) x1 x2 x3 FU (nI 600)))]) (st2 := [.int ((x2 >>> (x1 &&& 31)) &&& (nI 1))]) (M2 := mrow (mrow (mrow M 54 r72) 55 r73) 72 r80) (Ps := []) (by decide +kernel) rfl rfl trivial ?_
            refine G.if_ne (off := (7)) (tgt := 93) (by decide +kernel) rfl (fun c92 => ?_) (fun c92 => ?_)
            · skip
              refine G.sl [(.aload_n 0, 1, 0, 0, 0, 0), (.iload_n 1, 1, 1, 0, 0, 0), (.iload 4, 2, 4, 0, 0, 0)] [] (pc2 := 97) (ls2 := [some (.ref 54), some (.int x1), some (.int x2), none, some (.int (k_sixpence_64 (M.1 61) r80 (ix (r72 22)) (ix (r72 23)) x1 x2 x3 FU (nI 600)))]) (st2 := [.int (k_sixpence_64 (M.1 61) r80 (ix (r72 22)) (ix (r72 23)) x1 x2 x3 FU (nI 600)), .int x1, .ref 54]) (M2 := mrow (mrow (mrow M 54 r72) 55 r73) 72 r80) (Ps := []) (by decide +kernel) rfl rfl trivial ?_
              have t94 : GM z mX12_bounded (d + 2) [.ref 54, .int x1, .int (k_sixpence_64 (M.1 61) r80 (ix (r72 22)) (ix (r72 23)) x1 x2 x3 FU (nI 600))] (mrow (mrow (mrow M 54 r72) 55 r73) 72 r80) (fun rs => rs = .inl (some (.int (k_bounded (M.1 61) r80 (ix (r72 22)) x1 (k_sixpence_64 (M.1 61) r80 (ix (r72 22)) (ix (r72 23)) x1 x2 x3 FU (nI 600)))), mrow (mrow (mrow M 54 r72) 55 r73) 72 r80)) := by
                have q9 := c_k_bounded_54 z (d + 1) (mrow (mrow (mrow M 54 r72) 55 r73) 72 r80) x1 (k_sixpence_64 (M.1 61) r80 (ix (r72 22)) (ix (r72 23)) x1 x2 x3 FU (nI 600)) (ix (r72 22)) (by omega) (ixE k87)
                try simp only [mput, mrow_same, mrow_hit, mrow_miss, mrow_sw, idr_eq, ne_eq, Nat.reduceEqDiff, not_false_eq_true, Nat.reduceLT, reduceCtorEq] at q9
                exact q9
              refine G.callV (as := [.int x1, .int (k_sixpence_64 (M.1 61) r80 (ix (r72 22)) (ix (r72 23)) x1 x2 x3 FU (nI 600))]) (rest := []) (a := 54) oX12_bounded lk_EvenFindersModel_426 (by decide +kernel) rfl rfl ⟨rfl, rfl⟩ (Nat.le_of_ble_eq_true rfl) rfl ⟨Nat.le_of_ble_eq_true rfl, Nat.le_of_ble_eq_true rfl⟩ t94 (fun v9 N9 h95 => ?_) (fun E9 N9 h95 => by cases h95)
              cases h95
              show G z mX12_sixpence (d + 3) 0 0 100 [some (.ref 54), some (.int x1), some (.int x2), none, some (.int (k_sixpence_64 (M.1 61) r80 (ix (r72 22)) (ix (r72 23)) x1 x2 x3 FU (nI 600)))] [.int (k_bounded (M.1 61) r80 (ix (r72 22)) x1 (k_sixpence_64 (M.1 61) r80 (ix (r72 22)) (ix (r72 23)) x1 x2 x3 FU (nI 600)))] (mrow (mrow (mrow M 54 r72) 55 r73) 72 r80) Q
              exact G.reti (by decide +kernel) rfl rfl (Nat.le_of_ble_eq_true rfl) (Nat.le_of_ble_eq_true rfl) ((by rw [hQ]; simp only [k_sixpence, g2, if_neg c8, if_neg c9, if_neg c37, if_pos c68, g70, if_neg c76, g78, if_neg c92, mrow_self]))
            · skip
              refine G.sl [(.iconst 0, 1, 0, 0, 0, nI 0), (.goto 10, 3, 100, 0, 0, 0)] [] (pc2 := 100) (ls2 := [some (.ref 54), some (.int x1), some (.int x2), none, some (.int (k_sixpence_64 (M.1 61) r80 (ix (r72 22)) (ix (r72 23)) x1 x2 x3 FU (nI 600)))]) (st2 := [.int (nI 0)]) (M2 := mrow (mrow (mrow M 54 r72) 55 r73) 72 r80) (Ps := []) (by decide +kernel) rfl rfl trivial ?_
              exact G.reti (by decide +kernel) rfl rfl (Nat.le_of_ble_eq_true rfl) (Nat.le_of_ble_eq_true rfl) ((by rw [hQ]; simp only [k_sixpence, g2, if_neg c8, if_neg c9, if_neg c37, if_pos c68, g70, if_neg c76, g78, if_pos c92, mrow_self]))
          · skip
            rw [if_pos c76] at hk
            refine G.sl [(.iconst 0, 1, 0, 0, 0, nI 0)] [] (pc2 := 54) (ls2 := [some (.ref 54), some (.int x1), some (.int x2), some (.int x3), none]) (st2 := [.int (nI 0)]) (M2 := mrow (mrow M 54 r72) 55 r73) (Ps := []) (by decide +kernel) rfl rfl trivial ?_
            refine G.mem (M' := mrow (mrow (mrow M 54 r72) 55 r73) 72 (M.1 72)) (((mrow_id (N := mrow (mrow M 54 r72) 55 r73) (c := 72) (f := M.1 72) (by first | rfl | (simp only [mput, mrow_same, mrow_hit, mrow_miss, mrow_sw, idr_eq, ne_eq, Nat.reduceEqDiff, not_false_eq_true, Nat.reduceLT, reduceCtorEq]; done))).symm).trans (by first | rfl | (simp only [mput, mrow_same, mrow_hit, mrow_miss, mrow_sw, idr_eq, ne_eq, Nat.reduceEqDiff, not_false_eq_true, Nat.reduceLT, reduceCtorEq]; done))) ?_
            exact G.reti (by decide +kernel) rfl rfl (Nat.le_of_ble_eq_true rfl) (Nat.le_of_ble_eq_true rfl) ((by rw [hQ]; simp only [k_sixpence, g2, if_neg c8, if_neg c9, if_neg c37, if_pos c68, g70, if_pos c76, mrow_self]))
        · skip
          rw [if_neg c68] at hk
          refine G.sl [(.iconst 1, 1, 0, 0, 0, nI 1), (.goto 4, 3, 45, 0, 0, 0), (.iconst 2, 1, 0, 0, 0, nI 2), (.iconst 1, 1, 0, 0, 0, nI 1)] [] (pc2 := 47) (ls2 := [some (.ref 54), some (.int x1), some (.int x2), some (.int x3), none]) (st2 := [.int (nI 1), .int (nI 2), .int (nI 1), .ref 54]) (M2 := mrow (mrow M 54 r4) 55 r5) (Ps := []) (by decide +kernel) rfl rfl trivial ?_
          obtain ⟨k96, hk⟩ := hk
          rcases g97 : k_may_1 r4 r5 (nI 1) (nI 2) with ⟨v98, r99, r100⟩
          try simp only [g97] at hk
          have ev98 : v98 = 0 ∨ v98 = 1 := by
            have q9 := k_may_1_01 r4 r5 (nI 1) (nI 2)
            rw [g97] at q9
            exact q9
          have t101 : GM z mX12_may (d + 2) [.ref 54, .int (nI 1), .int (nI 2), .int (nI 1)] (mrow (mrow M 54 r4) 55 r5) (fun rs => rs = .inl (some (.int v98), mrow (mrow M 54 r99) 55 r100)) := by
            have q9 := c_k_may_1_54 z (d + 2) (mrow (mrow M 54 r4) 55 r5) (nI 1) (nI 2)
            try simp only [mput, mrow_same, mrow_hit, mrow_miss, mrow_sw, idr_eq, ne_eq, Nat.reduceEqDiff, not_false_eq_true, Nat.reduceLT, reduceCtorEq, g97] at q9
            exact q9
          refine G.callV (as := [.int (nI 1), .int (nI 2), .int (nI 1)]) (rest := []) (a := 54) oX12_may lk_EvenFindersModel_213 (by decide +kernel) rfl rfl ⟨rfl, rfl⟩ (Nat.le_of_ble_eq_true rfl) rfl ⟨Nat.le_of_ble_eq_true rfl, Nat.le_of_ble_eq_true rfl⟩ t101 (fun v9 N9 h102 => ?_) (fun E9 N9 h102 => by cases h102)
          cases h102
          show G z mX12_sixpence (d + 3) 0 0 50 [some (.ref 54), some (.int x1), some (.int x2), some (.int x3), none] [.int v98] (mrow (mrow M 54 r99) 55 r100) Q
          refine G.if_ne (off := (5)) (tgt := 55) (by decide +kernel) rfl (fun c103 => ?_) (fun c103 => ?_)
          · skip
            rw [if_neg c103] at hk
            refine G.sl [(.aload_n 0, 1, 0, 0, 0, 0)] [] (pc2 := 56) (ls2 := [some (.ref 54), some (.int x1), some (.int x2), some (.int x3), none]) (st2 := [.ref 54]) (M2 := mrow (mrow M 54 r99) 55 r100) (Ps := []) (by decide +kernel) rfl rfl trivial ?_
            obtain ⟨k104, hk⟩ := hk
            rcases g105 : k_take (M.1 71) (M.1 72) with ⟨u106, r107⟩
            try simp only [g105] at hk
            have t108 : GM z mX12_take (d + 2) [.ref 54] (mrow (mrow M 54 r99) 55 r100) (fun rs => rs = .inl (none, mrow (mrow (mrow M 54 r99) 55 r100) 72 r107)) := by
              have q9 := c_k_take_54 z (d + 1) (mrow (mrow M 54 r99) 55 r100) k104
              try simp only [mput, mrow_same, mrow_hit, mrow_miss, mrow_sw, idr_eq, ne_eq, Nat.reduceEqDiff, not_false_eq_true, Nat.reduceLT, reduceCtorEq, g105] at q9
              exact q9
            refine G.callV (as := []) (rest := []) (a := 54) oX12_take lk_EvenFindersModel_320 (by decide +kernel) rfl rfl ⟨rfl, rfl⟩ (Nat.le_of_ble_eq_true rfl) rfl ⟨Nat.le_of_ble_eq_true rfl, Nat.le_of_ble_eq_true rfl⟩ t108 (fun v9 N9 h109 => ?_) (fun E9 N9 h109 => by cases h109)
            cases h109
            show G z mX12_sixpence (d + 3) 0 0 59 [some (.ref 54), some (.int x1), some (.int x2), some (.int x3), none] [] (mrow (mrow (mrow M 54 r99) 55 r100) 72 r107) Q
            refine G.sl [(.sipush 600, 3, 0, 0, 0, nI 600), (.istore 4, 2, 4, 0, 0, 0)] [] (pc2 := 64) (ls2 := [some (.ref 54), some (.int x1), some (.int x2), some (.int x3), some (.int (nI 600))]) (st2 := []) (M2 := mrow (mrow (mrow M 54 r99) 55 r100) 72 r107) (Ps := []) (by decide +kernel) rfl rfl trivial ?_
            obtain ⟨k114, k115, k116, k117, hk⟩ := hk
            obtain ⟨k118, hk⟩ := hk
            refine lp_k_sixpence_54_64 z d (mrow (mrow (mrow M 54 r99) 55 r100) 72 r107) Q x1 x2 x3 (ix (r99 22)) k115 (ixE k114) (ix (r99 23)) k117 (ixE k116) FU (nI 600) (by first | (simp only [mput, mrow_same, mrow_hit, mrow_miss, mrow_sw, idr_eq, ne_eq, Nat.reduceEqDiff, not_false_eq_true, Nat.reduceLT, reduceCtorEq]; exact k118) | exact k118) ?_
            try simp only [mput, mrow_same, mrow_hit, mrow_miss, mrow_sw, idr_eq, ne_eq, Nat.reduceEqDiff, not_false_eq_true, Nat.reduceLT, reduceCtorEq]
            show G z mX12_sixpence (d + 3) 0 0 81 [some (.ref 54), some (.int x1), some (.int x2), none, some (.int (k_sixpence_64 (M.1 61) r107 (ix (r99 22)) (ix (r99 23)) x1 x2 x3 FU (nI 600)))] [] (mrow (mrow (mrow M 54 r99) 55 r100) 72 r107) Q
            refine G.sl [(.iload_n 2, 1, 2, 0, 0, 0), (.iload_n 1, 1, 1, 0, 0, 0), (.ishr, 1, 0, 0, 0, 0), (.iconst 1, 1, 0, 0, 0, nI 1), (.iand, 1, 0, 0, 0, 0)] [] (pc2 := 86) (ls2 := [some (.ref 54), some (.int x1), some (.int x2), none, some (.int (k_sixpence_64 (M.1 61) r107 (ix (r99 22)) (ix (r99 23)) x1 x2 x3 FU (nI 600)))]) (st2 := [.int ((x2 >>> (x1 &&& 31)) &&& (nI 1))]) (M2 := mrow (mrow (mrow M 54 r99) 55 r100) 72 r107) (Ps := []) (by decide +kernel) rfl rfl trivial ?_
            refine G.if_ne (off := (7)) (tgt := 93) (by decide +kernel) rfl (fun c119 => ?_) (fun c119 => ?_)
            · skip
              refine G.sl [(.aload_n 0, 1, 0, 0, 0, 0), (.iload_n 1, 1, 1, 0, 0, 0), (.iload 4, 2, 4, 0, 0, 0)] [] (pc2 := 97) (ls2 := [some (.ref 54), some (.int x1), some (.int x2), none, some (.int (k_sixpence_64 (M.1 61) r107 (ix (r99 22)) (ix (r99 23)) x1 x2 x3 FU (nI 600)))]) (st2 := [.int (k_sixpence_64 (M.1 61) r107 (ix (r99 22)) (ix (r99 23)) x1 x2 x3 FU (nI 600)), .int x1, .ref 54]) (M2 := mrow (mrow (mrow M 54 r99) 55 r100) 72 r107) (Ps := []) (by decide +kernel) rfl rfl trivial ?_
              have t121 : GM z mX12_bounded (d + 2) [.ref 54, .int x1, .int (k_sixpence_64 (M.1 61) r107 (ix (r99 22)) (ix (r99 23)) x1 x2 x3 FU (nI 600))] (mrow (mrow (mrow M 54 r99) 55 r100) 72 r107) (fun rs => rs = .inl (some (.int (k_bounded (M.1 61) r107 (ix (r99 22)) x1 (k_sixpence_64 (M.1 61) r107 (ix (r99 22)) (ix (r99 23)) x1 x2 x3 FU (nI 600)))), mrow (mrow (mrow M 54 r99) 55 r100) 72 r107)) := by
                have q9 := c_k_bounded_54 z (d + 1) (mrow (mrow (mrow M 54 r99) 55 r100) 72 r107) x1 (k_sixpence_64 (M.1 61) r107 (ix (r99 22)) (ix (r99 23)) x1 x2 x3 FU (nI 600)) (ix (r99 22)) (by omega) (ixE k114)
                try simp only [mput, mrow_same, mrow_hit, mrow_miss, mrow_sw, idr_eq, ne_eq, Nat.reduceEqDiff, not_false_eq_true, Nat.reduceLT, reduceCtorEq] at q9
                exact q9
              refine G.callV (as := [.int x1, .int (k_sixpence_64 (M.1 61) r107 (ix (r99 22)) (ix (r99 23)) x1 x2 x3 FU (nI 600))]) (rest := []) (a := 54) oX12_bounded lk_EvenFindersModel_426 (by decide +kernel) rfl rfl ⟨rfl, rfl⟩ (Nat.le_of_ble_eq_true rfl) rfl ⟨Nat.le_of_ble_eq_true rfl, Nat.le_of_ble_eq_true rfl⟩ t121 (fun v9 N9 h122 => ?_) (fun E9 N9 h122 => by cases h122)
              cases h122
              show G z mX12_sixpence (d + 3) 0 0 100 [some (.ref 54), some (.int x1), some (.int x2), none, some (.int (k_sixpence_64 (M.1 61) r107 (ix (r99 22)) (ix (r99 23)) x1 x2 x3 FU (nI 600)))] [.int (k_bounded (M.1 61) r107 (ix (r99 22)) x1 (k_sixpence_64 (M.1 61) r107 (ix (r99 22)) (ix (r99 23)) x1 x2 x3 FU (nI 600)))] (mrow (mrow (mrow M 54 r99) 55 r100) 72 r107) Q
              exact G.reti (by decide +kernel) rfl rfl (Nat.le_of_ble_eq_true rfl) (Nat.le_of_ble_eq_true rfl) ((by rw [hQ]; simp only [k_sixpence, g2, if_neg c8, if_neg c9, if_neg c37, if_neg c68, g97, if_neg c103, g105, if_neg c119, mrow_self]))
            · skip
              refine G.sl [(.iconst 0, 1, 0, 0, 0, nI 0), (.goto 10, 3, 100, 0, 0, 0)] [] (pc2 := 100) (ls2 := [some (.ref 54), some (.int x1), some (.int x2), none, some (.int (k_sixpence_64 (M.1 61) r107 (ix (r99 22)) (ix (r99 23)) x1 x2 x3 FU (nI 600)))]) (st2 := [.int (nI 0)]) (M2 := mrow (mrow (mrow M 54 r99) 55 r100) 72 r107) (Ps := []) (by decide +kernel) rfl rfl trivial ?_
              exact G.reti (by decide +kernel) rfl rfl (Nat.le_of_ble_eq_true rfl) (Nat.le_of_ble_eq_true rfl) ((by rw [hQ]; simp only [k_sixpence, g2, if_neg c8, if_neg c9, if_neg c37, if_neg c68, g97, if_neg c103, g105, if_pos c119, mrow_self]))
          · skip
            rw [if_pos c103] at hk
            refine G.sl [(.iconst 0, 1, 0, 0, 0, nI 0)] [] (pc2 := 54) (ls2 := [some (.ref 54), some (.int x1), some (.int x2), some (.int x3), none]) (st2 := [.int (nI 0)]) (M2 := mrow (mrow M 54 r99) 55 r100) (Ps := []) (by decide +kernel) rfl rfl trivial ?_
            refine G.mem (M' := mrow (mrow (mrow M 54 r99) 55 r100) 72 (M.1 72)) (((mrow_id (N := mrow (mrow M 54 r99) 55 r100) (c := 72) (f := M.1 72) (by first | rfl | (simp only [mput, mrow_same, mrow_hit, mrow_miss, mrow_sw, idr_eq, ne_eq, Nat.reduceEqDiff, not_false_eq_true, Nat.reduceLT, reduceCtorEq]; done))).symm).trans (by first | rfl | (simp only [mput, mrow_same, mrow_hit, mrow_miss, mrow_sw, idr_eq, ne_eq, Nat.reduceEqDiff, not_false_eq_true, Nat.reduceLT, reduceCtorEq]; done))) ?_
            exact G.reti (by decide +kernel) rfl rfl (Nat.le_of_ble_eq_true rfl) (Nat.le_of_ble_eq_true rfl) ((by rw [hQ]; simp only [k_sixpence, g2, if_neg c8, if_neg c9, if_neg c37, if_neg c68, g97, if_pos c103, mrow_self]))
set_option maxHeartbeats 4000000 in
set_option maxRecDepth 3000 in
theorem lp_k_greatest_54_26 (z : Zp) (d : Nat) (M : Mem) (Q : Rs → Prop) (x1 : Int32) (nt : Nat) (hnt : nt ≤ 10) (ct : M.1 54 22 = nI nt) (hk : ∀ i3, i3 < nt → k_greatest_26_ok (M.1 61) (M.1 71) x1 i3) (hX : G z mX12_greatest (d + 1) 0 0 83 [some (.ref 54), some (.int x1), some (.int (k_greatest_26 (M.1 61) (M.1 71) x1 nt)), none] [] M Q) : G z mX12_greatest (d + 1) 0 0 26 [some (.ref 54), some (.int x1), some (.int ((-1))), some (.int (nI 0))] [] M Q := by
  refine down (n := nt) (P := fun i3 => G z mX12_greatest (d + 1) 0 0 26 [some (.ref 54), some (.int x1), some (.int (k_greatest_26 (M.1 61) (M.1 71) x1 i3)), some (.int (nI i3))] [] M Q) ?_ ?_ 0 (Nat.zero_le _)
  · skip
    refine G.sl [(.iload_n 3, 1, 3, 0, 0, 0), (.aload_n 0, 1, 0, 0, 0, 0), (.getfield 162, 3, 11, 22, 145, 0)] [] (pc2 := 31) (ls2 := [some (.ref 54), some (.int x1), some (.int (k_greatest_26 (M.1 61) (M.1 71) x1 nt)), some (.int (nI nt))]) (st2 := [.int (M.1 54 22), .int (nI nt)]) (M2 := M) (Ps := []) (by decide +kernel) rfl rfl trivial ?_
    rw [ct]
    refine G.ic_ge (off := (52)) (tgt := 83) (by decide +kernel) rfl (fun _ => ?_) (fun h9 => absurd (nI_le (by omega) (by omega)) h9)
    refine G.loc (ls2 := [some (.ref 54), some (.int x1), some (.int (k_greatest_26 (M.1 61) (M.1 71) x1 nt)), none]) (by simp [subL]) ?_
    exact hX
  · skip
    intro i3 hi ih
    have hk := hk i3 hi
    simp only [k_greatest_26_ok] at hk
    show G z mX12_greatest (d + 1) 0 0 26 [some (.ref 54), some (.int x1), some (.int (k_greatest_26 (M.1 61) (M.1 71) x1 i3)), some (.int (nI i3))] [] M Q
    refine G.sl [(.iload_n 3, 1, 3, 0, 0, 0), (.aload_n 0, 1, 0, 0, 0, 0), (.getfield 162, 3, 11, 22, 145, 0)] [] (pc2 := 31) (ls2 := [some (.ref 54), some (.int x1), some (.int (k_greatest_26 (M.1 61) (M.1 71) x1 i3)), some (.int (nI i3))]) (st2 := [.int (M.1 54 22), .int (nI i3)]) (M2 := M) (Ps := []) (by decide +kernel) rfl rfl trivial ?_
    rw [ct]
    refine G.ic_ge (off := (52)) (tgt := 83) (by decide +kernel) rfl (fun h9 => absurd h9 (nI_ge (by omega) (by omega))) (fun _ => ?_)
    refine G.sl [(.aload_n 0, 1, 0, 0, 0, 0), (.getfield 65, 3, 11, 40, 163, 0), (.bipush 10, 2, 0, 0, 0, nI 10), (.iload_n 3, 1, 3, 0, 0, 0), (.iadd, 1, 0, 0, 0, 0), (.iaload, 1, 0, 0, 0, 0), (.iconst (-1), 1, 0, 0, 0, (-1))] [10 + i3] (pc2 := 44) (ls2 := [some (.ref 54), some (.int x1), some (.int (k_greatest_26 (M.1 61) (M.1 71) x1 i3)), some (.int (nI i3))]) (st2 := [.int ((-1)), .int (M.1 71 (10 + i3))]) (M2 := M) (Ps := [((nI 10) + (nI i3)) = nI (10 + i3) ∧ (10 + i3) < 51]) (by decide +kernel) rfl rfl ⟨⟨(nI_add _ _), (by omega)⟩, trivial⟩ ?_
    refine G.ic_ne (off := (33)) (tgt := 77) (by decide +kernel) rfl (fun c12 => ?_) (fun c12 => ?_)
    · skip
      rw [if_neg c12] at hk
      refine G.sl [(.iinc 3 1, 3, 3, 0, 0, nI 1), (.goto (-54), 3, 26, 0, 0, 0)] [] (pc2 := 26) (ls2 := [some (.ref 54), some (.int x1), some (.int (k_greatest_26 (M.1 61) (M.1 71) x1 i3)), some (.int ((nI i3) + nI 1))]) (st2 := []) (M2 := M) (Ps := []) (by decide +kernel) rfl rfl trivial ?_
      rw [nI_add i3 1]
      simp only [k_greatest_26, if_neg c12] at ih
      exact ih
    · skip
      rw [if_pos c12] at hk
      refine G.sl [(.iload_n 2, 1, 2, 0, 0, 0), (.iconst (-1), 1, 0, 0, 0, (-1))] [] (pc2 := 49) (ls2 := [some (.ref 54), some (.int x1), some (.int (k_greatest_26 (M.1 61) (M.1 71) x1 i3)), some (.int (nI i3))]) (st2 := [.int ((-1)), .int (k_greatest_26 (M.1 61) (M.1 71) x1 i3)]) (M2 := M) (Ps := []) (by decide +kernel) rfl rfl trivial ?_
      refine G.ic_eq (off := (26)) (tgt := 75) (by decide +kernel) rfl (fun c13 => ?_) (fun c13 => ?_)
      · skip
        rw [if_pos c13] at hk
        refine G.sl [(.iload_n 3, 1, 3, 0, 0, 0), (.istore_n 2, 1, 2, 0, 0, 0), (.iinc 3 1, 3, 3, 0, 0, nI 1), (.goto (-54), 3, 26, 0, 0, 0)] [] (pc2 := 26) (ls2 := [some (.ref 54), some (.int x1), some (.int (nI i3)), some (.int ((nI i3) + nI 1))]) (st2 := []) (M2 := M) (Ps := []) (by decide +kernel) rfl rfl trivial ?_
        rw [nI_add i3 1]
        simp only [k_greatest_26, if_pos c12, if_pos c13] at ih
        exact ih
      · skip
        rw [if_neg c13] at hk
        obtain ⟨k14, k15, hk⟩ := hk
        refine G.sl [(.aload_n 0, 1, 0, 0, 0, 0), (.getfield 35, 3, 11, 14, 137, 0), (.iconst 3, 1, 0, 0, 0, nI 3), (.iload_n 3, 1, 3, 0, 0, 0), (.imul, 1, 0, 0, 0, 0), (.iconst 2, 1, 0, 0, 0, nI 2), (.iadd, 1, 0, 0, 0, 0), (.iaload, 1, 0, 0, 0, 0), (.aload_n 0, 1, 0, 0, 0, 0), (.getfield 35, 3, 11, 14, 137, 0), (.iconst 3, 1, 0, 0, 0, nI 3), (.iload_n 2, 1, 2, 0, 0, 0), (.imul, 1, 0, 0, 0, 0), (.iconst 2, 1, 0, 0, 0, nI 2), (.iadd, 1, 0, 0, 0, 0), (.iaload, 1, 0, 0, 0, 0)] [(3 * i3) + 2, (3 * (ix (k_greatest_26 (M.1 61) (M.1 71) x1 i3))) + 2] (pc2 := 72) (ls2 := [some (.ref 54), some (.int x1), some (.int (k_greatest_26 (M.1 61) (M.1 71) x1 i3)), some (.int (nI i3))]) (st2 := [.int (M.1 61 ((3 * (ix (k_greatest_26 (M.1 61) (M.1 71) x1 i3))) + 2)), .int (M.1 61 ((3 * i3) + 2))]) (M2 := M) (Ps := [(((nI 3) * (nI i3)) + (nI 2)) = nI ((3 * i3) + 2) ∧ ((3 * i3) + 2) < 30, (((nI 3) * (k_greatest_26 (M.1 61) (M.1 71) x1 i3)) + (nI 2)) = nI ((3 * (ix (k_greatest_26 (M.1 61) (M.1 71) x1 i3))) + 2) ∧ ((3 * (ix (k_greatest_26 (M.1 61) (M.1 71) x1 i3))) + 2) < 30]) (by decide +kernel) rfl rfl ⟨⟨(nAdd (pk_mul _ _) rfl), (by omega)⟩, ⟨(nAdd (nMul rfl (ixE k14)) rfl), k15⟩, trivial⟩ ?_
        refine G.ic_le (off := (5)) (tgt := 77) (by decide +kernel) rfl (fun c16 => ?_) (fun c16 => ?_)
        · skip
          refine G.sl [(.iinc 3 1, 3, 3, 0, 0, nI 1), (.goto (-54), 3, 26, 0, 0, 0)] [] (pc2 := 26) (ls2 := [some (.ref 54), some (.int x1), some (.int (k_greatest_26 (M.1 61) (M.1 71) x1 i3)), some (.int ((nI i3) + nI 1))]) (st2 := []) (M2 := M) (Ps := []) (by decide +kernel) rfl rfl trivial ?_
          rw [nI_add i3 1]
          simp only [k_greatest_26, if_pos c12, if_neg c13, if_pos c16] at ih
          exact ih
        · skip
          refine G.sl [(.iload_n 3, 1, 3, 0, 0, 0), (.istore_n 2, 1, 2, 0, 0, 0), (.iinc 3 1, 3, 3, 0, 0, nI 1), (.goto (-54), 3, 26, 0, 0, 0)] [] (pc2 := 26) (ls2 := [some (.ref 54), some (.int x1), some (.int (nI i3)), some (.int ((nI i3) + nI 1))]) (st2 := []) (M2 := M) (Ps := []) (by decide +kernel) rfl rfl trivial ?_
          rw [nI_add i3 1]
          simp only [k_greatest_26, if_pos c12, if_neg c13, if_neg c16] at ih
          exact ih
set_option maxHeartbeats 4000000 in
set_option maxRecDepth 3000 in
theorem c_k_greatest_54 (z : Zp) (d : Nat) (M : Mem) (x1 : Int32) (hk : k_greatest_ok (M.1 54) (M.1 55) (M.1 61) (M.1 71) x1) : GM z mX12_greatest (d + 1) [.ref 54, .int x1] M (fun rs => rs = .inl (some (.int ((k_greatest (M.1 54) (M.1 55) (M.1 61) (M.1 71) x1).1)), mrow (mrow M 54 ((k_greatest (M.1 54) (M.1 55) (M.1 61) (M.1 71) x1).2.1)) 55 ((k_greatest (M.1 54) (M.1 55) (M.1 61) (M.1 71) x1).2.2))) := by
  simp only [k_greatest_ok] at hk
  refine GM.of oX12_greatest.1 (Nat.le_of_ble_eq_true rfl) ?_
  show G z mX12_greatest (d + 1) 0 0 0 [some (.ref 54), some (.int x1), none, none] [] M _
  obtain ⟨Q, hQ⟩ : ∃ Q : Rs → Prop, Q = (fun rs => rs = .inl (some (.int ((k_greatest (M.1 54) (M.1 55) (M.1 61) (M.1 71) x1).1)), mrow (mrow M 54 ((k_greatest (M.1 54) (M.1 55) (M.1 61) (M.1 71) x1).2.1)) 55 ((k_greatest (M.1 54) (M.1 55) (M.1 61) (M.1 71) x1).2.2))) := ⟨_, rfl⟩
  rw [← hQ]
  refine G.sl [(.aload_n 0, 1, 0, 0, 0, 0), (.iconst 0, 1, 0, 0, 0, nI 0), (.putfield 3, 3, 11, 0, 123, 0), (.aload_n 0, 1, 0, 0, 0, 0), (.iload_n 1, 1, 1, 0, 0, 0), (.iconst 0, 1, 0, 0, 0, nI 0), (.iconst 1, 1, 0, 0, 0, nI 1)] [] (pc2 := 9) (ls2 := [some (.ref 54), some (.int x1), none, none]) (st2 := [.int (nI 1), .int (nI 0), .int x1, .ref 54]) (M2 := mput M 54 0 (nI 0)) (Ps := []) (by decide +kernel) rfl rfl trivial ?_
  refine G.mem (M' := mrow M 54 (upd (M.1 54) 0 (nI 0))) (by first | rfl | (simp only [mput, mrow_same, mrow_hit, mrow_miss, mrow_sw, idr_eq, ne_eq, Nat.reduceEqDiff, not_false_eq_true, Nat.reduceLT, reduceCtorEq]; done)) ?_
  obtain ⟨k1, hk⟩ := hk
  have t2 : GM z mX12_within (d) [.int x1, .int (nI 0), .int (nI 1)] (mrow M 54 (upd (M.1 54) 0 (nI 0))) (fun rs => rs = .inl (some (.int (k_within x1 (nI 0) (nI 1))), mrow M 54 (upd (M.1 54) 0 (nI 0)))) := by
    have q9 := c_k_within z d (mrow M 54 (upd (M.1 54) 0 (nI 0))) x1 (nI 0) (nI 1)
    try simp only [mput, mrow_same, mrow_hit, mrow_miss, mrow_sw, idr_eq, ne_eq, Nat.reduceEqDiff, not_false_eq_true, Nat.reduceLT, reduceCtorEq] at q9
    exact q9
  refine G.callS (as := [.int x1, .int (nI 0), .int (nI 1)]) (rest := [.ref 54]) oX12_within lk_EvenFindersModel_379 (by decide +kernel) rfl (Nat.le_of_ble_eq_true rfl) rfl ⟨Nat.le_of_ble_eq_true rfl, Nat.le_of_ble_eq_true rfl⟩ t2 (fun v9 N9 h3 => ?_) (fun E9 N9 h3 => by cases h3)
  cases h3
  show G z mX12_greatest (d + 1) 0 0 12 [some (.ref 54), some (.int x1), none, none] [.int (k_within x1 (nI 0) (nI 1)), .ref 54] (mrow M 54 (upd (M.1 54) 0 (nI 0))) Q
  refine G.sl [(.iconst 1, 1, 0, 0, 0, nI 1), (.iconst 1, 1, 0, 0, 0, nI 1)] [] (pc2 := 14) (ls2 := [some (.ref 54), some (.int x1), none, none]) (st2 := [.int (nI 1), .int (nI 1), .int (k_within x1 (nI 0) (nI 1)), .ref 54]) (M2 := mrow M 54 (upd (M.1 54) 0 (nI 0))) (Ps := []) (by decide +kernel) rfl rfl trivial ?_
  obtain ⟨k4, hk⟩ := hk
  rcases g5 : k_may_1 (upd (M.1 54) 0 (nI 0)) (M.1 55) (k_within x1 (nI 0) (nI 1)) (nI 1) with ⟨v6, r7, r8⟩
  try simp only [g5] at hk
  have ev6 : v6 = 0 ∨ v6 = 1 := by
    have q9 := k_may_1_01 (upd (M.1 54) 0 (nI 0)) (M.1 55) (k_within x1 (nI 0) (nI 1)) (nI 1)
    rw [g5] at q9
    exact q9
  have t9 : GM z mX12_may (d) [.ref 54, .int (k_within x1 (nI 0) (nI 1)), .int (nI 1), .int (nI 1)] (mrow M 54 (upd (M.1 54) 0 (nI 0))) (fun rs => rs = .inl (some (.int v6), mrow (mrow M 54 r7) 55 r8)) := by
    have q9 := c_k_may_1_54 z d (mrow M 54 (upd (M.1 54) 0 (nI 0))) (k_within x1 (nI 0) (nI 1)) (nI 1)
    try simp only [mput, mrow_same, mrow_hit, mrow_miss, mrow_sw, idr_eq, ne_eq, Nat.reduceEqDiff, not_false_eq_true, Nat.reduceLT, reduceCtorEq, g5] at q9
    exact q9
  refine G.callV (as := [.int (k_within x1 (nI 0) (nI 1)), .int (nI 1), .int (nI 1)]) (rest := []) (a := 54) oX12_may lk_EvenFindersModel_213 (by decide +kernel) rfl rfl ⟨rfl, rfl⟩ (Nat.le_of_ble_eq_true rfl) rfl ⟨Nat.le_of_ble_eq_true rfl, Nat.le_of_ble_eq_true rfl⟩ t9 (fun v9 N9 h10 => ?_) (fun E9 N9 h10 => by cases h10)
  cases h10
  show G z mX12_greatest (d + 1) 0 0 17 [some (.ref 54), some (.int x1), none, none] [.int v6] (mrow (mrow M 54 r7) 55 r8) Q
  refine G.if_ne (off := (5)) (tgt := 22) (by decide +kernel) rfl (fun c11 => ?_) (fun c11 => ?_)
  · skip
    rw [if_neg c11] at hk
    refine G.sl [(.iconst (-1), 1, 0, 0, 0, (-1)), (.istore_n 2, 1, 2, 0, 0, 0), (.iconst 0, 1, 0, 0, 0, nI 0), (.istore_n 3, 1, 3, 0, 0, 0)] [] (pc2 := 26) (ls2 := [some (.ref 54), some (.int x1), some (.int ((-1))), some (.int (nI 0))]) (st2 := []) (M2 := mrow (mrow M 54 r7) 55 r8) (Ps := []) (by decide +kernel) rfl rfl trivial ?_
    obtain ⟨k17, k18, hk⟩ := hk
    obtain ⟨k19, hk⟩ := hk
    refine lp_k_greatest_54_26 z d (mrow (mrow M 54 r7) 55 r8) Q x1 (ix (r7 22)) k18 (ixE k17) (by first | (simp only [mput, mrow_same, mrow_hit, mrow_miss, mrow_sw, idr_eq, ne_eq, Nat.reduceEqDiff, not_false_eq_true, Nat.reduceLT, reduceCtorEq]; exact k19) | exact k19) ?_
    show G z mX12_greatest (d + 1) 0 0 83 [some (.ref 54), some (.int x1), some (.int (k_greatest_26 (M.1 61) (M.1 71) x1 (ix (r7 22)))), none] [] (mrow (mrow M 54 r7) 55 r8) Q
    refine G.sl [(.iload_n 1, 1, 1, 0, 0, 0)] [] (pc2 := 84) (ls2 := [some (.ref 54), some (.int x1), some (.int (k_greatest_26 (M.1 61) (M.1 71) x1 (ix (r7 22)))), none]) (st2 := [.int x1]) (M2 := mrow (mrow M 54 r7) 55 r8) (Ps := []) (by decide +kernel) rfl rfl trivial ?_
    refine G.if_eq (off := (8)) (tgt := 92) (by decide +kernel) rfl (fun c20 => ?_) (fun c20 => ?_)
    · skip
      rw [if_pos c20] at hk
      refine G.sl [(.iload_n 2, 1, 2, 0, 0, 0), (.goto 13, 3, 106, 0, 0, 0)] [] (pc2 := 106) (ls2 := [some (.ref 54), some (.int x1), some (.int (k_greatest_26 (M.1 61) (M.1 71) x1 (ix (r7 22)))), none]) (st2 := [.int (k_greatest_26 (M.1 61) (M.1 71) x1 (ix (r7 22)))]) (M2 := mrow (mrow M 54 r7) 55 r8) (Ps := []) (by decide +kernel) rfl rfl trivial ?_
      exact G.reti (by decide +kernel) rfl rfl (Nat.le_of_ble_eq_true rfl) (Nat.le_of_ble_eq_true rfl) ((by rw [hQ]; simp only [k_greatest, g5, if_neg c11, if_pos c20, mrow_self]))
    · skip
      rw [if_neg c20] at hk
      refine G.sl [(.iload_n 2, 1, 2, 0, 0, 0), (.iconst (-1), 1, 0, 0, 0, (-1))] [] (pc2 := 89) (ls2 := [some (.ref 54), some (.int x1), some (.int (k_greatest_26 (M.1 61) (M.1 71) x1 (ix (r7 22)))), none]) (st2 := [.int ((-1)), .int (k_greatest_26 (M.1 61) (M.1 71) x1 (ix (r7 22)))]) (M2 := mrow (mrow M 54 r7) 55 r8) (Ps := []) (by decide +kernel) rfl rfl trivial ?_
      refine G.ic_ne (off := (7)) (tgt := 96) (by decide +kernel) rfl (fun c21 => ?_) (fun c21 => ?_)
      · skip
        rw [if_neg c21] at hk
        obtain ⟨k22, k23, hk⟩ := hk
        refine G.sl [(.aload_n 0, 1, 0, 0, 0, 0), (.getfield 35, 3, 11, 14, 137, 0), (.iconst 3, 1, 0, 0, 0, nI 3), (.iload_n 2, 1, 2, 0, 0, 0), (.imul, 1, 0, 0, 0, 0), (.iconst 2, 1, 0, 0, 0, nI 2), (.iadd, 1, 0, 0, 0, 0), (.iaload, 1, 0, 0, 0, 0)] [(3 * (ix (k_greatest_26 (M.1 61) (M.1 71) x1 (ix (r7 22))))) + 2] (pc2 := 106) (ls2 := [some (.ref 54), some (.int x1), some (.int (k_greatest_26 (M.1 61) (M.1 71) x1 (ix (r7 22)))), none]) (st2 := [.int (M.1 61 ((3 * (ix (k_greatest_26 (M.1 61) (M.1 71) x1 (ix (r7 22))))) + 2))]) (M2 := mrow (mrow M 54 r7) 55 r8) (Ps := [(((nI 3) * (k_greatest_26 (M.1 61) (M.1 71) x1 (ix (r7 22)))) + (nI 2)) = nI ((3 * (ix (k_greatest_26 (M.1 61) (M.1 71) x1 (ix (r7 22))))) + 2) ∧ ((3 * (ix (k_greatest_26 (M.1 61) (M.1 71) x1 (ix (r7 22))))) + 2) < 30]) (by decide +kernel) rfl rfl ⟨⟨(nAdd (nMul rfl (ixE k22)) rfl), k23⟩, trivial⟩ ?_
        exact G.reti (by decide +kernel) rfl rfl (Nat.le_of_ble_eq_true rfl) (Nat.le_of_ble_eq_true rfl) ((by rw [hQ]; simp only [k_greatest, g5, if_neg c11, if_neg c20, if_neg c21, mrow_self]))
      · skip
        rw [if_pos c21] at hk
        refine G.sl [(.iload_n 2, 1, 2, 0, 0, 0), (.goto 13, 3, 106, 0, 0, 0)] [] (pc2 := 106) (ls2 := [some (.ref 54), some (.int x1), some (.int (k_greatest_26 (M.1 61) (M.1 71) x1 (ix (r7 22)))), none]) (st2 := [.int (k_greatest_26 (M.1 61) (M.1 71) x1 (ix (r7 22)))]) (M2 := mrow (mrow M 54 r7) 55 r8) (Ps := []) (by decide +kernel) rfl rfl trivial ?_
        exact G.reti (by decide +kernel) rfl rfl (Nat.le_of_ble_eq_true rfl) (Nat.le_of_ble_eq_true rfl) ((by rw [hQ]; simp only [k_greatest, g5, if_neg c11, if_neg c20, if_pos c21, mrow_self]))
  · skip
    rw [if_pos c11] at hk
    refine G.sl [(.iconst 0, 1, 0, 0, 0, nI 0)] [] (pc2 := 21) (ls2 := [some (.ref 54), some (.int x1), none, none]) (st2 := [.int (nI 0)]) (M2 := mrow (mrow M 54 r7) 55 r8) (Ps := []) (by decide +kernel) rfl rfl trivial ?_
    exact G.reti (by decide +kernel) rfl rfl (Nat.le_of_ble_eq_true rfl) (Nat.le_of_ble_eq_true rfl) ((by rw [hQ]; simp only [k_greatest, g5, if_pos c11, mrow_self]))
set_option maxHeartbeats 4000000 in
set_option maxRecDepth 3000 in
theorem lp_k_deepest_54_26 (z : Zp) (d : Nat) (M : Mem) (Q : Rs → Prop) (x1 : Int32) (nf : Nat) (hnf : nf ≤ 6) (cf : M.1 54 23 = nI nf) (hk : ∀ i3, i3 < nf → k_deepest_26_ok (M.1 71) x1 i3) (hX : G z mX12_deepest (d + 1) 0 0 68 [some (.ref 54), some (.int x1), some (.int (k_deepest_26 (M.1 71) x1 nf)), none] [] M Q) : G z mX12_deepest (d + 1) 0 0 26 [some (.ref 54), some (.int x1), some (.int ((-1))), some (.int (nI 0))] [] M Q := by
  refine down (n := nf) (P := fun i3 => G z mX12_deepest (d + 1) 0 0 26 [some (.ref 54), some (.int x1), some (.int (k_deepest_26 (M.1 71) x1 i3)), some (.int (nI i3))] [] M Q) ?_ ?_ 0 (Nat.zero_le _)
  · skip
    refine G.sl [(.iload_n 3, 1, 3, 0, 0, 0), (.aload_n 0, 1, 0, 0, 0, 0), (.getfield 165, 3, 11, 23, 146, 0)] [] (pc2 := 31) (ls2 := [some (.ref 54), some (.int x1), some (.int (k_deepest_26 (M.1 71) x1 nf)), some (.int (nI nf))]) (st2 := [.int (M.1 54 23), .int (nI nf)]) (M2 := M) (Ps := []) (by decide +kernel) rfl rfl trivial ?_
    rw [cf]
    refine G.ic_ge (off := (37)) (tgt := 68) (by decide +kernel) rfl (fun _ => ?_) (fun h9 => absurd (nI_le (by omega) (by omega)) h9)
    refine G.loc (ls2 := [some (.ref 54), some (.int x1), some (.int (k_deepest_26 (M.1 71) x1 nf)), none]) (by simp [subL]) ?_
    exact hX
  · skip
    intro i3 hi ih
    have hk := hk i3 hi
    simp only [k_deepest_26_ok] at hk
    show G z mX12_deepest (d + 1) 0 0 26 [some (.ref 54), some (.int x1), some (.int (k_deepest_26 (M.1 71) x1 i3)), some (.int (nI i3))] [] M Q
    refine G.sl [(.iload_n 3, 1, 3, 0, 0, 0), (.aload_n 0, 1, 0, 0, 0, 0), (.getfield 165, 3, 11, 23, 146, 0)] [] (pc2 := 31) (ls2 := [some (.ref 54), some (.int x1), some (.int (k_deepest_26 (M.1 71) x1 i3)), some (.int (nI i3))]) (st2 := [.int (M.1 54 23), .int (nI i3)]) (M2 := M) (Ps := []) (by decide +kernel) rfl rfl trivial ?_
    rw [cf]
    refine G.ic_ge (off := (37)) (tgt := 68) (by decide +kernel) rfl (fun h9 => absurd h9 (nI_ge (by omega) (by omega))) (fun _ => ?_)
    refine G.sl [(.iload_n 2, 1, 2, 0, 0, 0), (.iconst (-1), 1, 0, 0, 0, (-1))] [] (pc2 := 36) (ls2 := [some (.ref 54), some (.int x1), some (.int (k_deepest_26 (M.1 71) x1 i3)), some (.int (nI i3))]) (st2 := [.int ((-1)), .int (k_deepest_26 (M.1 71) x1 i3)]) (M2 := M) (Ps := []) (by decide +kernel) rfl rfl trivial ?_
    refine G.ic_eq (off := (24)) (tgt := 60) (by decide +kernel) rfl (fun c12 => ?_) (fun c12 => ?_)
    · skip
      rw [if_pos c12] at hk
      refine G.sl [(.iload_n 3, 1, 3, 0, 0, 0), (.istore_n 2, 1, 2, 0, 0, 0), (.iinc 3 1, 3, 3, 0, 0, nI 1), (.goto (-39), 3, 26, 0, 0, 0)] [] (pc2 := 26) (ls2 := [some (.ref 54), some (.int x1), some (.int (nI i3)), some (.int ((nI i3) + nI 1))]) (st2 := []) (M2 := M) (Ps := []) (by decide +kernel) rfl rfl trivial ?_
      rw [nI_add i3 1]
      simp only [k_deepest_26, if_pos c12] at ih
      exact ih
    · skip
      rw [if_neg c12] at hk
      obtain ⟨k13, k14, hk⟩ := hk
      refine G.sl [(.aload_n 0, 1, 0, 0, 0, 0), (.getfield 65, 3, 11, 40, 163, 0), (.bipush 26, 2, 0, 0, 0, nI 26), (.iload_n 3, 1, 3, 0, 0, 0), (.iadd, 1, 0, 0, 0, 0), (.iaload, 1, 0, 0, 0, 0), (.aload_n 0, 1, 0, 0, 0, 0), (.getfield 65, 3, 11, 40, 163, 0), (.bipush 26, 2, 0, 0, 0, nI 26), (.iload_n 2, 1, 2, 0, 0, 0), (.iadd, 1, 0, 0, 0, 0), (.iaload, 1, 0, 0, 0, 0)] [26 + i3, 26 + (ix (k_deepest_26 (M.1 71) x1 i3))] (pc2 := 57) (ls2 := [some (.ref 54), some (.int x1), some (.int (k_deepest_26 (M.1 71) x1 i3)), some (.int (nI i3))]) (st2 := [.int (M.1 71 (26 + (ix (k_deepest_26 (M.1 71) x1 i3)))), .int (M.1 71 (26 + i3))]) (M2 := M) (Ps := [((nI 26) + (nI i3)) = nI (26 + i3) ∧ (26 + i3) < 51, ((nI 26) + (k_deepest_26 (M.1 71) x1 i3)) = nI (26 + (ix (k_deepest_26 (M.1 71) x1 i3))) ∧ (26 + (ix (k_deepest_26 (M.1 71) x1 i3))) < 51]) (by decide +kernel) rfl rfl ⟨⟨(nI_add _ _), (by omega)⟩, ⟨(nAdd rfl (ixE k13)), k14⟩, trivial⟩ ?_
      refine G.ic_le (off := (5)) (tgt := 62) (by decide +kernel) rfl (fun c15 => ?_) (fun c15 => ?_)
      · skip
        refine G.sl [(.iinc 3 1, 3, 3, 0, 0, nI 1), (.goto (-39), 3, 26, 0, 0, 0)] [] (pc2 := 26) (ls2 := [some (.ref 54), some (.int x1), some (.int (k_deepest_26 (M.1 71) x1 i3)), some (.int ((nI i3) + nI 1))]) (st2 := []) (M2 := M) (Ps := []) (by decide +kernel) rfl rfl trivial ?_
        rw [nI_add i3 1]
        simp only [k_deepest_26, if_neg c12, if_pos c15] at ih
        exact ih
      · skip
        refine G.sl [(.iload_n 3, 1, 3, 0, 0, 0), (.istore_n 2, 1, 2, 0, 0, 0), (.iinc 3 1, 3, 3, 0, 0, nI 1), (.goto (-39), 3, 26, 0, 0, 0)] [] (pc2 := 26) (ls2 := [some (.ref 54), some (.int x1), some (.int (nI i3)), some (.int ((nI i3) + nI 1))]) (st2 := []) (M2 := M) (Ps := []) (by decide +kernel) rfl rfl trivial ?_
        rw [nI_add i3 1]
        simp only [k_deepest_26, if_neg c12, if_neg c15] at ih
        exact ih
