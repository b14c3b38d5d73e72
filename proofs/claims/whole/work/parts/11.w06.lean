set_option maxHeartbeats 4000000 in
set_option maxRecDepth 3000 in
theorem c_o_has (z : Zp) (d : Nat) (M : Mem) (x0 : Int32) (x1 : Int32) (x2 : Int32) (x3 : Int32) : GM z mX4_has (d) [.int x0, .int x1, .int x2, .int x3] M (fun rs => rs = .inl (some (.int (o_has x0 x1 x2 x3)), M)) := by
  refine GM.of oX4_has.1 (Nat.le_of_ble_eq_true rfl) ?_
  show G z mX4_has (d) 0 0 0 [some (.int x0), some (.int x1), some (.int x2), some (.int x3)] [] M _
  obtain ⟨Q, hQ⟩ : ∃ Q : Rs → Prop, Q = (fun rs => rs = .inl (some (.int (o_has x0 x1 x2 x3)), M)) := ⟨_, rfl⟩
  rw [← hQ]
  refine G.sl [(.iload_n 0, 1, 0, 0, 0, 0), (.iconst 1, 1, 0, 0, 0, nI 1)] [] (pc2 := 2) (ls2 := [some (.int x0), some (.int x1), some (.int x2), some (.int x3)]) (st2 := [.int (nI 1), .int x0]) (M2 := M) (Ps := []) (by decide +kernel) rfl rfl trivial ?_
  refine G.ic_ne (off := (5)) (tgt := 7) (by decide +kernel) rfl (fun c1 => ?_) (fun c1 => ?_)
  · skip
    refine G.sl [(.iload_n 1, 1, 1, 0, 0, 0)] [] (pc2 := 8) (ls2 := [some (.int x0), some (.int x1), some (.int x2), some (.int x3)]) (st2 := [.int x1]) (M2 := M) (Ps := []) (by decide +kernel) rfl rfl trivial ?_
    refine G.if_ne (off := (8)) (tgt := 16) (by decide +kernel) rfl (fun c2 => ?_) (fun c2 => ?_)
    · skip
      refine G.sl [(.iload_n 2, 1, 2, 0, 0, 0), (.iload_n 3, 1, 3, 0, 0, 0), (.isub, 1, 0, 0, 0, 0)] [] (pc2 := 19) (ls2 := [some (.int x0), some (.int x1), some (.int x2), some (.int x3)]) (st2 := [.int (x2 - x3)]) (M2 := M) (Ps := []) (by decide +kernel) rfl rfl trivial ?_
      exact G.reti (by decide +kernel) rfl rfl (Nat.le_of_ble_eq_true rfl) (Nat.le_of_ble_eq_true rfl) ((by rw [hQ]; simp only [o_has, if_neg c1, if_neg c2, mrow_self]))
    · skip
      refine G.sl [(.iload_n 3, 1, 3, 0, 0, 0), (.ineg, 1, 0, 0, 0, 0), (.goto 6, 3, 19, 0, 0, 0)] [] (pc2 := 19) (ls2 := [some (.int x0), some (.int x1), some (.int x2), some (.int x3)]) (st2 := [.int (-x3)]) (M2 := M) (Ps := []) (by decide +kernel) rfl rfl trivial ?_
      exact G.reti (by decide +kernel) rfl rfl (Nat.le_of_ble_eq_true rfl) (Nat.le_of_ble_eq_true rfl) ((by rw [hQ]; simp only [o_has, if_neg c1, if_pos c2, mrow_self]))
  · skip
    refine G.sl [(.iconst 0, 1, 0, 0, 0, nI 0)] [] (pc2 := 6) (ls2 := [some (.int x0), some (.int x1), some (.int x2), some (.int x3)]) (st2 := [.int (nI 0)]) (M2 := M) (Ps := []) (by decide +kernel) rfl rfl trivial ?_
    exact G.reti (by decide +kernel) rfl rfl (Nat.le_of_ble_eq_true rfl) (Nat.le_of_ble_eq_true rfl) ((by rw [hQ]; simp only [o_has, if_pos c1, mrow_self]))
theorem o_isRest_01 (x0 : Int32) (x1 : Int32) (x2 : Int32) : o_isRest x0 x1 x2 = 0 ∨ o_isRest x0 x1 x2 = 1 := by
  unfold o_isRest
  repeat' split
  all_goals first | exact Or.inl rfl | exact Or.inr rfl
set_option maxHeartbeats 4000000 in
set_option maxRecDepth 3000 in
theorem c_o_isRest (z : Zp) (d : Nat) (M : Mem) (x0 : Int32) (x1 : Int32) (x2 : Int32) : GM z mX4_isRest (d + 1) [.int x0, .int x1, .int x2] M (fun rs => rs = .inl (some (.int (o_isRest x0 x1 x2)), M)) := by
  refine GM.of oX4_isRest.1 (Nat.le_of_ble_eq_true rfl) ?_
  show G z mX4_isRest (d + 1) 0 0 0 [some (.int x0), some (.int x1), some (.int x2), none, none] [] M _
  obtain ⟨Q, hQ⟩ : ∃ Q : Rs → Prop, Q = (fun rs => rs = .inl (some (.int (o_isRest x0 x1 x2)), M)) := ⟨_, rfl⟩
  rw [← hQ]
  refine G.sl [(.iload_n 0, 1, 0, 0, 0, 0), (.bipush 10, 2, 0, 0, 0, nI 10), (.idiv, 1, 0, 0, 0, 0), (.istore_n 3, 1, 3, 0, 0, 0), (.iload_n 0, 1, 0, 0, 0, 0), (.bipush 10, 2, 0, 0, 0, nI 10), (.irem, 1, 0, 0, 0, 0), (.istore 4, 2, 4, 0, 0, 0), (.iload_n 3, 1, 3, 0, 0, 0), (.iload 4, 2, 4, 0, 0, 0), (.iload_n 1, 1, 1, 0, 0, 0), (.iload_n 2, 1, 2, 0, 0, 0)] [] (pc2 := 16) (ls2 := [some (.int x0), some (.int x1), some (.int x2), some (.int (x0 / (nI 10))), some (.int (x0 - x0 / (nI 10) * (nI 10)))]) (st2 := [.int x2, .int x1, .int (x0 - x0 / (nI 10) * (nI 10)), .int (x0 / (nI 10))]) (M2 := M) (Ps := [¬ (nI 10) = 0, ¬ (nI 10) = 0]) (by decide +kernel) rfl rfl ⟨(by decide), (by decide), trivial⟩ ?_
  have t2 : GM z mX4_has (d) [.int (x0 / (nI 10)), .int (x0 - x0 / (nI 10) * (nI 10)), .int x1, .int x2] M (fun rs => rs = .inl (some (.int (o_has (x0 / (nI 10)) (x0 - x0 / (nI 10) * (nI 10)) x1 x2)), M)) := by
    have q9 := c_o_has z d M (x0 / (nI 10)) (x0 - x0 / (nI 10) * (nI 10)) x1 x2
    try simp only [mput, mrow_same, mrow_hit, mrow_miss, mrow_sw, idr_eq, ne_eq, Nat.reduceEqDiff, not_false_eq_true, Nat.reduceLT, reduceCtorEq] at q9
    exact q9
  refine G.callS (as := [.int (x0 / (nI 10)), .int (x0 - x0 / (nI 10) * (nI 10)), .int x1, .int x2]) (rest := []) oX4_has lk_EvenFinders_Odds_19 (by decide +kernel) rfl (Nat.le_of_ble_eq_true rfl) rfl ⟨Nat.le_of_ble_eq_true rfl, Nat.le_of_ble_eq_true rfl⟩ t2 (fun v9 N9 h3 => ?_) (fun E9 N9 h3 => by cases h3)
  cases h3
  show G z mX4_isRest (d + 1) 0 0 19 [some (.int x0), some (.int x1), some (.int x2), some (.int (x0 / (nI 10))), some (.int (x0 - x0 / (nI 10) * (nI 10)))] [.int (o_has (x0 / (nI 10)) (x0 - x0 / (nI 10) * (nI 10)) x1 x2)] M Q
  refine G.sl [(.iconst 1, 1, 0, 0, 0, nI 1), (.iload_n 3, 1, 3, 0, 0, 0), (.isub, 1, 0, 0, 0, 0), (.iload 4, 2, 4, 0, 0, 0), (.iload_n 1, 1, 1, 0, 0, 0), (.iload_n 2, 1, 2, 0, 0, 0)] [] (pc2 := 26) (ls2 := [some (.int x0), some (.int x1), some (.int x2), some (.int (x0 / (nI 10))), some (.int (x0 - x0 / (nI 10) * (nI 10)))]) (st2 := [.int x2, .int x1, .int (x0 - x0 / (nI 10) * (nI 10)), .int ((nI 1) - (x0 / (nI 10))), .int (o_has (x0 / (nI 10)) (x0 - x0 / (nI 10) * (nI 10)) x1 x2)]) (M2 := M) (Ps := []) (by decide +kernel) rfl rfl trivial ?_
  have t5 : GM z mX4_has (d) [.int ((nI 1) - (x0 / (nI 10))), .int (x0 - x0 / (nI 10) * (nI 10)), .int x1, .int x2] M (fun rs => rs = .inl (some (.int (o_has ((nI 1) - (x0 / (nI 10))) (x0 - x0 / (nI 10) * (nI 10)) x1 x2)), M)) := by
    have q9 := c_o_has z d M ((nI 1) - (x0 / (nI 10))) (x0 - x0 / (nI 10) * (nI 10)) x1 x2
    try simp only [mput, mrow_same, mrow_hit, mrow_miss, mrow_sw, idr_eq, ne_eq, Nat.reduceEqDiff, not_false_eq_true, Nat.reduceLT, reduceCtorEq] at q9
    exact q9
  refine G.callS (as := [.int ((nI 1) - (x0 / (nI 10))), .int (x0 - x0 / (nI 10) * (nI 10)), .int x1, .int x2]) (rest := [.int (o_has (x0 / (nI 10)) (x0 - x0 / (nI 10) * (nI 10)) x1 x2)]) oX4_has lk_EvenFinders_Odds_19 (by decide +kernel) rfl (Nat.le_of_ble_eq_true rfl) rfl ⟨Nat.le_of_ble_eq_true rfl, Nat.le_of_ble_eq_true rfl⟩ t5 (fun v9 N9 h6 => ?_) (fun E9 N9 h6 => by cases h6)
  cases h6
  show G z mX4_isRest (d + 1) 0 0 29 [some (.int x0), some (.int x1), some (.int x2), some (.int (x0 / (nI 10))), some (.int (x0 - x0 / (nI 10) * (nI 10)))] [.int (o_has ((nI 1) - (x0 / (nI 10))) (x0 - x0 / (nI 10) * (nI 10)) x1 x2), .int (o_has (x0 / (nI 10)) (x0 - x0 / (nI 10) * (nI 10)) x1 x2)] M Q
  refine G.ic_lt (off := (28)) (tgt := 57) (by decide +kernel) rfl (fun c7 => ?_) (fun c7 => ?_)
  · skip
    refine G.sl [(.iconst 0, 1, 0, 0, 0, nI 0)] [] (pc2 := 58) (ls2 := [some (.int x0), some (.int x1), some (.int x2), some (.int (x0 / (nI 10))), some (.int (x0 - x0 / (nI 10) * (nI 10)))]) (st2 := [.int (nI 0)]) (M2 := M) (Ps := []) (by decide +kernel) rfl rfl trivial ?_
    exact G.reti (by decide +kernel) rfl rfl (Nat.le_of_ble_eq_true rfl) (Nat.le_of_ble_eq_true rfl) ((by rw [hQ]; simp only [o_isRest, if_pos c7, mrow_self]))
  · skip
    refine G.sl [(.iload 4, 2, 4, 0, 0, 0), (.iload_n 3, 1, 3, 0, 0, 0), (.iload_n 1, 1, 1, 0, 0, 0), (.iload_n 2, 1, 2, 0, 0, 0)] [] (pc2 := 37) (ls2 := [some (.int x0), some (.int x1), some (.int x2), some (.int (x0 / (nI 10))), some (.int (x0 - x0 / (nI 10) * (nI 10)))]) (st2 := [.int x2, .int x1, .int (x0 / (nI 10)), .int (x0 - x0 / (nI 10) * (nI 10))]) (M2 := M) (Ps := []) (by decide +kernel) rfl rfl trivial ?_
    have t9 : GM z mX4_has (d) [.int (x0 - x0 / (nI 10) * (nI 10)), .int (x0 / (nI 10)), .int x1, .int x2] M (fun rs => rs = .inl (some (.int (o_has (x0 - x0 / (nI 10) * (nI 10)) (x0 / (nI 10)) x1 x2)), M)) := by
      have q9 := c_o_has z d M (x0 - x0 / (nI 10) * (nI 10)) (x0 / (nI 10)) x1 x2
      try simp only [mput, mrow_same, mrow_hit, mrow_miss, mrow_sw, idr_eq, ne_eq, Nat.reduceEqDiff, not_false_eq_true, Nat.reduceLT, reduceCtorEq] at q9
      exact q9
    refine G.callS (as := [.int (x0 - x0 / (nI 10) * (nI 10)), .int (x0 / (nI 10)), .int x1, .int x2]) (rest := []) oX4_has lk_EvenFinders_Odds_19 (by decide +kernel) rfl (Nat.le_of_ble_eq_true rfl) rfl ⟨Nat.le_of_ble_eq_true rfl, Nat.le_of_ble_eq_true rfl⟩ t9 (fun v9 N9 h10 => ?_) (fun E9 N9 h10 => by cases h10)
    cases h10
    show G z mX4_isRest (d + 1) 0 0 40 [some (.int x0), some (.int x1), some (.int x2), some (.int (x0 / (nI 10))), some (.int (x0 - x0 / (nI 10) * (nI 10)))] [.int (o_has (x0 - x0 / (nI 10) * (nI 10)) (x0 / (nI 10)) x1 x2)] M Q
    refine G.sl [(.iconst 1, 1, 0, 0, 0, nI 1), (.iload 4, 2, 4, 0, 0, 0), (.isub, 1, 0, 0, 0, 0), (.iload_n 3, 1, 3, 0, 0, 0), (.iload_n 1, 1, 1, 0, 0, 0), (.iload_n 2, 1, 2, 0, 0, 0)] [] (pc2 := 47) (ls2 := [some (.int x0), some (.int x1), some (.int x2), some (.int (x0 / (nI 10))), some (.int (x0 - x0 / (nI 10) * (nI 10)))]) (st2 := [.int x2, .int x1, .int (x0 / (nI 10)), .int ((nI 1) - (x0 - x0 / (nI 10) * (nI 10))), .int (o_has (x0 - x0 / (nI 10) * (nI 10)) (x0 / (nI 10)) x1 x2)]) (M2 := M) (Ps := []) (by decide +kernel) rfl rfl trivial ?_
    have t12 : GM z mX4_has (d) [.int ((nI 1) - (x0 - x0 / (nI 10) * (nI 10))), .int (x0 / (nI 10)), .int x1, .int x2] M (fun rs => rs = .inl (some (.int (o_has ((nI 1) - (x0 - x0 / (nI 10) * (nI 10))) (x0 / (nI 10)) x1 x2)), M)) := by
      have q9 := c_o_has z d M ((nI 1) - (x0 - x0 / (nI 10) * (nI 10))) (x0 / (nI 10)) x1 x2
      try simp only [mput, mrow_same, mrow_hit, mrow_miss, mrow_sw, idr_eq, ne_eq, Nat.reduceEqDiff, not_false_eq_true, Nat.reduceLT, reduceCtorEq] at q9
      exact q9
    refine G.callS (as := [.int ((nI 1) - (x0 - x0 / (nI 10) * (nI 10))), .int (x0 / (nI 10)), .int x1, .int x2]) (rest := [.int (o_has (x0 - x0 / (nI 10) * (nI 10)) (x0 / (nI 10)) x1 x2)]) oX4_has lk_EvenFinders_Odds_19 (by decide +kernel) rfl (Nat.le_of_ble_eq_true rfl) rfl ⟨Nat.le_of_ble_eq_true rfl, Nat.le_of_ble_eq_true rfl⟩ t12 (fun v9 N9 h13 => ?_) (fun E9 N9 h13 => by cases h13)
    cases h13
    show G z mX4_isRest (d + 1) 0 0 50 [some (.int x0), some (.int x1), some (.int x2), some (.int (x0 / (nI 10))), some (.int (x0 - x0 / (nI 10) * (nI 10)))] [.int (o_has ((nI 1) - (x0 - x0 / (nI 10) * (nI 10))) (x0 / (nI 10)) x1 x2), .int (o_has (x0 - x0 / (nI 10) * (nI 10)) (x0 / (nI 10)) x1 x2)] M Q
    refine G.ic_lt (off := (7)) (tgt := 57) (by decide +kernel) rfl (fun c14 => ?_) (fun c14 => ?_)
    · skip
      refine G.sl [(.iconst 0, 1, 0, 0, 0, nI 0)] [] (pc2 := 58) (ls2 := [some (.int x0), some (.int x1), some (.int x2), some (.int (x0 / (nI 10))), some (.int (x0 - x0 / (nI 10) * (nI 10)))]) (st2 := [.int (nI 0)]) (M2 := M) (Ps := []) (by decide +kernel) rfl rfl trivial ?_
      exact G.reti (by decide +kernel) rfl rfl (Nat.le_of_ble_eq_true rfl) (Nat.le_of_ble_eq_true rfl) ((by rw [hQ]; simp only [o_isRest, if_neg c7, if_pos c14, mrow_self]))
    · skip
      refine G.sl [(.iconst 1, 1, 0, 0, 0, nI 1), (.goto 4, 3, 58, 0, 0, 0)] [] (pc2 := 58) (ls2 := [some (.int x0), some (.int x1), some (.int x2), some (.int (x0 / (nI 10))), some (.int (x0 - x0 / (nI 10) * (nI 10)))]) (st2 := [.int (nI 1)]) (M2 := M) (Ps := []) (by decide +kernel) rfl rfl trivial ?_
      exact G.reti (by decide +kernel) rfl rfl (Nat.le_of_ble_eq_true rfl) (Nat.le_of_ble_eq_true rfl) ((by rw [hQ]; simp only [o_isRest, if_neg c7, if_neg c14, mrow_self]))
set_option maxHeartbeats 4000000 in
set_option maxRecDepth 3000 in
theorem lp_o_rests_13 (z : Zp) (d : Nat) (M : Mem) (Q : Rs → Prop) (x0 : Int32) (x1 : Int32) (x4 : Int32) : ∀ (k0 : Nat) (s2 : Int32) (s5 : Int32), o_rests_13_ok x0 x1 x4 k0 s2 s5 → (match o_rests_13 x0 x1 x4 k0 s2 s5 with | (s2', s5') => G z mX4_rests (d + 2) 0 0 45 [none, none, some (.int (s2')), none, none, none, none] [] M Q) → G z mX4_rests (d + 2) 0 0 13 [some (.int x0), some (.int x1), some (.int s2), some (.ref 2000), some (.int x4), some (.int s5), none] [] M Q := by
  intro k0
  induction k0 with
  | zero =>
      intro s2 s5 hk hX
      exact (by simpa only [o_rests_13_ok] using hk : False).elim
  | succ k0 ih =>
      intro s2 s5 hk hX
      simp only [o_rests_13_ok] at hk
      refine G.sl [(.iload 5, 2, 5, 0, 0, 0), (.iload 4, 2, 4, 0, 0, 0)] [] (pc2 := 17) (ls2 := [some (.int x0), some (.int x1), some (.int s2), some (.ref 2000), some (.int x4), some (.int s5), none]) (st2 := [.int x4, .int s5]) (M2 := M) (Ps := []) (by decide +kernel) rfl rfl trivial ?_
      refine G.ic_ge (off := (28)) (tgt := 45) (by decide +kernel) rfl (fun c1 => ?_) (fun c1 => ?_)
      · skip
        rw [if_pos c1] at hk
        refine G.loc (ls2 := [none, none, some (.int s2), none, none, none, none]) (by simp [subL]) ?_
        simp only [o_rests_13, if_pos c1] at hX
        exact hX
      · skip
        rw [if_neg c1] at hk
        obtain ⟨k2, k3, hk⟩ := hk
        refine G.sl [(.aload_n 3, 1, 3, 0, 0, 0), (.iload 5, 2, 5, 0, 0, 0), (.iaload, 1, 0, 0, 0, 0), (.istore 6, 2, 6, 0, 0, 0), (.iload 6, 2, 6, 0, 0, 0), (.iload_n 0, 1, 0, 0, 0, 0), (.iload_n 1, 1, 1, 0, 0, 0)] [ix s5] (pc2 := 30) (ls2 := [some (.int x0), some (.int x1), some (.int s2), some (.ref 2000), some (.int x4), some (.int s5), some (.int (dds (ix s5)))]) (st2 := [.int x1, .int x0, .int (dds (ix s5))]) (M2 := M) (Ps := [s5 = nI (ix s5) ∧ (ix s5) < 4]) (by decide +kernel) rfl rfl ⟨⟨(ixE k2), k3⟩, trivial⟩ ?_
        obtain ⟨k4, hk⟩ := hk
        have t5 : GM z mX4_isRest (d + 1) [.int (dds (ix s5)), .int x0, .int x1] M (fun rs => rs = .inl (some (.int (o_isRest (dds (ix s5)) x0 x1)), M)) := by
          have q9 := c_o_isRest z d M (dds (ix s5)) x0 x1
          try simp only [mput, mrow_same, mrow_hit, mrow_miss, mrow_sw, idr_eq, ne_eq, Nat.reduceEqDiff, not_false_eq_true, Nat.reduceLT, reduceCtorEq] at q9
          exact q9
        refine G.callS (as := [.int (dds (ix s5)), .int x0, .int x1]) (rest := []) oX4_isRest lk_EvenFinders_Odds_27 (by decide +kernel) rfl (Nat.le_of_ble_eq_true rfl) rfl ⟨Nat.le_of_ble_eq_true rfl, Nat.le_of_ble_eq_true rfl⟩ t5 (fun v9 N9 h6 => ?_) (fun E9 N9 h6 => by cases h6)
        cases h6
        show G z mX4_rests (d + 2) 0 0 33 [some (.int x0), some (.int x1), some (.int s2), some (.ref 2000), some (.int x4), some (.int s5), some (.int (dds (ix s5)))] [.int (o_isRest (dds (ix s5)) x0 x1)] M Q
        refine G.if_eq (off := (6)) (tgt := 39) (by decide +kernel) rfl (fun c7 => ?_) (fun c7 => ?_)
        · skip
          rw [if_pos c7] at hk
          refine G.sl [(.iinc 5 1, 3, 5, 0, 0, nI 1), (.goto (-29), 3, 13, 0, 0, 0)] [] (pc2 := 13) (ls2 := [some (.int x0), some (.int x1), some (.int s2), some (.ref 2000), some (.int x4), some (.int (s5 + nI 1)), some (.int (dds (ix s5)))]) (st2 := []) (M2 := M) (Ps := []) (by decide +kernel) rfl rfl trivial ?_
          refine G.loc (ls2 := [some (.int x0), some (.int x1), some (.int s2), some (.ref 2000), some (.int x4), some (.int (s5 + nI 1)), none]) (by simp [subL]) ?_
          simp only [o_rests_13, if_neg c1, if_pos c7] at hX
          exact ih s2 (s5 + nI 1) hk hX
        · skip
          rw [if_neg c7] at hk
          refine G.sl [(.iinc 2 1, 3, 2, 0, 0, nI 1), (.iinc 5 1, 3, 5, 0, 0, nI 1), (.goto (-29), 3, 13, 0, 0, 0)] [] (pc2 := 13) (ls2 := [some (.int x0), some (.int x1), some (.int (s2 + nI 1)), some (.ref 2000), some (.int x4), some (.int (s5 + nI 1)), some (.int (dds (ix s5)))]) (st2 := []) (M2 := M) (Ps := []) (by decide +kernel) rfl rfl trivial ?_
          refine G.loc (ls2 := [some (.int x0), some (.int x1), some (.int (s2 + nI 1)), some (.ref 2000), some (.int x4), some (.int (s5 + nI 1)), none]) (by simp [subL]) ?_
          simp only [o_rests_13, if_neg c1, if_neg c7] at hX
          exact ih (s2 + nI 1) (s5 + nI 1) hk hX
set_option maxHeartbeats 4000000 in
set_option maxRecDepth 3000 in
theorem c_o_rests (z : Zp) (d : Nat) (M : Mem) (x0 : Int32) (x1 : Int32) (hk : o_rests_ok x0 x1) : GM z mX4_rests (d + 2) [.int x0, .int x1] M (fun rs => rs = .inl (some (.int (o_rests x0 x1)), M)) := by
  simp only [o_rests_ok] at hk
  refine GM.of oX4_rests.1 (Nat.le_of_ble_eq_true rfl) ?_
  show G z mX4_rests (d + 2) 0 0 0 [some (.int x0), some (.int x1), none, none, none, none, none] [] M _
  obtain ⟨Q, hQ⟩ : ∃ Q : Rs → Prop, Q = (fun rs => rs = .inl (some (.int (o_rests x0 x1)), M)) := ⟨_, rfl⟩
  rw [← hQ]
  refine G.sl [(.iconst 0, 1, 0, 0, 0, nI 0), (.istore_n 2, 1, 2, 0, 0, 0), (.getstatic 23, 3, 0, 0, 0, 0), (.astore_n 3, 1, 3, 0, 0, 0), (.aload_n 3, 1, 3, 0, 0, 0), (.arraylength, 1, 0, 0, 0, 0), (.istore 4, 2, 4, 0, 0, 0), (.iconst 0, 1, 0, 0, 0, nI 0), (.istore 5, 2, 5, 0, 0, 0)] [] (pc2 := 13) (ls2 := [some (.int x0), some (.int x1), some (.int (nI 0)), some (.ref 2000), some (.int 4), some (.int (nI 0)), none]) (st2 := []) (M2 := M) (Ps := []) (by decide +kernel) rfl rfl trivial ?_
  obtain ⟨k8, hk⟩ := hk
  refine lp_o_rests_13 z d M Q x0 x1 4 FU (nI 0) (nI 0) (by first | (simp only [mput, mrow_same, mrow_hit, mrow_miss, mrow_sw, idr_eq, ne_eq, Nat.reduceEqDiff, not_false_eq_true, Nat.reduceLT, reduceCtorEq]; exact k8) | exact k8) ?_
  try simp only [mput, mrow_same, mrow_hit, mrow_miss, mrow_sw, idr_eq, ne_eq, Nat.reduceEqDiff, not_false_eq_true, Nat.reduceLT, reduceCtorEq]
  rcases g9 : o_rests_13 x0 x1 4 FU (nI 0) (nI 0) with ⟨v10, v11⟩
  show G z mX4_rests (d + 2) 0 0 45 [none, none, some (.int v10), none, none, none, none] [] M Q
  refine G.sl [(.iload_n 2, 1, 2, 0, 0, 0)] [] (pc2 := 46) (ls2 := [none, none, some (.int v10), none, none, none, none]) (st2 := [.int v10]) (M2 := M) (Ps := []) (by decide +kernel) rfl rfl trivial ?_
  exact G.reti (by decide +kernel) rfl rfl (Nat.le_of_ble_eq_true rfl) (Nat.le_of_ble_eq_true rfl) ((by rw [hQ]; simp only [o_rests, g9, mrow_self]))
set_option maxHeartbeats 4000000 in
set_option maxRecDepth 3000 in
theorem lp_o_firstRest_10 (z : Zp) (d : Nat) (M : Mem) (Q : Rs → Prop) (x0 : Int32) (x1 : Int32) (x3 : Int32) : ∀ (k0 : Nat) (s4 : Int32), o_firstRest_10_ok x0 x1 x3 k0 s4 → (match o_firstRest_10 x0 x1 x3 k0 s4 with | .inl v' => Q (.inl (some (.int v'), M)) | .inr s4' => G z mX4_firstRest (d + 2) 0 0 41 [none, none, none, none, none, none] [] M Q) → G z mX4_firstRest (d + 2) 0 0 10 [some (.int x0), some (.int x1), some (.ref 2000), some (.int x3), some (.int s4), none] [] M Q := by
  intro k0
  induction k0 with
  | zero =>
      intro s4 hk hX
      exact (by simpa only [o_firstRest_10_ok] using hk : False).elim
  | succ k0 ih =>
      intro s4 hk hX
      simp only [o_firstRest_10_ok] at hk
      refine G.sl [(.iload 4, 2, 4, 0, 0, 0), (.iload_n 3, 1, 3, 0, 0, 0)] [] (pc2 := 13) (ls2 := [some (.int x0), some (.int x1), some (.ref 2000), some (.int x3), some (.int s4), none]) (st2 := [.int x3, .int s4]) (M2 := M) (Ps := []) (by decide +kernel) rfl rfl trivial ?_
      refine G.ic_ge (off := (28)) (tgt := 41) (by decide +kernel) rfl (fun c1 => ?_) (fun c1 => ?_)
      · skip
        rw [if_pos c1] at hk
        refine G.loc (ls2 := [none, none, none, none, none, none]) (by simp [subL]) ?_
        simp only [o_firstRest_10, if_pos c1] at hX
        exact hX
      · skip
        rw [if_neg c1] at hk
        obtain ⟨k2, k3, hk⟩ := hk
        refine G.sl [(.aload_n 2, 1, 2, 0, 0, 0), (.iload 4, 2, 4, 0, 0, 0), (.iaload, 1, 0, 0, 0, 0), (.istore 5, 2, 5, 0, 0, 0), (.iload 5, 2, 5, 0, 0, 0), (.iload_n 0, 1, 0, 0, 0, 0), (.iload_n 1, 1, 1, 0, 0, 0)] [ix s4] (pc2 := 26) (ls2 := [some (.int x0), some (.int x1), some (.ref 2000), some (.int x3), some (.int s4), some (.int (dds (ix s4)))]) (st2 := [.int x1, .int x0, .int (dds (ix s4))]) (M2 := M) (Ps := [s4 = nI (ix s4) ∧ (ix s4) < 4]) (by decide +kernel) rfl rfl ⟨⟨(ixE k2), k3⟩, trivial⟩ ?_
        obtain ⟨k4, hk⟩ := hk
        have t5 : GM z mX4_isRest (d + 1) [.int (dds (ix s4)), .int x0, .int x1] M (fun rs => rs = .inl (some (.int (o_isRest (dds (ix s4)) x0 x1)), M)) := by
          have q9 := c_o_isRest z d M (dds (ix s4)) x0 x1
          try simp only [mput, mrow_same, mrow_hit, mrow_miss, mrow_sw, idr_eq, ne_eq, Nat.reduceEqDiff, not_false_eq_true, Nat.reduceLT, reduceCtorEq] at q9
          exact q9
        refine G.callS (as := [.int (dds (ix s4)), .int x0, .int x1]) (rest := []) oX4_isRest lk_EvenFinders_Odds_27 (by decide +kernel) rfl (Nat.le_of_ble_eq_true rfl) rfl ⟨Nat.le_of_ble_eq_true rfl, Nat.le_of_ble_eq_true rfl⟩ t5 (fun v9 N9 h6 => ?_) (fun E9 N9 h6 => by cases h6)
        cases h6
        show G z mX4_firstRest (d + 2) 0 0 29 [some (.int x0), some (.int x1), some (.ref 2000), some (.int x3), some (.int s4), some (.int (dds (ix s4)))] [.int (o_isRest (dds (ix s4)) x0 x1)] M Q
        refine G.if_eq (off := (6)) (tgt := 35) (by decide +kernel) rfl (fun c7 => ?_) (fun c7 => ?_)
        · skip
          rw [if_pos c7] at hk
          refine G.sl [(.iinc 4 1, 3, 4, 0, 0, nI 1), (.goto (-28), 3, 10, 0, 0, 0)] [] (pc2 := 10) (ls2 := [some (.int x0), some (.int x1), some (.ref 2000), some (.int x3), some (.int (s4 + nI 1)), some (.int (dds (ix s4)))]) (st2 := []) (M2 := M) (Ps := []) (by decide +kernel) rfl rfl trivial ?_
          refine G.loc (ls2 := [some (.int x0), some (.int x1), some (.ref 2000), some (.int x3), some (.int (s4 + nI 1)), none]) (by simp [subL]) ?_
          simp only [o_firstRest_10, if_neg c1, if_pos c7] at hX
          exact ih (s4 + nI 1) hk hX
        · skip
          rw [if_neg c7] at hk
          refine G.sl [(.iload 5, 2, 5, 0, 0, 0)] [] (pc2 := 34) (ls2 := [some (.int x0), some (.int x1), some (.ref 2000), some (.int x3), some (.int s4), some (.int (dds (ix s4)))]) (st2 := [.int (dds (ix s4))]) (M2 := M) (Ps := []) (by decide +kernel) rfl rfl trivial ?_
          exact G.reti (by decide +kernel) rfl rfl (Nat.le_of_ble_eq_true rfl) (Nat.le_of_ble_eq_true rfl) ((by simp only [o_firstRest_10, if_neg c1, if_neg c7] at hX; exact hX))
set_option maxHeartbeats 4000000 in
set_option maxRecDepth 3000 in
theorem c_o_firstRest (z : Zp) (d : Nat) (M : Mem) (x0 : Int32) (x1 : Int32) (hk : o_firstRest_ok x0 x1) : GM z mX4_firstRest (d + 2) [.int x0, .int x1] M (fun rs => rs = .inl (some (.int (o_firstRest x0 x1)), M)) := by
  simp only [o_firstRest_ok] at hk
  refine GM.of oX4_firstRest.1 (Nat.le_of_ble_eq_true rfl) ?_
  show G z mX4_firstRest (d + 2) 0 0 0 [some (.int x0), some (.int x1), none, none, none, none] [] M _
  obtain ⟨Q, hQ⟩ : ∃ Q : Rs → Prop, Q = (fun rs => rs = .inl (some (.int (o_firstRest x0 x1)), M)) := ⟨_, rfl⟩
  rw [← hQ]
  refine G.sl [(.getstatic 23, 3, 0, 0, 0, 0), (.astore_n 2, 1, 2, 0, 0, 0), (.aload_n 2, 1, 2, 0, 0, 0), (.arraylength, 1, 0, 0, 0, 0), (.istore_n 3, 1, 3, 0, 0, 0), (.iconst 0, 1, 0, 0, 0, nI 0), (.istore 4, 2, 4, 0, 0, 0)] [] (pc2 := 10) (ls2 := [some (.int x0), some (.int x1), some (.ref 2000), some (.int 4), some (.int (nI 0)), none]) (st2 := []) (M2 := M) (Ps := []) (by decide +kernel) rfl rfl trivial ?_
  obtain ⟨k8, hk⟩ := hk
  refine lp_o_firstRest_10 z d M Q x0 x1 4 FU (nI 0) (by first | (simp only [mput, mrow_same, mrow_hit, mrow_miss, mrow_sw, idr_eq, ne_eq, Nat.reduceEqDiff, not_false_eq_true, Nat.reduceLT, reduceCtorEq]; exact k8) | exact k8) ?_
  try simp only [mput, mrow_same, mrow_hit, mrow_miss, mrow_sw, idr_eq, ne_eq, Nat.reduceEqDiff, not_false_eq_true, Nat.reduceLT, reduceCtorEq]
  rcases g9 : o_firstRest_10 x0 x1 4 FU (nI 0) with v11 | v10
  · skip
    show Q (.inl (some (.int v11), M))
    rw [hQ]
    simp only [o_firstRest, g9, mrow_self]
  · skip
    show G z mX4_firstRest (d + 2) 0 0 41 [none, none, none, none, none, none] [] M Q
    refine G.sl [(.iconst (-1), 1, 0, 0, 0, (-1))] [] (pc2 := 42) (ls2 := [none, none, none, none, none, none]) (st2 := [.int ((-1))]) (M2 := M) (Ps := []) (by decide +kernel) rfl rfl trivial ?_
    exact G.reti (by decide +kernel) rfl rfl (Nat.le_of_ble_eq_true rfl) (Nat.le_of_ble_eq_true rfl) ((by rw [hQ]; simp only [o_firstRest, g9, mrow_self]))
set_option maxHeartbeats 4000000 in
set_option maxRecDepth 3000 in
theorem c_o_bothHave (z : Zp) (d : Nat) (M : Mem) (x0 : Int32) (x1 : Int32) (x2 : Int32) : GM z mX4_bothHave (d + 1) [.int x0, .int x1, .int x2] M (fun rs => rs = .inl (some (.int (o_bothHave x0 x1 x2)), M)) := by
  refine GM.of oX4_bothHave.1 (Nat.le_of_ble_eq_true rfl) ?_
  show G z mX4_bothHave (d + 1) 0 0 0 [some (.int x0), some (.int x1), some (.int x2), none, none] [] M _
  obtain ⟨Q, hQ⟩ : ∃ Q : Rs → Prop, Q = (fun rs => rs = .inl (some (.int (o_bothHave x0 x1 x2)), M)) := ⟨_, rfl⟩
  rw [← hQ]
  refine G.sl [(.iload_n 0, 1, 0, 0, 0, 0), (.bipush 10, 2, 0, 0, 0, nI 10), (.idiv, 1, 0, 0, 0, 0), (.istore_n 3, 1, 3, 0, 0, 0), (.iload_n 0, 1, 0, 0, 0, 0), (.bipush 10, 2, 0, 0, 0, nI 10), (.irem, 1, 0, 0, 0, 0), (.istore 4, 2, 4, 0, 0, 0), (.iload_n 3, 1, 3, 0, 0, 0), (.iload 4, 2, 4, 0, 0, 0), (.iload_n 1, 1, 1, 0, 0, 0), (.iload_n 2, 1, 2, 0, 0, 0)] [] (pc2 := 16) (ls2 := [some (.int x0), some (.int x1), some (.int x2), some (.int (x0 / (nI 10))), some (.int (x0 - x0 / (nI 10) * (nI 10)))]) (st2 := [.int x2, .int x1, .int (x0 - x0 / (nI 10) * (nI 10)), .int (x0 / (nI 10))]) (M2 := M) (Ps := [¬ (nI 10) = 0, ¬ (nI 10) = 0]) (by decide +kernel) rfl rfl ⟨(by decide), (by decide), trivial⟩ ?_
  have t2 : GM z mX4_has (d) [.int (x0 / (nI 10)), .int (x0 - x0 / (nI 10) * (nI 10)), .int x1, .int x2] M (fun rs => rs = .inl (some (.int (o_has (x0 / (nI 10)) (x0 - x0 / (nI 10) * (nI 10)) x1 x2)), M)) := by
    have q9 := c_o_has z d M (x0 / (nI 10)) (x0 - x0 / (nI 10) * (nI 10)) x1 x2
    try simp only [mput, mrow_same, mrow_hit, mrow_miss, mrow_sw, idr_eq, ne_eq, Nat.reduceEqDiff, not_false_eq_true, Nat.reduceLT, reduceCtorEq] at q9
    exact q9
  refine G.callS (as := [.int (x0 / (nI 10)), .int (x0 - x0 / (nI 10) * (nI 10)), .int x1, .int x2]) (rest := []) oX4_has lk_EvenFinders_Odds_19 (by decide +kernel) rfl (Nat.le_of_ble_eq_true rfl) rfl ⟨Nat.le_of_ble_eq_true rfl, Nat.le_of_ble_eq_true rfl⟩ t2 (fun v9 N9 h3 => ?_) (fun E9 N9 h3 => by cases h3)
  cases h3
  show G z mX4_bothHave (d + 1) 0 0 19 [some (.int x0), some (.int x1), some (.int x2), some (.int (x0 / (nI 10))), some (.int (x0 - x0 / (nI 10) * (nI 10)))] [.int (o_has (x0 / (nI 10)) (x0 - x0 / (nI 10) * (nI 10)) x1 x2)] M Q
  refine G.sl [(.iload 4, 2, 4, 0, 0, 0), (.iload_n 3, 1, 3, 0, 0, 0), (.iload_n 1, 1, 1, 0, 0, 0), (.iload_n 2, 1, 2, 0, 0, 0)] [] (pc2 := 24) (ls2 := [some (.int x0), some (.int x1), some (.int x2), some (.int (x0 / (nI 10))), some (.int (x0 - x0 / (nI 10) * (nI 10)))]) (st2 := [.int x2, .int x1, .int (x0 / (nI 10)), .int (x0 - x0 / (nI 10) * (nI 10)), .int (o_has (x0 / (nI 10)) (x0 - x0 / (nI 10) * (nI 10)) x1 x2)]) (M2 := M) (Ps := []) (by decide +kernel) rfl rfl trivial ?_
  have t5 : GM z mX4_has (d) [.int (x0 - x0 / (nI 10) * (nI 10)), .int (x0 / (nI 10)), .int x1, .int x2] M (fun rs => rs = .inl (some (.int (o_has (x0 - x0 / (nI 10) * (nI 10)) (x0 / (nI 10)) x1 x2)), M)) := by
    have q9 := c_o_has z d M (x0 - x0 / (nI 10) * (nI 10)) (x0 / (nI 10)) x1 x2
    try simp only [mput, mrow_same, mrow_hit, mrow_miss, mrow_sw, idr_eq, ne_eq, Nat.reduceEqDiff, not_false_eq_true, Nat.reduceLT, reduceCtorEq] at q9
    exact q9
  refine G.callS (as := [.int (x0 - x0 / (nI 10) * (nI 10)), .int (x0 / (nI 10)), .int x1, .int x2]) (rest := [.int (o_has (x0 / (nI 10)) (x0 - x0 / (nI 10) * (nI 10)) x1 x2)]) oX4_has lk_EvenFinders_Odds_19 (by decide +kernel) rfl (Nat.le_of_ble_eq_true rfl) rfl ⟨Nat.le_of_ble_eq_true rfl, Nat.le_of_ble_eq_true rfl⟩ t5 (fun v9 N9 h6 => ?_) (fun E9 N9 h6 => by cases h6)
  cases h6
  show G z mX4_bothHave (d + 1) 0 0 27 [some (.int x0), some (.int x1), some (.int x2), some (.int (x0 / (nI 10))), some (.int (x0 - x0 / (nI 10) * (nI 10)))] [.int (o_has (x0 - x0 / (nI 10) * (nI 10)) (x0 / (nI 10)) x1 x2), .int (o_has (x0 / (nI 10)) (x0 - x0 / (nI 10) * (nI 10)) x1 x2)] M Q
  refine G.sl [(.iadd, 1, 0, 0, 0, 0)] [] (pc2 := 28) (ls2 := [some (.int x0), some (.int x1), some (.int x2), some (.int (x0 / (nI 10))), some (.int (x0 - x0 / (nI 10) * (nI 10)))]) (st2 := [.int ((o_has (x0 / (nI 10)) (x0 - x0 / (nI 10) * (nI 10)) x1 x2) + (o_has (x0 - x0 / (nI 10) * (nI 10)) (x0 / (nI 10)) x1 x2))]) (M2 := M) (Ps := []) (by decide +kernel) rfl rfl trivial ?_
  exact G.reti (by decide +kernel) rfl rfl (Nat.le_of_ble_eq_true rfl) (Nat.le_of_ble_eq_true rfl) ((by rw [hQ]; simp only [o_bothHave, mrow_self]))
set_option maxHeartbeats 4000000 in
set_option maxRecDepth 3000 in
theorem lp_y_goBy_53_70 (z : Zp) (d : Nat) (M : Mem) (Q : Rs → Prop) (nn : Nat) (x2 : Int32) (x3 : Int32) (x5 : Int32) (hnn : nn = 3) : ∀ (k0 : Nat) (i6 : Nat) (q22 : (Nat → Int32)) (q24 : (Nat → Int32)) (q41 : (Nat → Int32)) (q53 : (Nat → Int32)), i6 + k0 = nn → (HX (match y_goBy_70 x2 x3 x5 k0 i6 q22 q24 q41 q53 with | (q22', q24', q41', q53') => G z mX10_goBy (d + 5) 0 0 92 [some (.ref 53), none, some (.int x2), some (.int x3), some (.int (nI 0)), some (.int x5), none] [] (mrow (mrow (mrow (mrow M 22 (q22')) 24 (q24')) 41 (q41')) 53 (q53')) Q)) → G z mX10_goBy (d + 5) 0 0 70 [some (.ref 53), none, some (.int x2), some (.int x3), some (.int (nI 0)), some (.int x5), some (.int (nI i6))] [] (mrow (mrow (mrow (mrow M 22 q22) 24 q24) 41 q41) 53 q53) Q := by
  intro k0
  induction k0 with
  | zero =>
      intro i6 q22 q24 q41 q53 hn hX
      refine G.sl [(.iload 6, 2, 6, 0, 0, 0), (.iconst 3, 1, 0, 0, 0, nI 3)] [] (pc2 := 73) (ls2 := [some (.ref 53), none, some (.int x2), some (.int x3), some (.int (nI 0)), some (.int x5), some (.int (nI i6))]) (st2 := [.int (nI 3), .int (nI i6)]) (M2 := mrow (mrow (mrow (mrow M 22 q22) 24 q24) 41 q41) 53 q53) (Ps := []) (by decide +kernel) rfl rfl trivial ?_
      refine G.ic_ge (off := (19)) (tgt := 92) (by decide +kernel) rfl (fun _ => ?_) (fun h9 => absurd (nI_le (by omega) (by omega)) h9)
      refine G.loc (ls2 := [some (.ref 53), none, some (.int x2), some (.int x3), some (.int (nI 0)), some (.int x5), none]) (by simp [subL]) ?_
      simp only [y_goBy_70] at hX
      exact hX trivial
  | succ k0 ih =>
      intro i6 q22 q24 q41 q53 hn hX
      refine G.sl [(.iload 6, 2, 6, 0, 0, 0), (.iconst 3, 1, 0, 0, 0, nI 3)] [] (pc2 := 73) (ls2 := [some (.ref 53), none, some (.int x2), some (.int x3), some (.int (nI 0)), some (.int x5), some (.int (nI i6))]) (st2 := [.int (nI 3), .int (nI i6)]) (M2 := mrow (mrow (mrow (mrow M 22 q22) 24 q24) 41 q41) 53 q53) (Ps := []) (by decide +kernel) rfl rfl trivial ?_
      refine G.ic_ge (off := (19)) (tgt := 92) (by decide +kernel) rfl (fun h9 => absurd h9 (nI_ge (by omega) (by omega))) (fun _ => ?_)
      refine G.sl [(.iload 4, 2, 4, 0, 0, 0)] [] (pc2 := 78) (ls2 := [some (.ref 53), none, some (.int x2), some (.int x3), some (.int (nI 0)), some (.int x5), some (.int (nI i6))]) (st2 := [.int (nI 0)]) (M2 := mrow (mrow (mrow (mrow M 22 q22) 24 q24) 41 q41) 53 q53) (Ps := []) (by decide +kernel) rfl rfl trivial ?_
      refine G.if_eq (off := (14)) (tgt := 92) (by decide +kernel) rfl (fun _ => ?_) (fun h9 => absurd (by decide) h9)
      refine G.loc (ls2 := [some (.ref 53), none, some (.int x2), some (.int x3), some (.int (nI 0)), some (.int x5), none]) (by simp [subL]) ?_
      simp only [y_goBy_70] at hX
      exact hX trivial
set_option maxHeartbeats 4000000 in
set_option maxRecDepth 3000 in
theorem lp_d_leastHeld_40_4 (z : Zp) (d : Nat) (M : Mem) (Q : Rs → Prop) (x1 : Int32) (nt : Nat) (hnt : nt ≤ 10) (ht : M.1 3 2 = nI nt) (hk : ∀ i3, i3 < nt → d_leastHeld_4_ok (M.1 7) (M.1 41) x1 i3) (hX : G z mX1_leastHeld (d) 0 0 62 [none, none, some (.int (d_leastHeld_4 (M.1 7) (M.1 41) x1 nt)), none] [] M Q) : G z mX1_leastHeld (d) 0 0 4 [some (.ref 40), some (.int x1), some (.int ((-1))), some (.int (nI 0))] [] M Q := by
  refine down (n := nt) (P := fun i3 => G z mX1_leastHeld (d) 0 0 4 [some (.ref 40), some (.int x1), some (.int (d_leastHeld_4 (M.1 7) (M.1 41) x1 i3)), some (.int (nI i3))] [] M Q) ?_ ?_ 0 (Nat.zero_le _)
  · skip
    refine G.sl [(.iload_n 3, 1, 3, 0, 0, 0), (.aload_n 0, 1, 0, 0, 0, 0), (.getfield 18, 3, 1, 2, 79, 0), (.getfield 86, 3, 6, 2, 28, 0)] [] (pc2 := 12) (ls2 := [some (.ref 40), some (.int x1), some (.int (d_leastHeld_4 (M.1 7) (M.1 41) x1 nt)), some (.int (nI nt))]) (st2 := [.int (M.1 3 2), .int (nI nt)]) (M2 := M) (Ps := []) (by decide +kernel) rfl rfl trivial ?_
    rw [ht]
    refine G.ic_ge (off := (50)) (tgt := 62) (by decide +kernel) rfl (fun _ => ?_) (fun h9 => absurd (nI_le (by omega) (by omega)) h9)
    refine G.loc (ls2 := [none, none, some (.int (d_leastHeld_4 (M.1 7) (M.1 41) x1 nt)), none]) (by simp [subL]) ?_
    exact hX
  · skip
    intro i3 hi ih
    have hk := hk i3 hi
    simp only [d_leastHeld_4_ok] at hk
    show G z mX1_leastHeld (d) 0 0 4 [some (.ref 40), some (.int x1), some (.int (d_leastHeld_4 (M.1 7) (M.1 41) x1 i3)), some (.int (nI i3))] [] M Q
    refine G.sl [(.iload_n 3, 1, 3, 0, 0, 0), (.aload_n 0, 1, 0, 0, 0, 0), (.getfield 18, 3, 1, 2, 79, 0), (.getfield 86, 3, 6, 2, 28, 0)] [] (pc2 := 12) (ls2 := [some (.ref 40), some (.int x1), some (.int (d_leastHeld_4 (M.1 7) (M.1 41) x1 i3)), some (.int (nI i3))]) (st2 := [.int (M.1 3 2), .int (nI i3)]) (M2 := M) (Ps := []) (by decide +kernel) rfl rfl trivial ?_
    rw [ht]
    refine G.ic_ge (off := (50)) (tgt := 62) (by decide +kernel) rfl (fun h9 => absurd h9 (nI_ge (by omega) (by omega))) (fun _ => ?_)
    refine G.sl [(.aload_n 0, 1, 0, 0, 0, 0), (.getfield 9, 3, 1, 0, 73, 0), (.bipush 41, 2, 0, 0, 0, nI 41), (.iload_n 3, 1, 3, 0, 0, 0), (.iadd, 1, 0, 0, 0, 0), (.iaload, 1, 0, 0, 0, 0), (.iload_n 1, 1, 1, 0, 0, 0)] [41 + i3] (pc2 := 25) (ls2 := [some (.ref 40), some (.int x1), some (.int (d_leastHeld_4 (M.1 7) (M.1 41) x1 i3)), some (.int (nI i3))]) (st2 := [.int x1, .int (M.1 41 (41 + i3))]) (M2 := M) (Ps := [((nI 41) + (nI i3)) = nI (41 + i3) ∧ (41 + i3) < 51]) (by decide +kernel) rfl rfl ⟨⟨(nI_add _ _), (by omega)⟩, trivial⟩ ?_
    refine G.ic_ne (off := (31)) (tgt := 56) (by decide +kernel) rfl (fun c1 => ?_) (fun c1 => ?_)
    · skip
      rw [if_neg c1] at hk
      refine G.sl [(.iinc 3 1, 3, 3, 0, 0, nI 1), (.goto (-55), 3, 4, 0, 0, 0)] [] (pc2 := 4) (ls2 := [some (.ref 40), some (.int x1), some (.int (d_leastHeld_4 (M.1 7) (M.1 41) x1 i3)), some (.int ((nI i3) + nI 1))]) (st2 := []) (M2 := M) (Ps := []) (by decide +kernel) rfl rfl trivial ?_
      rw [nI_add i3 1]
      simp only [d_leastHeld_4, if_neg c1] at ih
      exact ih
    · skip
      rw [if_pos c1] at hk
      refine G.sl [(.iload_n 2, 1, 2, 0, 0, 0), (.iconst (-1), 1, 0, 0, 0, (-1))] [] (pc2 := 30) (ls2 := [some (.ref 40), some (.int x1), some (.int (d_leastHeld_4 (M.1 7) (M.1 41) x1 i3)), some (.int (nI i3))]) (st2 := [.int ((-1)), .int (d_leastHeld_4 (M.1 7) (M.1 41) x1 i3)]) (M2 := M) (Ps := []) (by decide +kernel) rfl rfl trivial ?_
      refine G.ic_eq (off := (24)) (tgt := 54) (by decide +kernel) rfl (fun c2 => ?_) (fun c2 => ?_)
      · skip
        rw [if_pos c2] at hk
        refine G.sl [(.iload_n 3, 1, 3, 0, 0, 0), (.istore_n 2, 1, 2, 0, 0, 0), (.iinc 3 1, 3, 3, 0, 0, nI 1), (.goto (-55), 3, 4, 0, 0, 0)] [] (pc2 := 4) (ls2 := [some (.ref 40), some (.int x1), some (.int (nI i3)), some (.int ((nI i3) + nI 1))]) (st2 := []) (M2 := M) (Ps := []) (by decide +kernel) rfl rfl trivial ?_
        rw [nI_add i3 1]
        simp only [d_leastHeld_4, if_pos c1, if_pos c2] at ih
        exact ih
      · skip
        rw [if_neg c2] at hk
        obtain ⟨k3, k4, hk⟩ := hk
        refine G.sl [(.aload_n 0, 1, 0, 0, 0, 0), (.getfield 18, 3, 1, 2, 79, 0), (.getfield 63, 3, 6, 7, 44, 0), (.iload_n 3, 1, 3, 0, 0, 0), (.iaload, 1, 0, 0, 0, 0), (.aload_n 0, 1, 0, 0, 0, 0), (.getfield 18, 3, 1, 2, 79, 0), (.getfield 63, 3, 6, 7, 44, 0), (.iload_n 2, 1, 2, 0, 0, 0), (.iaload, 1, 0, 0, 0, 0)] [i3, ix (d_leastHeld_4 (M.1 7) (M.1 41) x1 i3)] (pc2 := 51) (ls2 := [some (.ref 40), some (.int x1), some (.int (d_leastHeld_4 (M.1 7) (M.1 41) x1 i3)), some (.int (nI i3))]) (st2 := [.int (M.1 7 (ix (d_leastHeld_4 (M.1 7) (M.1 41) x1 i3))), .int (M.1 7 i3)]) (M2 := M) (Ps := [(nI i3) = nI i3 ∧ i3 < 10, (d_leastHeld_4 (M.1 7) (M.1 41) x1 i3) = nI (ix (d_leastHeld_4 (M.1 7) (M.1 41) x1 i3)) ∧ (ix (d_leastHeld_4 (M.1 7) (M.1 41) x1 i3)) < 10]) (by decide +kernel) rfl rfl ⟨⟨rfl, (by omega)⟩, ⟨(ixE k3), k4⟩, trivial⟩ ?_
        refine G.ic_ge (off := (5)) (tgt := 56) (by decide +kernel) rfl (fun c5 => ?_) (fun c5 => ?_)
        · skip
          refine G.sl [(.iinc 3 1, 3, 3, 0, 0, nI 1), (.goto (-55), 3, 4, 0, 0, 0)] [] (pc2 := 4) (ls2 := [some (.ref 40), some (.int x1), some (.int (d_leastHeld_4 (M.1 7) (M.1 41) x1 i3)), some (.int ((nI i3) + nI 1))]) (st2 := []) (M2 := M) (Ps := []) (by decide +kernel) rfl rfl trivial ?_
          rw [nI_add i3 1]
          simp only [d_leastHeld_4, if_pos c1, if_neg c2, if_pos c5] at ih
          exact ih
        · skip
          refine G.sl [(.iload_n 3, 1, 3, 0, 0, 0), (.istore_n 2, 1, 2, 0, 0, 0), (.iinc 3 1, 3, 3, 0, 0, nI 1), (.goto (-55), 3, 4, 0, 0, 0)] [] (pc2 := 4) (ls2 := [some (.ref 40), some (.int x1), some (.int (nI i3)), some (.int ((nI i3) + nI 1))]) (st2 := []) (M2 := M) (Ps := []) (by decide +kernel) rfl rfl trivial ?_
          rw [nI_add i3 1]
          simp only [d_leastHeld_4, if_pos c1, if_neg c2, if_neg c5] at ih
          exact ih
set_option maxHeartbeats 4000000 in
set_option maxRecDepth 3000 in
theorem c_d_leastHeld_40 (z : Zp) (d : Nat) (M : Mem) (x1 : Int32) (nt : Nat) (hnt : nt ≤ 10) (ht : M.1 3 2 = nI nt) (hk : d_leastHeld_ok (M.1 7) (M.1 41) nt x1) : GM z mX1_leastHeld (d) [.ref 40, .int x1] M (fun rs => rs = .inl (some (.int (d_leastHeld (M.1 7) (M.1 41) nt x1)), M)) := by
  simp only [d_leastHeld_ok] at hk
  refine GM.of oX1_leastHeld.1 (Nat.le_of_ble_eq_true rfl) ?_
  show G z mX1_leastHeld (d) 0 0 0 [some (.ref 40), some (.int x1), none, none] [] M _
  obtain ⟨Q, hQ⟩ : ∃ Q : Rs → Prop, Q = (fun rs => rs = .inl (some (.int (d_leastHeld (M.1 7) (M.1 41) nt x1)), M)) := ⟨_, rfl⟩
  rw [← hQ]
  refine G.sl [(.iconst (-1), 1, 0, 0, 0, (-1)), (.istore_n 2, 1, 2, 0, 0, 0), (.iconst 0, 1, 0, 0, 0, nI 0), (.istore_n 3, 1, 3, 0, 0, 0)] [] (pc2 := 4) (ls2 := [some (.ref 40), some (.int x1), some (.int ((-1))), some (.int (nI 0))]) (st2 := []) (M2 := M) (Ps := []) (by decide +kernel) rfl rfl trivial ?_
  obtain ⟨k6, hk⟩ := hk
  refine lp_d_leastHeld_40_4 z d M Q x1 nt hnt ht (by first | (simp only [mput, mrow_same, mrow_hit, mrow_miss, mrow_sw, idr_eq, ne_eq, Nat.reduceEqDiff, not_false_eq_true, Nat.reduceLT, reduceCtorEq]; exact k6) | exact k6) ?_
  show G z mX1_leastHeld (d) 0 0 62 [none, none, some (.int (d_leastHeld_4 (M.1 7) (M.1 41) x1 nt)), none] [] M Q
  refine G.sl [(.iload_n 2, 1, 2, 0, 0, 0)] [] (pc2 := 63) (ls2 := [none, none, some (.int (d_leastHeld_4 (M.1 7) (M.1 41) x1 nt)), none]) (st2 := [.int (d_leastHeld_4 (M.1 7) (M.1 41) x1 nt)]) (M2 := M) (Ps := []) (by decide +kernel) rfl rfl trivial ?_
  exact G.reti (by decide +kernel) rfl rfl (Nat.le_of_ble_eq_true rfl) (Nat.le_of_ble_eq_true rfl) ((by rw [hQ]; simp only [d_leastHeld, mrow_self]))
set_option maxHeartbeats 4000000 in
set_option maxRecDepth 3000 in
theorem c_d_drop_40 (z : Zp) (d : Nat) (M : Mem) (n1 : Nat) (n2 : Nat) (b1 : n1 < 6) (b2 : n2 < 10) : GM z mX1_drop (d) [.ref 40, .int (nI n1), .int (nI n2)] M (fun rs => rs = .inl (none, mrow M 41 ((d_drop (M.1 41) n1 n2).2))) := by
  refine GM.of oX1_drop.1 (Nat.le_of_ble_eq_true rfl) ?_
  show G z mX1_drop (d) 0 0 0 [some (.ref 40), some (.int (nI n1)), some (.int (nI n2))] [] M _
  obtain ⟨Q, hQ⟩ : ∃ Q : Rs → Prop, Q = (fun rs => rs = .inl (none, mrow M 41 ((d_drop (M.1 41) n1 n2).2))) := ⟨_, rfl⟩
  rw [← hQ]
  refine G.sl [(.aload_n 0, 1, 0, 0, 0, 0), (.getfield 9, 3, 1, 0, 73, 0), (.bipush 31, 2, 0, 0, 0, nI 31), (.iload_n 2, 1, 2, 0, 0, 0), (.iadd, 1, 0, 0, 0, 0), (.aload_n 0, 1, 0, 0, 0, 0), (.getfield 9, 3, 1, 0, 73, 0), (.iconst 1, 1, 0, 0, 0, nI 1), (.iload_n 1, 1, 1, 0, 0, 0), (.iadd, 1, 0, 0, 0, 0), (.iaload, 1, 0, 0, 0, 0), (.iastore, 1, 0, 0, 0, 0), (.aload_n 0, 1, 0, 0, 0, 0), (.getfield 9, 3, 1, 0, 73, 0), (.bipush 41, 2, 0, 0, 0, nI 41), (.iload_n 2, 1, 2, 0, 0, 0), (.iadd, 1, 0, 0, 0, 0), (.iconst (-1), 1, 0, 0, 0, (-1)), (.iastore, 1, 0, 0, 0, 0)] [1 + n1, 31 + n2, 41 + n2] (pc2 := 27) (ls2 := [some (.ref 40), some (.int (nI n1)), some (.int (nI n2))]) (st2 := []) (M2 := mput (mput M 41 (31 + n2) (M.1 41 (1 + n1))) 41 (41 + n2) ((-1))) (Ps := [((nI 1) + (nI n1)) = nI (1 + n1) ∧ (1 + n1) < 51, ((nI 31) + (nI n2)) = nI (31 + n2) ∧ (31 + n2) < 51, ((nI 41) + (nI n2)) = nI (41 + n2) ∧ (41 + n2) < 51]) (by decide +kernel) rfl rfl ⟨⟨(nI_add _ _), (by omega)⟩, ⟨(nI_add _ _), (by omega)⟩, ⟨(nI_add _ _), (by omega)⟩, trivial⟩ ?_
  refine G.mem (M' := mrow M 41 (upd (upd (M.1 41) (31 + n2) (M.1 41 (1 + n1))) (41 + n2) ((-1)))) (by first | rfl | (simp only [mput, mrow_same, mrow_hit, mrow_miss, mrow_sw, idr_eq, ne_eq, Nat.reduceEqDiff, not_false_eq_true, Nat.reduceLT, reduceCtorEq]; done)) ?_
  exact G.retv (by decide +kernel) rfl (Nat.le_of_ble_eq_true rfl) (Nat.le_of_ble_eq_true rfl) ((by rw [hQ]; simp only [d_drop, mrow_self]))
set_option maxHeartbeats 4000000 in
set_option maxRecDepth 3000 in
theorem lp_d_nightFalls_40_2 (z : Zp) (d : Nat) (M : Mem) (Q : Rs → Prop) (nt : Nat) (hnt : nt ≤ 10) (ht : M.1 3 2 = nI nt) (nf : Nat) (hnf : nf ≤ 6) (hf : M.1 3 3 = nI nf) (hk : ∀ i1, i1 < nf → d_nightFalls_2_ok (M.1 7) (M.1 41) nt i1) (hX : G z mX1_nightFalls (d + 1) 0 0 71 [some (.ref 40), none, none] [] (mrow M 41 (d_nightFalls_2 (M.1 7) (M.1 41) nt nf)) Q) : G z mX1_nightFalls (d + 1) 0 0 2 [some (.ref 40), some (.int (nI 0)), none] [] M Q := by
  refine G.mem (M' := mrow M 41 (M.1 41)) (by simp only [mrow_self]) ?_
  refine down (n := nf) (P := fun i1 => G z mX1_nightFalls (d + 1) 0 0 2 [some (.ref 40), some (.int (nI i1)), none] [] (mrow M 41 (d_nightFalls_2 (M.1 7) (M.1 41) nt i1)) Q) ?_ ?_ 0 (Nat.zero_le _)
  · skip
    refine G.sl [(.iload_n 1, 1, 1, 0, 0, 0), (.aload_n 0, 1, 0, 0, 0, 0), (.getfield 18, 3, 1, 2, 79, 0), (.getfield 78, 3, 6, 3, 34, 0)] [] (pc2 := 10) (ls2 := [some (.ref 40), some (.int (nI nf)), none]) (st2 := [.int (M.1 3 3), .int (nI nf)]) (M2 := mrow M 41 (d_nightFalls_2 (M.1 7) (M.1 41) nt nf)) (Ps := []) (by decide +kernel) rfl rfl trivial ?_
    rw [hf]
    refine G.ic_ge (off := (61)) (tgt := 71) (by decide +kernel) rfl (fun _ => ?_) (fun h9 => absurd (nI_le (by omega) (by omega)) h9)
    refine G.loc (ls2 := [some (.ref 40), none, none]) (by simp [subL]) ?_
    exact hX
  · skip
    intro i1 hi ih
    have hk := hk i1 hi
    simp only [d_nightFalls_2_ok] at hk
    show G z mX1_nightFalls (d + 1) 0 0 2 [some (.ref 40), some (.int (nI i1)), none] [] (mrow M 41 (d_nightFalls_2 (M.1 7) (M.1 41) nt i1)) Q
    refine G.sl [(.iload_n 1, 1, 1, 0, 0, 0), (.aload_n 0, 1, 0, 0, 0, 0), (.getfield 18, 3, 1, 2, 79, 0), (.getfield 78, 3, 6, 3, 34, 0)] [] (pc2 := 10) (ls2 := [some (.ref 40), some (.int (nI i1)), none]) (st2 := [.int (M.1 3 3), .int (nI i1)]) (M2 := mrow M 41 (d_nightFalls_2 (M.1 7) (M.1 41) nt i1)) (Ps := []) (by decide +kernel) rfl rfl trivial ?_
    rw [hf]
    refine G.ic_ge (off := (61)) (tgt := 71) (by decide +kernel) rfl (fun h9 => absurd h9 (nI_ge (by omega) (by omega))) (fun _ => ?_)
    refine G.sl [(.aload_n 0, 1, 0, 0, 0, 0), (.getfield 9, 3, 1, 0, 73, 0), (.bipush 13, 2, 0, 0, 0, nI 13), (.iload_n 1, 1, 1, 0, 0, 0), (.iadd, 1, 0, 0, 0, 0), (.iconst 0, 1, 0, 0, 0, nI 0), (.iastore, 1, 0, 0, 0, 0), (.aload_n 0, 1, 0, 0, 0, 0), (.getfield 9, 3, 1, 0, 73, 0), (.bipush 7, 2, 0, 0, 0, nI 7), (.iload_n 1, 1, 1, 0, 0, 0), (.iadd, 1, 0, 0, 0, 0), (.iaload, 1, 0, 0, 0, 0)] [13 + i1, 7 + i1] (pc2 := 32) (ls2 := [some (.ref 40), some (.int (nI i1)), none]) (st2 := [.int ((upd (d_nightFalls_2 (M.1 7) (M.1 41) nt i1) (13 + i1) (nI 0)) (7 + i1))]) (M2 := mput (mrow M 41 (d_nightFalls_2 (M.1 7) (M.1 41) nt i1)) 41 (13 + i1) (nI 0)) (Ps := [((nI 13) + (nI i1)) = nI (13 + i1) ∧ (13 + i1) < 51, ((nI 7) + (nI i1)) = nI (7 + i1) ∧ (7 + i1) < 51]) (by decide +kernel) rfl rfl ⟨⟨(nI_add _ _), (by omega)⟩, ⟨(nI_add _ _), (by omega)⟩, trivial⟩ ?_
    refine G.mem (M' := mrow M 41 (upd (d_nightFalls_2 (M.1 7) (M.1 41) nt i1) (13 + i1) (nI 0))) (by first | rfl | (simp only [mput, mrow_same, mrow_hit, mrow_miss, mrow_sw, idr_eq, ne_eq, Nat.reduceEqDiff, not_false_eq_true, Nat.reduceLT, reduceCtorEq]; done)) ?_
    refine G.if_le (off := (33)) (tgt := 65) (by decide +kernel) rfl (fun c1 => ?_) (fun c1 => ?_)
    · skip
      rw [if_pos c1] at hk
      refine G.sl [(.iinc 1 1, 3, 1, 0, 0, nI 1), (.goto (-66), 3, 2, 0, 0, 0)] [] (pc2 := 2) (ls2 := [some (.ref 40), some (.int ((nI i1) + nI 1)), none]) (st2 := []) (M2 := mrow M 41 (upd (d_nightFalls_2 (M.1 7) (M.1 41) nt i1) (13 + i1) (nI 0))) (Ps := []) (by decide +kernel) rfl rfl trivial ?_
      rw [nI_add i1 1]
      simp only [d_nightFalls_2, if_pos c1] at ih
      exact ih
    · skip
      rw [if_neg c1] at hk
      refine G.sl [(.aload_n 0, 1, 0, 0, 0, 0), (.getfield 9, 3, 1, 0, 73, 0), (.bipush 25, 2, 0, 0, 0, nI 25), (.iload_n 1, 1, 1, 0, 0, 0), (.iadd, 1, 0, 0, 0, 0), (.dup2, 1, 0, 0, 0, 0), (.iaload, 1, 0, 0, 0, 0), (.iconst 1, 1, 0, 0, 0, nI 1), (.iadd, 1, 0, 0, 0, 0), (.iastore, 1, 0, 0, 0, 0), (.aload_n 0, 1, 0, 0, 0, 0), (.iload_n 1, 1, 1, 0, 0, 0)] [25 + i1, 25 + i1] (pc2 := 50) (ls2 := [some (.ref 40), some (.int (nI i1)), none]) (st2 := [.int (nI i1), .ref 40]) (M2 := mput (mrow M 41 (upd (d_nightFalls_2 (M.1 7) (M.1 41) nt i1) (13 + i1) (nI 0))) 41 (25 + i1) (((upd (d_nightFalls_2 (M.1 7) (M.1 41) nt i1) (13 + i1) (nI 0)) (25 + i1)) + (nI 1))) (Ps := [((nI 25) + (nI i1)) = nI (25 + i1) ∧ (25 + i1) < 51, ((nI 25) + (nI i1)) = nI (25 + i1) ∧ (25 + i1) < 51]) (by decide +kernel) rfl rfl ⟨⟨(nI_add _ _), (by omega)⟩, ⟨(nI_add _ _), (by omega)⟩, trivial⟩ ?_
      refine G.mem (M' := mrow M 41 (upd (upd (d_nightFalls_2 (M.1 7) (M.1 41) nt i1) (13 + i1) (nI 0)) (25 + i1) (((upd (d_nightFalls_2 (M.1 7) (M.1 41) nt i1) (13 + i1) (nI 0)) (25 + i1)) + (nI 1)))) (by first | rfl | (simp only [mput, mrow_same, mrow_hit, mrow_miss, mrow_sw, idr_eq, ne_eq, Nat.reduceEqDiff, not_false_eq_true, Nat.reduceLT, reduceCtorEq]; done)) ?_
      obtain ⟨k2, hk⟩ := hk
      have t3 : GM z mX1_leastHeld (d) [.ref 40, .int (nI i1)] (mrow M 41 (upd (upd (d_nightFalls_2 (M.1 7) (M.1 41) nt i1) (13 + i1) (nI 0)) (25 + i1) (((upd (d_nightFalls_2 (M.1 7) (M.1 41) nt i1) (13 + i1) (nI 0)) (25 + i1)) + (nI 1)))) (fun rs => rs = .inl (some (.int (d_leastHeld (M.1 7) (upd (upd (d_nightFalls_2 (M.1 7) (M.1 41) nt i1) (13 + i1) (nI 0)) (25 + i1) (((upd (d_nightFalls_2 (M.1 7) (M.1 41) nt i1) (13 + i1) (nI 0)) (25 + i1)) + (nI 1))) nt (nI i1))), mrow M 41 (upd (upd (d_nightFalls_2 (M.1 7) (M.1 41) nt i1) (13 + i1) (nI 0)) (25 + i1) (((upd (d_nightFalls_2 (M.1 7) (M.1 41) nt i1) (13 + i1) (nI 0)) (25 + i1)) + (nI 1))))) := by
        have q9 := c_d_leastHeld_40 z d (mrow M 41 (upd (upd (d_nightFalls_2 (M.1 7) (M.1 41) nt i1) (13 + i1) (nI 0)) (25 + i1) (((upd (d_nightFalls_2 (M.1 7) (M.1 41) nt i1) (13 + i1) (nI 0)) (25 + i1)) + (nI 1)))) (nI i1) nt hnt ht k2
        try simp only [mput, mrow_same, mrow_hit, mrow_miss, mrow_sw, idr_eq, ne_eq, Nat.reduceEqDiff, not_false_eq_true, Nat.reduceLT, reduceCtorEq] at q9
        exact q9
      refine G.callV (as := [.int (nI i1)]) (rest := []) (a := 40) oX1_leastHeld lk_EvenFinders_Days_82 (by decide +kernel) rfl rfl ⟨rfl, rfl⟩ (Nat.le_of_ble_eq_true rfl) rfl ⟨Nat.le_of_ble_eq_true rfl, Nat.le_of_ble_eq_true rfl⟩ t3 (fun v9 N9 h4 => ?_) (fun E9 N9 h4 => by cases h4)
      cases h4
      show G z mX1_nightFalls (d + 1) 0 0 53 [some (.ref 40), some (.int (nI i1)), none] [.int (d_leastHeld (M.1 7) (upd (upd (d_nightFalls_2 (M.1 7) (M.1 41) nt i1) (13 + i1) (nI 0)) (25 + i1) (((upd (d_nightFalls_2 (M.1 7) (M.1 41) nt i1) (13 + i1) (nI 0)) (25 + i1)) + (nI 1))) nt (nI i1))] (mrow M 41 (upd (upd (d_nightFalls_2 (M.1 7) (M.1 41) nt i1) (13 + i1) (nI 0)) (25 + i1) (((upd (d_nightFalls_2 (M.1 7) (M.1 41) nt i1) (13 + i1) (nI 0)) (25 + i1)) + (nI 1)))) Q
      refine G.sl [(.istore_n 2, 1, 2, 0, 0, 0), (.iload_n 2, 1, 2, 0, 0, 0), (.iconst (-1), 1, 0, 0, 0, (-1))] [] (pc2 := 56) (ls2 := [some (.ref 40), some (.int (nI i1)), some (.int (d_leastHeld (M.1 7) (upd (upd (d_nightFalls_2 (M.1 7) (M.1 41) nt i1) (13 + i1) (nI 0)) (25 + i1) (((upd (d_nightFalls_2 (M.1 7) (M.1 41) nt i1) (13 + i1) (nI 0)) (25 + i1)) + (nI 1))) nt (nI i1)))]) (st2 := [.int ((-1)), .int (d_leastHeld (M.1 7) (upd (upd (d_nightFalls_2 (M.1 7) (M.1 41) nt i1) (13 + i1) (nI 0)) (25 + i1) (((upd (d_nightFalls_2 (M.1 7) (M.1 41) nt i1) (13 + i1) (nI 0)) (25 + i1)) + (nI 1))) nt (nI i1))]) (M2 := mrow M 41 (upd (upd (d_nightFalls_2 (M.1 7) (M.1 41) nt i1) (13 + i1) (nI 0)) (25 + i1) (((upd (d_nightFalls_2 (M.1 7) (M.1 41) nt i1) (13 + i1) (nI 0)) (25 + i1)) + (nI 1)))) (Ps := []) (by decide +kernel) rfl rfl trivial ?_
      refine G.ic_eq (off := (9)) (tgt := 65) (by decide +kernel) rfl (fun c5 => ?_) (fun c5 => ?_)
      · skip
        rw [if_pos c5] at hk
        refine G.sl [(.iinc 1 1, 3, 1, 0, 0, nI 1), (.goto (-66), 3, 2, 0, 0, 0)] [] (pc2 := 2) (ls2 := [some (.ref 40), some (.int ((nI i1) + nI 1)), some (.int (d_leastHeld (M.1 7) (upd (upd (d_nightFalls_2 (M.1 7) (M.1 41) nt i1) (13 + i1) (nI 0)) (25 + i1) (((upd (d_nightFalls_2 (M.1 7) (M.1 41) nt i1) (13 + i1) (nI 0)) (25 + i1)) + (nI 1))) nt (nI i1)))]) (st2 := []) (M2 := mrow M 41 (upd (upd (d_nightFalls_2 (M.1 7) (M.1 41) nt i1) (13 + i1) (nI 0)) (25 + i1) (((upd (d_nightFalls_2 (M.1 7) (M.1 41) nt i1) (13 + i1) (nI 0)) (25 + i1)) + (nI 1)))) (Ps := []) (by decide +kernel) rfl rfl trivial ?_
        refine G.loc (ls2 := [some (.ref 40), some (.int ((nI i1) + nI 1)), none]) (by simp [subL]) ?_
        rw [nI_add i1 1]
        simp only [d_nightFalls_2, if_neg c1, if_pos c5] at ih
        exact ih
      · skip
        rw [if_neg c5] at hk
        refine G.sl [(.aload_n 0, 1, 0, 0, 0, 0), (.iload_n 1, 1, 1, 0, 0, 0), (.iload_n 2, 1, 2, 0, 0, 0)] [] (pc2 := 62) (ls2 := [some (.ref 40), some (.int (nI i1)), some (.int (d_leastHeld (M.1 7) (upd (upd (d_nightFalls_2 (M.1 7) (M.1 41) nt i1) (13 + i1) (nI 0)) (25 + i1) (((upd (d_nightFalls_2 (M.1 7) (M.1 41) nt i1) (13 + i1) (nI 0)) (25 + i1)) + (nI 1))) nt (nI i1)))]) (st2 := [.int (d_leastHeld (M.1 7) (upd (upd (d_nightFalls_2 (M.1 7) (M.1 41) nt i1) (13 + i1) (nI 0)) (25 + i1) (((upd (d_nightFalls_2 (M.1 7) (M.1 41) nt i1) (13 + i1) (nI 0)) (25 + i1)) + (nI 1))) nt (nI i1)), .int (nI i1), .ref 40]) (M2 := mrow M 41 (upd (upd (d_nightFalls_2 (M.1 7) (M.1 41) nt i1) (13 + i1) (nI 0)) (25 + i1) (((upd (d_nightFalls_2 (M.1 7) (M.1 41) nt i1) (13 + i1) (nI 0)) (25 + i1)) + (nI 1)))) (Ps := []) (by decide +kernel) rfl rfl trivial ?_
        obtain ⟨k6, k7, hk⟩ := hk
        refine G.eq (st' := [.int (nI (ix (d_leastHeld (M.1 7) (upd (upd (d_nightFalls_2 (M.1 7) (M.1 41) nt i1) (13 + i1) (nI 0)) (25 + i1) (((upd (d_nightFalls_2 (M.1 7) (M.1 41) nt i1) (13 + i1) (nI 0)) (25 + i1)) + (nI 1))) nt (nI i1)))), .int (nI i1), .ref 40]) ?_ rfl (by rw [← (show d_leastHeld (M.1 7) (upd (upd (d_nightFalls_2 (M.1 7) (M.1 41) nt i1) (13 + i1) (nI 0)) (25 + i1) (((upd (d_nightFalls_2 (M.1 7) (M.1 41) nt i1) (13 + i1) (nI 0)) (25 + i1)) + (nI 1))) nt (nI i1) = nI (ix (d_leastHeld (M.1 7) (upd (upd (d_nightFalls_2 (M.1 7) (M.1 41) nt i1) (13 + i1) (nI 0)) (25 + i1) (((upd (d_nightFalls_2 (M.1 7) (M.1 41) nt i1) (13 + i1) (nI 0)) (25 + i1)) + (nI 1))) nt (nI i1))) from (ixE k6))]) rfl
        rcases g9 : d_drop (upd (upd (d_nightFalls_2 (M.1 7) (M.1 41) nt i1) (13 + i1) (nI 0)) (25 + i1) (((upd (d_nightFalls_2 (M.1 7) (M.1 41) nt i1) (13 + i1) (nI 0)) (25 + i1)) + (nI 1))) i1 (ix (d_leastHeld (M.1 7) (upd (upd (d_nightFalls_2 (M.1 7) (M.1 41) nt i1) (13 + i1) (nI 0)) (25 + i1) (((upd (d_nightFalls_2 (M.1 7) (M.1 41) nt i1) (13 + i1) (nI 0)) (25 + i1)) + (nI 1))) nt (nI i1))) with ⟨u10, r11⟩
        have t12 : GM z mX1_drop (d) [.ref 40, .int (nI i1), .int (nI (ix (d_leastHeld (M.1 7) (upd (upd (d_nightFalls_2 (M.1 7) (M.1 41) nt i1) (13 + i1) (nI 0)) (25 + i1) (((upd (d_nightFalls_2 (M.1 7) (M.1 41) nt i1) (13 + i1) (nI 0)) (25 + i1)) + (nI 1))) nt (nI i1))))] (mrow M 41 (upd (upd (d_nightFalls_2 (M.1 7) (M.1 41) nt i1) (13 + i1) (nI 0)) (25 + i1) (((upd (d_nightFalls_2 (M.1 7) (M.1 41) nt i1) (13 + i1) (nI 0)) (25 + i1)) + (nI 1)))) (fun rs => rs = .inl (none, mrow M 41 r11)) := by
          have q9 := c_d_drop_40 z d (mrow M 41 (upd (upd (d_nightFalls_2 (M.1 7) (M.1 41) nt i1) (13 + i1) (nI 0)) (25 + i1) (((upd (d_nightFalls_2 (M.1 7) (M.1 41) nt i1) (13 + i1) (nI 0)) (25 + i1)) + (nI 1)))) i1 (ix (d_leastHeld (M.1 7) (upd (upd (d_nightFalls_2 (M.1 7) (M.1 41) nt i1) (13 + i1) (nI 0)) (25 + i1) (((upd (d_nightFalls_2 (M.1 7) (M.1 41) nt i1) (13 + i1) (nI 0)) (25 + i1)) + (nI 1))) nt (nI i1))) (by omega) k7
          try simp only [mput, mrow_same, mrow_hit, mrow_miss, mrow_sw, idr_eq, ne_eq, Nat.reduceEqDiff, not_false_eq_true, Nat.reduceLT, reduceCtorEq, g9] at q9
          exact q9
        refine G.callV (as := [.int (nI i1), .int (nI (ix (d_leastHeld (M.1 7) (upd (upd (d_nightFalls_2 (M.1 7) (M.1 41) nt i1) (13 + i1) (nI 0)) (25 + i1) (((upd (d_nightFalls_2 (M.1 7) (M.1 41) nt i1) (13 + i1) (nI 0)) (25 + i1)) + (nI 1))) nt (nI i1))))]) (rest := []) (a := 40) oX1_drop lk_EvenFinders_Days_71 (by decide +kernel) rfl rfl ⟨rfl, rfl⟩ (Nat.le_of_ble_eq_true rfl) rfl ⟨Nat.le_of_ble_eq_true rfl, Nat.le_of_ble_eq_true rfl⟩ t12 (fun v9 N9 h13 => ?_) (fun E9 N9 h13 => by cases h13)
        cases h13
        show G z mX1_nightFalls (d + 1) 0 0 65 [some (.ref 40), some (.int (nI i1)), some (.int (d_leastHeld (M.1 7) (upd (upd (d_nightFalls_2 (M.1 7) (M.1 41) nt i1) (13 + i1) (nI 0)) (25 + i1) (((upd (d_nightFalls_2 (M.1 7) (M.1 41) nt i1) (13 + i1) (nI 0)) (25 + i1)) + (nI 1))) nt (nI i1)))] [] (mrow M 41 r11) Q
        refine G.sl [(.iinc 1 1, 3, 1, 0, 0, nI 1), (.goto (-66), 3, 2, 0, 0, 0)] [] (pc2 := 2) (ls2 := [some (.ref 40), some (.int ((nI i1) + nI 1)), some (.int (d_leastHeld (M.1 7) (upd (upd (d_nightFalls_2 (M.1 7) (M.1 41) nt i1) (13 + i1) (nI 0)) (25 + i1) (((upd (d_nightFalls_2 (M.1 7) (M.1 41) nt i1) (13 + i1) (nI 0)) (25 + i1)) + (nI 1))) nt (nI i1)))]) (st2 := []) (M2 := mrow M 41 r11) (Ps := []) (by decide +kernel) rfl rfl trivial ?_
        refine G.loc (ls2 := [some (.ref 40), some (.int ((nI i1) + nI 1)), none]) (by simp [subL]) ?_
        rw [nI_add i1 1]
        simp only [d_nightFalls_2, if_neg c1, if_neg c5, g9] at ih
        exact ih
set_option maxHeartbeats 4000000 in
set_option maxRecDepth 3000 in
theorem c_d_nightFalls_40 (z : Zp) (d : Nat) (M : Mem) (nt : Nat) (hnt : nt ≤ 10) (ht : M.1 3 2 = nI nt) (nf : Nat) (hnf : nf ≤ 6) (hf : M.1 3 3 = nI nf) (hk : d_nightFalls_ok (M.1 7) (M.1 41) nt nf) : GM z mX1_nightFalls (d + 1) [.ref 40] M (fun rs => rs = .inl (none, mrow M 41 ((d_nightFalls (M.1 7) (M.1 41) nt nf).2))) := by
  simp only [d_nightFalls_ok] at hk
  refine GM.of oX1_nightFalls.1 (Nat.le_of_ble_eq_true rfl) ?_
  show G z mX1_nightFalls (d + 1) 0 0 0 [some (.ref 40), none, none] [] M _
  obtain ⟨Q, hQ⟩ : ∃ Q : Rs → Prop, Q = (fun rs => rs = .inl (none, mrow M 41 ((d_nightFalls (M.1 7) (M.1 41) nt nf).2))) := ⟨_, rfl⟩
  rw [← hQ]
  refine G.sl [(.iconst 0, 1, 0, 0, 0, nI 0), (.istore_n 1, 1, 1, 0, 0, 0)] [] (pc2 := 2) (ls2 := [some (.ref 40), some (.int (nI 0)), none]) (st2 := []) (M2 := M) (Ps := []) (by decide +kernel) rfl rfl trivial ?_
  obtain ⟨k14, hk⟩ := hk
  refine lp_d_nightFalls_40_2 z d M Q nt hnt ht nf hnf hf (by first | (simp only [mput, mrow_same, mrow_hit, mrow_miss, mrow_sw, idr_eq, ne_eq, Nat.reduceEqDiff, not_false_eq_true, Nat.reduceLT, reduceCtorEq]; exact k14) | exact k14) ?_
  try simp only [mput, mrow_same, mrow_hit, mrow_miss, mrow_sw, idr_eq, ne_eq, Nat.reduceEqDiff, not_false_eq_true, Nat.reduceLT, reduceCtorEq]
  show G z mX1_nightFalls (d + 1) 0 0 71 [some (.ref 40), none, none] [] (mrow M 41 (d_nightFalls_2 (M.1 7) (M.1 41) nt nf)) Q
  refine G.sl [(.aload_n 0, 1, 0, 0, 0, 0), (.getfield 9, 3, 1, 0, 73, 0), (.iconst 0, 1, 0, 0, 0, nI 0), (.dup2, 1, 0, 0, 0, 0), (.iaload, 1, 0, 0, 0, 0), (.iconst 1, 1, 0, 0, 0, nI 1), (.iadd, 1, 0, 0, 0, 0), (.iastore, 1, 0, 0, 0, 0)] [0, 0] (pc2 := 81) (ls2 := [some (.ref 40), none, none]) (st2 := []) (M2 := mput (mrow M 41 (d_nightFalls_2 (M.1 7) (M.1 41) nt nf)) 41 0 (((d_nightFalls_2 (M.1 7) (M.1 41) nt nf) 0) + (nI 1))) (Ps := [(nI 0) = nI 0 ∧ 0 < 51, (nI 0) = nI 0 ∧ 0 < 51]) (by decide +kernel) rfl rfl ⟨⟨rfl, (by omega)⟩, ⟨rfl, (by omega)⟩, trivial⟩ ?_
  refine G.mem (M' := mrow M 41 (upd (d_nightFalls_2 (M.1 7) (M.1 41) nt nf) 0 (((d_nightFalls_2 (M.1 7) (M.1 41) nt nf) 0) + (nI 1)))) (by first | rfl | (simp only [mput, mrow_same, mrow_hit, mrow_miss, mrow_sw, idr_eq, ne_eq, Nat.reduceEqDiff, not_false_eq_true, Nat.reduceLT, reduceCtorEq]; done)) ?_
  exact G.retv (by decide +kernel) rfl (Nat.le_of_ble_eq_true rfl) (Nat.le_of_ble_eq_true rfl) ((by rw [hQ]; simp only [d_nightFalls, mrow_self]))
set_option maxHeartbeats 4000000 in
set_option maxRecDepth 3000 in
theorem lp_y_goBy_53_61 (z : Zp) (d : Nat) (M : Mem) (Q : Rs → Prop) (x2 : Int32) (x3 : Int32) (nt : Nat) (hnt : nt ≤ 10) (ht : M.1 3 2 = nI nt) (nf : Nat) (hnf : nf ≤ 6) (hf : M.1 3 3 = nI nf) : ∀ (k0 : Nat) (s5 : Int32) (q22 : (Nat → Int32)) (q24 : (Nat → Int32)) (q41 : (Nat → Int32)) (q53 : (Nat → Int32)), y_goBy_61_ok (M.1 7) nt nf x2 x3 k0 s5 q22 q24 q41 q53 → (HX (match y_goBy_61 (M.1 7) nt nf x2 x3 k0 s5 q22 q24 q41 q53 with | (s5', q22', q24', q41', q53') => G z mX10_goBy (d + 5) 0 0 105 [none, none, none, none, none, none, none] [] (mrow (mrow (mrow (mrow M 22 (q22')) 24 (q24')) 41 (q41')) 53 (q53')) Q)) → G z mX10_goBy (d + 5) 0 0 61 [some (.ref 53), none, some (.int x2), some (.int x3), some (.int (nI 0)), some (.int s5), none] [] (mrow (mrow (mrow (mrow M 22 q22) 24 q24) 41 q41) 53 q53) Q := by
  intro k0
  induction k0 with
  | zero =>
      intro s5 q22 q24 q41 q53 hk hX
      exact (by simpa only [y_goBy_61_ok] using hk : False).elim
  | succ k0 ih =>
      intro s5 q22 q24 q41 q53 hk hX
      simp only [y_goBy_61_ok] at hk
      refine G.sl [(.iload 5, 2, 5, 0, 0, 0), (.iload_n 3, 1, 3, 0, 0, 0)] [] (pc2 := 64) (ls2 := [some (.ref 53), none, some (.int x2), some (.int x3), some (.int (nI 0)), some (.int s5), none]) (st2 := [.int x3, .int s5]) (M2 := mrow (mrow (mrow (mrow M 22 q22) 24 q24) 41 q41) 53 q53) (Ps := []) (by decide +kernel) rfl rfl trivial ?_
      refine G.ic_ge (off := (41)) (tgt := 105) (by decide +kernel) rfl (fun c8 => ?_) (fun c8 => ?_)
      · skip
        rw [if_pos c8] at hk
        refine G.loc (ls2 := [none, none, none, none, none, none, none]) (by simp [subL]) ?_
        simp only [y_goBy_61, if_pos c8] at hX
        exact hX trivial
      · skip
        rw [if_neg c8] at hk
        refine G.sl [(.iconst 0, 1, 0, 0, 0, nI 0), (.istore 6, 2, 6, 0, 0, 0)] [] (pc2 := 70) (ls2 := [some (.ref 53), none, some (.int x2), some (.int x3), some (.int (nI 0)), some (.int s5), some (.int (nI 0))]) (st2 := []) (M2 := mrow (mrow (mrow (mrow M 22 q22) 24 q24) 41 q41) 53 q53) (Ps := []) (by decide +kernel) rfl rfl trivial ?_
        obtain ⟨k9, hk⟩ := hk
        refine G.mem (M' := mrow (mrow (mrow (mrow (mrow (mrow (mrow (mrow M 22 q22) 24 q24) 41 q41) 53 q53) 22 ((mrow (mrow (mrow (mrow M 22 q22) 24 q24) 41 q41) 53 q53).1 22)) 24 ((mrow (mrow (mrow (mrow M 22 q22) 24 q24) 41 q41) 53 q53).1 24)) 41 ((mrow (mrow (mrow (mrow M 22 q22) 24 q24) 41 q41) 53 q53).1 41)) 53 ((mrow (mrow (mrow (mrow M 22 q22) 24 q24) 41 q41) 53 q53).1 53)) (by simp only [mrow_self]) ?_
        refine lp_y_goBy_53_70 z d (mrow (mrow (mrow (mrow M 22 q22) 24 q24) 41 q41) 53 q53) Q (cN 3) x2 x3 s5 (cN_eq 3) (cN 3) 0 ((mrow (mrow (mrow (mrow M 22 q22) 24 q24) 41 q41) 53 q53).1 22) ((mrow (mrow (mrow (mrow M 22 q22) 24 q24) 41 q41) 53 q53).1 24) ((mrow (mrow (mrow (mrow M 22 q22) 24 q24) 41 q41) 53 q53).1 41) ((mrow (mrow (mrow (mrow M 22 q22) 24 q24) 41 q41) 53 q53).1 53) (Nat.zero_add _) (fun _ => ?_)
        try simp only [mput, mrow_same, mrow_hit, mrow_miss, mrow_sw, idr_eq, ne_eq, Nat.reduceEqDiff, not_false_eq_true, Nat.reduceLT, reduceCtorEq]
        rcases g10 : y_goBy_70 x2 x3 s5 (cN 3) 0 q22 q24 q41 q53 with ⟨r11, r12, r13, r14⟩
        try simp only [g10] at hk
        show G z mX10_goBy (d + 5) 0 0 92 [some (.ref 53), none, some (.int x2), some (.int x3), some (.int (nI 0)), some (.int s5), none] [] (mrow (mrow (mrow (mrow M 22 r11) 24 r12) 41 r13) 53 r14) Q
        refine G.sl [(.aload_n 0, 1, 0, 0, 0, 0), (.getfield 17, 3, 9, 4, 105, 0)] [] (pc2 := 96) (ls2 := [some (.ref 53), none, some (.int x2), some (.int x3), some (.int (nI 0)), some (.int s5), none]) (st2 := [.ref 40]) (M2 := mrow (mrow (mrow (mrow M 22 r11) 24 r12) 41 r13) 53 r14) (Ps := []) (by decide +kernel) rfl rfl trivial ?_
        obtain ⟨k15, hk⟩ := hk
        rcases g16 : d_nightFalls (M.1 7) r13 nt nf with ⟨u17, r18⟩
        try simp only [g16] at hk
        have t19 : GM z mX1_nightFalls (d + 4) [.ref 40] (mrow (mrow (mrow (mrow M 22 r11) 24 r12) 41 r13) 53 r14) (fun rs => rs = .inl (none, mrow (mrow (mrow (mrow M 22 r11) 24 r12) 41 r18) 53 r14)) := by
          have q9 := c_d_nightFalls_40 z (d + 3) (mrow (mrow (mrow (mrow M 22 r11) 24 r12) 41 r13) 53 r14) nt hnt ht nf hnf hf k15
          try simp only [mput, mrow_same, mrow_hit, mrow_miss, mrow_sw, idr_eq, ne_eq, Nat.reduceEqDiff, not_false_eq_true, Nat.reduceLT, reduceCtorEq, g16] at q9
          exact q9
        refine G.callV (as := []) (rest := []) (a := 40) oX1_nightFalls lk_EvenFinders_Years_48 (by decide +kernel) rfl rfl ⟨rfl, rfl⟩ (Nat.le_of_ble_eq_true rfl) rfl ⟨Nat.le_of_ble_eq_true rfl, Nat.le_of_ble_eq_true rfl⟩ t19 (fun v9 N9 h20 => ?_) (fun E9 N9 h20 => by cases h20)
        cases h20
        show G z mX10_goBy (d + 5) 0 0 99 [some (.ref 53), none, some (.int x2), some (.int x3), some (.int (nI 0)), some (.int s5), none] [] (mrow (mrow (mrow (mrow M 22 r11) 24 r12) 41 r18) 53 r14) Q
        refine G.sl [(.iinc 5 1, 3, 5, 0, 0, nI 1), (.goto (-41), 3, 61, 0, 0, 0)] [] (pc2 := 61) (ls2 := [some (.ref 53), none, some (.int x2), some (.int x3), some (.int (nI 0)), some (.int (s5 + nI 1)), none]) (st2 := []) (M2 := mrow (mrow (mrow (mrow M 22 r11) 24 r12) 41 r18) 53 r14) (Ps := []) (by decide +kernel) rfl rfl trivial ?_
        simp only [y_goBy_61, if_neg c8, g10, g16] at hX
        exact ih (s5 + nI 1) r11 r12 r18 r14 hk hX
set_option maxHeartbeats 4000000 in
set_option maxRecDepth 3000 in
theorem c_y_draw_53 (z : Zp) (d : Nat) (M : Mem) (x1 : Int32) (hk : y_draw_ok (M.1 53) x1) : GM z mX10_draw (d) [.ref 53, .int x1] M (fun rs => rs = .inl (some (.int ((y_draw (M.1 53) x1).1)), mrow M 53 ((y_draw (M.1 53) x1).2))) := by
  simp only [y_draw_ok] at hk
  refine GM.of oX10_draw.1 (Nat.le_of_ble_eq_true rfl) ?_
  show G z mX10_draw (d) 0 0 0 [some (.ref 53), some (.int x1)] [] M _
  obtain ⟨Q, hQ⟩ : ∃ Q : Rs → Prop, Q = (fun rs => rs = .inl (some (.int ((y_draw (M.1 53) x1).1)), mrow M 53 ((y_draw (M.1 53) x1).2))) := ⟨_, rfl⟩
  rw [← hQ]
  refine G.sl [(.aload_n 0, 1, 0, 0, 0, 0), (.aload_n 0, 1, 0, 0, 0, 0), (.getfield 26, 3, 9, 1, 102, 0), (.ldc 67, 2, 0, 0, 6, nI 1103515245), (.imul, 1, 0, 0, 0, 0), (.sipush 12345, 3, 0, 0, 0, nI 12345), (.iadd, 1, 0, 0, 0, 0), (.putfield 26, 3, 9, 1, 102, 0), (.iload_n 1, 1, 1, 0, 0, 0)] [] (pc2 := 16) (ls2 := [some (.ref 53), some (.int x1)]) (st2 := [.int x1]) (M2 := mput M 53 1 (((M.1 53 1) * (nI 1103515245)) + (nI 12345))) (Ps := []) (by decide +kernel) rfl rfl trivial ?_
  refine G.mem (M' := mrow M 53 (upd (M.1 53) 1 (((M.1 53 1) * (nI 1103515245)) + (nI 12345)))) (by first | rfl | (simp only [mput, mrow_same, mrow_hit, mrow_miss, mrow_sw, idr_eq, ne_eq, Nat.reduceEqDiff, not_false_eq_true, Nat.reduceLT, reduceCtorEq]; done)) ?_
  refine G.if_le (off := (19)) (tgt := 35) (by decide +kernel) rfl (fun c1 => ?_) (fun c1 => ?_)
  · skip
    rw [if_pos c1] at hk
    refine G.sl [(.iconst 0, 1, 0, 0, 0, nI 0)] [] (pc2 := 36) (ls2 := [some (.ref 53), some (.int x1)]) (st2 := [.int (nI 0)]) (M2 := mrow M 53 (upd (M.1 53) 1 (((M.1 53 1) * (nI 1103515245)) + (nI 12345)))) (Ps := []) (by decide +kernel) rfl rfl trivial ?_
    exact G.reti (by decide +kernel) rfl rfl (Nat.le_of_ble_eq_true rfl) (Nat.le_of_ble_eq_true rfl) ((by rw [hQ]; simp only [y_draw, if_pos c1, mrow_self]))
  · skip
    rw [if_neg c1] at hk
    obtain ⟨k2, hk⟩ := hk
    refine G.sl [(.aload_n 0, 1, 0, 0, 0, 0), (.getfield 26, 3, 9, 1, 102, 0), (.bipush 16, 2, 0, 0, 0, nI 16), (.iushr, 1, 0, 0, 0, 0), (.sipush 32767, 3, 0, 0, 0, nI 32767), (.iand, 1, 0, 0, 0, 0), (.iload_n 1, 1, 1, 0, 0, 0), (.irem, 1, 0, 0, 0, 0), (.goto 4, 3, 36, 0, 0, 0)] [] (pc2 := 36) (ls2 := [some (.ref 53), some (.int x1)]) (st2 := [.int (((((((M.1 53 1) * (nI 1103515245)) + (nI 12345)).toUInt32 >>> ((nI 16).toUInt32 &&& Int32.toUInt32 31)).toInt32) &&& (nI 32767)) - ((((((M.1 53 1) * (nI 1103515245)) + (nI 12345)).toUInt32 >>> ((nI 16).toUInt32 &&& Int32.toUInt32 31)).toInt32) &&& (nI 32767)) / x1 * x1)]) (M2 := mrow M 53 (upd (M.1 53) 1 (((M.1 53 1) * (nI 1103515245)) + (nI 12345)))) (Ps := [¬ x1 = 0]) (by decide +kernel) rfl rfl ⟨k2, trivial⟩ ?_
    exact G.reti (by decide +kernel) rfl rfl (Nat.le_of_ble_eq_true rfl) (Nat.le_of_ble_eq_true rfl) ((by rw [hQ]; simp only [y_draw, if_neg c1, mrow_self]))
set_option maxHeartbeats 4000000 in
set_option maxRecDepth 3000 in
theorem c_d_walks_40 (z : Zp) (d : Nat) (M : Mem) (n1 : Nat) (n2 : Nat) (b1 : n1 < 6) (b2 : n2 < 12) : GM z mX1_walks (d + 1) [.ref 40, .int (nI n1), .int (nI n2)] M (fun rs => rs = .inl (some (.int ((d_walks (M.1 4) (M.1 5) (M.1 6) (M.1 41) n1 n2).1)), mrow M 41 ((d_walks (M.1 4) (M.1 5) (M.1 6) (M.1 41) n1 n2).2))) := by
  refine GM.of oX1_walks.1 (Nat.le_of_ble_eq_true rfl) ?_
  show G z mX1_walks (d + 1) 0 0 0 [some (.ref 40), some (.int (nI n1)), some (.int (nI n2)), none, none] [] M _
  obtain ⟨Q, hQ⟩ : ∃ Q : Rs → Prop, Q = (fun rs => rs = .inl (some (.int ((d_walks (M.1 4) (M.1 5) (M.1 6) (M.1 41) n1 n2).1)), mrow M 41 ((d_walks (M.1 4) (M.1 5) (M.1 6) (M.1 41) n1 n2).2))) := ⟨_, rfl⟩
  rw [← hQ]
  refine G.sl [(.aload_n 0, 1, 0, 0, 0, 0), (.getfield 18, 3, 1, 2, 79, 0), (.iload_n 2, 1, 2, 0, 0, 0), (.aload_n 0, 1, 0, 0, 0, 0), (.getfield 9, 3, 1, 0, 73, 0), (.iconst 1, 1, 0, 0, 0, nI 1), (.iload_n 1, 1, 1, 0, 0, 0), (.iadd, 1, 0, 0, 0, 0), (.iaload, 1, 0, 0, 0, 0)] [1 + n1] (pc2 := 13) (ls2 := [some (.ref 40), some (.int (nI n1)), some (.int (nI n2)), none, none]) (st2 := [.int (M.1 41 (1 + n1)), .int (nI n2), .ref 3]) (M2 := M) (Ps := [((nI 1) + (nI n1)) = nI (1 + n1) ∧ (1 + n1) < 51]) (by decide +kernel) rfl rfl ⟨⟨(nI_add _ _), (by omega)⟩, trivial⟩ ?_
  have t2 : GM z mX7_otherEnd (d) [.ref 3, .int (nI n2), .int (M.1 41 (1 + n1))] M (fun rs => rs = .inl (some (.int (v_otherEnd (M.1 4) (M.1 5) n2 (M.1 41 (1 + n1)))), M)) := by
    have q9 := c_v_otherEnd_3 z d M n2 (M.1 41 (1 + n1)) (by omega)
    try simp only [mput, mrow_same, mrow_hit, mrow_miss, mrow_sw, idr_eq, ne_eq, Nat.reduceEqDiff, not_false_eq_true, Nat.reduceLT, reduceCtorEq] at q9
    exact q9
  refine G.callV (as := [.int (nI n2), .int (M.1 41 (1 + n1))]) (rest := []) (a := 3) oX7_otherEnd lk_EvenFinders_Days_49 (by decide +kernel) rfl rfl ⟨rfl, rfl⟩ (Nat.le_of_ble_eq_true rfl) rfl ⟨Nat.le_of_ble_eq_true rfl, Nat.le_of_ble_eq_true rfl⟩ t2 (fun v9 N9 h3 => ?_) (fun E9 N9 h3 => by cases h3)
  cases h3
  show G z mX1_walks (d + 1) 0 0 16 [some (.ref 40), some (.int (nI n1)), some (.int (nI n2)), none, none] [.int (v_otherEnd (M.1 4) (M.1 5) n2 (M.1 41 (1 + n1)))] M Q
  refine G.sl [(.istore_n 3, 1, 3, 0, 0, 0), (.aload_n 0, 1, 0, 0, 0, 0), (.getfield 9, 3, 1, 0, 73, 0), (.bipush 13, 2, 0, 0, 0, nI 13), (.iload_n 1, 1, 1, 0, 0, 0), (.iadd, 1, 0, 0, 0, 0), (.iaload, 1, 0, 0, 0, 0), (.aload_n 0, 1, 0, 0, 0, 0), (.getfield 18, 3, 1, 2, 79, 0), (.getfield 53, 3, 6, 6, 40, 0), (.iload_n 2, 1, 2, 0, 0, 0), (.iaload, 1, 0, 0, 0, 0), (.iadd, 1, 0, 0, 0, 0), (.istore 4, 2, 4, 0, 0, 0), (.iload_n 3, 1, 3, 0, 0, 0), (.iconst (-1), 1, 0, 0, 0, (-1))] [13 + n1, n2] (pc2 := 40) (ls2 := [some (.ref 40), some (.int (nI n1)), some (.int (nI n2)), some (.int (v_otherEnd (M.1 4) (M.1 5) n2 (M.1 41 (1 + n1)))), some (.int ((M.1 41 (13 + n1)) + (M.1 6 n2)))]) (st2 := [.int ((-1)), .int (v_otherEnd (M.1 4) (M.1 5) n2 (M.1 41 (1 + n1)))]) (M2 := M) (Ps := [((nI 13) + (nI n1)) = nI (13 + n1) ∧ (13 + n1) < 51, (nI n2) = nI n2 ∧ n2 < 12]) (by decide +kernel) rfl rfl ⟨⟨(nI_add _ _), (by omega)⟩, ⟨rfl, (by omega)⟩, trivial⟩ ?_
  refine G.ic_eq (off := (10)) (tgt := 50) (by decide +kernel) rfl (fun c4 => ?_) (fun c4 => ?_)
  · skip
    refine G.sl [(.iconst 0, 1, 0, 0, 0, nI 0)] [] (pc2 := 51) (ls2 := [some (.ref 40), some (.int (nI n1)), some (.int (nI n2)), some (.int (v_otherEnd (M.1 4) (M.1 5) n2 (M.1 41 (1 + n1)))), some (.int ((M.1 41 (13 + n1)) + (M.1 6 n2)))]) (st2 := [.int (nI 0)]) (M2 := M) (Ps := []) (by decide +kernel) rfl rfl trivial ?_
    refine G.mem (M' := mrow M 41 (M.1 41)) (((mrow_id (N := M) (c := 41) (f := M.1 41) (by first | rfl | (simp only [mput, mrow_same, mrow_hit, mrow_miss, mrow_sw, idr_eq, ne_eq, Nat.reduceEqDiff, not_false_eq_true, Nat.reduceLT, reduceCtorEq]; done))).symm).trans (by first | rfl | (simp only [mput, mrow_same, mrow_hit, mrow_miss, mrow_sw, idr_eq, ne_eq, Nat.reduceEqDiff, not_false_eq_true, Nat.reduceLT, reduceCtorEq]; done))) ?_
    exact G.reti (by decide +kernel) rfl rfl (Nat.le_of_ble_eq_true rfl) (Nat.le_of_ble_eq_true rfl) ((by rw [hQ]; simp only [d_walks, if_pos c4, mrow_self]))
  · skip
    refine G.sl [(.iload 4, 2, 4, 0, 0, 0), (.bipush 24, 2, 0, 0, 0, nI 24)] [] (pc2 := 47) (ls2 := [some (.ref 40), some (.int (nI n1)), some (.int (nI n2)), some (.int (v_otherEnd (M.1 4) (M.1 5) n2 (M.1 41 (1 + n1)))), some (.int ((M.1 41 (13 + n1)) + (M.1 6 n2)))]) (st2 := [.int (nI 24), .int ((M.1 41 (13 + n1)) + (M.1 6 n2))]) (M2 := M) (Ps := []) (by decide +kernel) rfl rfl trivial ?_
    refine G.ic_le (off := (5)) (tgt := 52) (by decide +kernel) rfl (fun c5 => ?_) (fun c5 => ?_)
    · skip
      refine G.sl [(.aload_n 0, 1, 0, 0, 0, 0), (.getfield 9, 3, 1, 0, 73, 0), (.iconst 1, 1, 0, 0, 0, nI 1), (.iload_n 1, 1, 1, 0, 0, 0), (.iadd, 1, 0, 0, 0, 0), (.iload_n 3, 1, 3, 0, 0, 0), (.iastore, 1, 0, 0, 0, 0), (.aload_n 0, 1, 0, 0, 0, 0), (.getfield 9, 3, 1, 0, 73, 0), (.bipush 13, 2, 0, 0, 0, nI 13), (.iload_n 1, 1, 1, 0, 0, 0), (.iadd, 1, 0, 0, 0, 0), (.iload 4, 2, 4, 0, 0, 0), (.iastore, 1, 0, 0, 0, 0), (.iconst 1, 1, 0, 0, 0, nI 1)] [1 + n1, 13 + n1] (pc2 := 73) (ls2 := [some (.ref 40), some (.int (nI n1)), some (.int (nI n2)), some (.int (v_otherEnd (M.1 4) (M.1 5) n2 (M.1 41 (1 + n1)))), some (.int ((M.1 41 (13 + n1)) + (M.1 6 n2)))]) (st2 := [.int (nI 1)]) (M2 := mput (mput M 41 (1 + n1) (v_otherEnd (M.1 4) (M.1 5) n2 (M.1 41 (1 + n1)))) 41 (13 + n1) ((M.1 41 (13 + n1)) + (M.1 6 n2))) (Ps := [((nI 1) + (nI n1)) = nI (1 + n1) ∧ (1 + n1) < 51, ((nI 13) + (nI n1)) = nI (13 + n1) ∧ (13 + n1) < 51]) (by decide +kernel) rfl rfl ⟨⟨(nI_add _ _), (by omega)⟩, ⟨(nI_add _ _), (by omega)⟩, trivial⟩ ?_
      refine G.mem (M' := mrow M 41 (upd (upd (M.1 41) (1 + n1) (v_otherEnd (M.1 4) (M.1 5) n2 (M.1 41 (1 + n1)))) (13 + n1) ((M.1 41 (13 + n1)) + (M.1 6 n2)))) (by first | rfl | (simp only [mput, mrow_same, mrow_hit, mrow_miss, mrow_sw, idr_eq, ne_eq, Nat.reduceEqDiff, not_false_eq_true, Nat.reduceLT, reduceCtorEq]; done)) ?_
      exact G.reti (by decide +kernel) rfl rfl (Nat.le_of_ble_eq_true rfl) (Nat.le_of_ble_eq_true rfl) ((by rw [hQ]; simp only [d_walks, if_neg c4, if_pos c5, mrow_self]))
    · skip
      refine G.sl [(.iconst 0, 1, 0, 0, 0, nI 0)] [] (pc2 := 51) (ls2 := [some (.ref 40), some (.int (nI n1)), some (.int (nI n2)), some (.int (v_otherEnd (M.1 4) (M.1 5) n2 (M.1 41 (1 + n1)))), some (.int ((M.1 41 (13 + n1)) + (M.1 6 n2)))]) (st2 := [.int (nI 0)]) (M2 := M) (Ps := []) (by decide +kernel) rfl rfl trivial ?_
      refine G.mem (M' := mrow M 41 (M.1 41)) (((mrow_id (N := M) (c := 41) (f := M.1 41) (by first | rfl | (simp only [mput, mrow_same, mrow_hit, mrow_miss, mrow_sw, idr_eq, ne_eq, Nat.reduceEqDiff, not_false_eq_true, Nat.reduceLT, reduceCtorEq]; done))).symm).trans (by first | rfl | (simp only [mput, mrow_same, mrow_hit, mrow_miss, mrow_sw, idr_eq, ne_eq, Nat.reduceEqDiff, not_false_eq_true, Nat.reduceLT, reduceCtorEq]; done))) ?_
      exact G.reti (by decide +kernel) rfl rfl (Nat.le_of_ble_eq_true rfl) (Nat.le_of_ble_eq_true rfl) ((by rw [hQ]; simp only [d_walks, if_neg c4, if_neg c5, mrow_self]))
set_option maxHeartbeats 4000000 in
set_option maxRecDepth 3000 in
theorem c_d_loses_40 (z : Zp) (d : Nat) (M : Mem) (n1 : Nat) (n2 : Nat) (b1 : n1 < 6) (b2 : n2 < 10) : GM z mX1_loses (d + 1) [.ref 40, .int (nI n1), .int (nI n2)] M (fun rs => rs = .inl (some (.int ((d_loses (M.1 7) (M.1 41) n1 n2).1)), mrow M 41 ((d_loses (M.1 7) (M.1 41) n1 n2).2))) := by
  refine GM.of oX1_loses.1 (Nat.le_of_ble_eq_true rfl) ?_
  show G z mX1_loses (d + 1) 0 0 0 [some (.ref 40), some (.int (nI n1)), some (.int (nI n2))] [] M _
  obtain ⟨Q, hQ⟩ : ∃ Q : Rs → Prop, Q = (fun rs => rs = .inl (some (.int ((d_loses (M.1 7) (M.1 41) n1 n2).1)), mrow M 41 ((d_loses (M.1 7) (M.1 41) n1 n2).2))) := ⟨_, rfl⟩
  rw [← hQ]
  refine G.sl [(.aload_n 0, 1, 0, 0, 0, 0), (.getfield 9, 3, 1, 0, 73, 0), (.bipush 41, 2, 0, 0, 0, nI 41), (.iload_n 2, 1, 2, 0, 0, 0), (.iadd, 1, 0, 0, 0, 0), (.iaload, 1, 0, 0, 0, 0), (.iload_n 1, 1, 1, 0, 0, 0)] [41 + n2] (pc2 := 10) (ls2 := [some (.ref 40), some (.int (nI n1)), some (.int (nI n2))]) (st2 := [.int (nI n1), .int (M.1 41 (41 + n2))]) (M2 := M) (Ps := [((nI 41) + (nI n2)) = nI (41 + n2) ∧ (41 + n2) < 51]) (by decide +kernel) rfl rfl ⟨⟨(nI_add _ _), (by omega)⟩, trivial⟩ ?_
  refine G.ic_ne (off := (15)) (tgt := 25) (by decide +kernel) rfl (fun c1 => ?_) (fun c1 => ?_)
  · skip
    refine G.sl [(.iconst 0, 1, 0, 0, 0, nI 0)] [] (pc2 := 26) (ls2 := [some (.ref 40), some (.int (nI n1)), some (.int (nI n2))]) (st2 := [.int (nI 0)]) (M2 := M) (Ps := []) (by decide +kernel) rfl rfl trivial ?_
    refine G.mem (M' := mrow M 41 (M.1 41)) (((mrow_id (N := M) (c := 41) (f := M.1 41) (by first | rfl | (simp only [mput, mrow_same, mrow_hit, mrow_miss, mrow_sw, idr_eq, ne_eq, Nat.reduceEqDiff, not_false_eq_true, Nat.reduceLT, reduceCtorEq]; done))).symm).trans (by first | rfl | (simp only [mput, mrow_same, mrow_hit, mrow_miss, mrow_sw, idr_eq, ne_eq, Nat.reduceEqDiff, not_false_eq_true, Nat.reduceLT, reduceCtorEq]; done))) ?_
    exact G.reti (by decide +kernel) rfl rfl (Nat.le_of_ble_eq_true rfl) (Nat.le_of_ble_eq_true rfl) ((by rw [hQ]; simp only [d_loses, if_neg c1, mrow_self]))
  · skip
    refine G.sl [(.aload_n 0, 1, 0, 0, 0, 0), (.getfield 9, 3, 1, 0, 73, 0), (.bipush 7, 2, 0, 0, 0, nI 7), (.iload_n 1, 1, 1, 0, 0, 0), (.iadd, 1, 0, 0, 0, 0), (.iaload, 1, 0, 0, 0, 0)] [7 + n1] (pc2 := 22) (ls2 := [some (.ref 40), some (.int (nI n1)), some (.int (nI n2))]) (st2 := [.int (M.1 41 (7 + n1))]) (M2 := M) (Ps := [((nI 7) + (nI n1)) = nI (7 + n1) ∧ (7 + n1) < 51]) (by decide +kernel) rfl rfl ⟨⟨(nI_add _ _), (by omega)⟩, trivial⟩ ?_
    refine G.if_gt (off := (5)) (tgt := 27) (by decide +kernel) rfl (fun c2 => ?_) (fun c2 => ?_)
    · skip
      refine G.sl [(.aload_n 0, 1, 0, 0, 0, 0), (.getfield 9, 3, 1, 0, 73, 0), (.bipush 7, 2, 0, 0, 0, nI 7), (.iload_n 1, 1, 1, 0, 0, 0), (.iadd, 1, 0, 0, 0, 0), (.iconst 0, 1, 0, 0, 0, nI 0), (.aload_n 0, 1, 0, 0, 0, 0), (.getfield 9, 3, 1, 0, 73, 0), (.bipush 7, 2, 0, 0, 0, nI 7), (.iload_n 1, 1, 1, 0, 0, 0), (.iadd, 1, 0, 0, 0, 0), (.iaload, 1, 0, 0, 0, 0), (.aload_n 0, 1, 0, 0, 0, 0), (.getfield 18, 3, 1, 2, 79, 0), (.getfield 63, 3, 6, 7, 44, 0), (.iload_n 2, 1, 2, 0, 0, 0), (.iaload, 1, 0, 0, 0, 0), (.isub, 1, 0, 0, 0, 0)] [7 + n1, n2] (pc2 := 55) (ls2 := [some (.ref 40), some (.int (nI n1)), some (.int (nI n2))]) (st2 := [.int ((M.1 41 (7 + n1)) - (M.1 7 n2)), .int (nI 0), .int ((nI 7) + (nI n1)), .ref 41]) (M2 := M) (Ps := [((nI 7) + (nI n1)) = nI (7 + n1) ∧ (7 + n1) < 51, (nI n2) = nI n2 ∧ n2 < 10]) (by decide +kernel) rfl rfl ⟨⟨(nI_add _ _), (by omega)⟩, ⟨rfl, (by omega)⟩, trivial⟩ ?_
      refine G.mmax lm_EvenFinders_Days_66 (by decide +kernel) (Nat.le_of_ble_eq_true rfl) (Nat.le_of_ble_eq_true rfl) (Nat.le_of_ble_eq_true rfl) ?_
      refine G.sl [(.iastore, 1, 0, 0, 0, 0), (.aload_n 0, 1, 0, 0, 0, 0), (.iload_n 1, 1, 1, 0, 0, 0), (.iload_n 2, 1, 2, 0, 0, 0)] [7 + n1] (pc2 := 62) (ls2 := [some (.ref 40), some (.int (nI n1)), some (.int (nI n2))]) (st2 := [.int (nI n2), .int (nI n1), .ref 40]) (M2 := mput M 41 (7 + n1) (if (nI 0) < ((M.1 41 (7 + n1)) - (M.1 7 n2)) then ((M.1 41 (7 + n1)) - (M.1 7 n2)) else (nI 0))) (Ps := [((nI 7) + (nI n1)) = nI (7 + n1) ∧ (7 + n1) < 51]) (by decide +kernel) rfl rfl ⟨⟨(nI_add _ _), (by omega)⟩, trivial⟩ ?_
      refine G.mem (M' := mrow M 41 (upd (M.1 41) (7 + n1) (if (nI 0) < ((M.1 41 (7 + n1)) - (M.1 7 n2)) then ((M.1 41 (7 + n1)) - (M.1 7 n2)) else (nI 0)))) (by first | rfl | (simp only [mput, mrow_same, mrow_hit, mrow_miss, mrow_sw, idr_eq, ne_eq, Nat.reduceEqDiff, not_false_eq_true, Nat.reduceLT, reduceCtorEq]; done)) ?_
      rcases g4 : d_drop (upd (M.1 41) (7 + n1) (if (nI 0) < ((M.1 41 (7 + n1)) - (M.1 7 n2)) then ((M.1 41 (7 + n1)) - (M.1 7 n2)) else (nI 0))) n1 n2 with ⟨u5, r6⟩
      have t7 : GM z mX1_drop (d) [.ref 40, .int (nI n1), .int (nI n2)] (mrow M 41 (upd (M.1 41) (7 + n1) (if (nI 0) < ((M.1 41 (7 + n1)) - (M.1 7 n2)) then ((M.1 41 (7 + n1)) - (M.1 7 n2)) else (nI 0)))) (fun rs => rs = .inl (none, mrow M 41 r6)) := by
        have q9 := c_d_drop_40 z d (mrow M 41 (upd (M.1 41) (7 + n1) (if (nI 0) < ((M.1 41 (7 + n1)) - (M.1 7 n2)) then ((M.1 41 (7 + n1)) - (M.1 7 n2)) else (nI 0)))) n1 n2 (by omega) (by omega)
        try simp only [mput, mrow_same, mrow_hit, mrow_miss, mrow_sw, idr_eq, ne_eq, Nat.reduceEqDiff, not_false_eq_true, Nat.reduceLT, reduceCtorEq, g4] at q9
        exact q9
      refine G.callV (as := [.int (nI n1), .int (nI n2)]) (rest := []) (a := 40) oX1_drop lk_EvenFinders_Days_71 (by decide +kernel) rfl rfl ⟨rfl, rfl⟩ (Nat.le_of_ble_eq_true rfl) rfl ⟨Nat.le_of_ble_eq_true rfl, Nat.le_of_ble_eq_true rfl⟩ t7 (fun v9 N9 h8 => ?_) (fun E9 N9 h8 => by cases h8)
      cases h8
      show G z mX1_loses (d + 1) 0 0 65 [some (.ref 40), some (.int (nI n1)), some (.int (nI n2))] [] (mrow M 41 r6) Q
      refine G.sl [(.iconst 1, 1, 0, 0, 0, nI 1)] [] (pc2 := 66) (ls2 := [some (.ref 40), some (.int (nI n1)), some (.int (nI n2))]) (st2 := [.int (nI 1)]) (M2 := mrow M 41 r6) (Ps := []) (by decide +kernel) rfl rfl trivial ?_
      exact G.reti (by decide +kernel) rfl rfl (Nat.le_of_ble_eq_true rfl) (Nat.le_of_ble_eq_true rfl) ((by rw [hQ]; simp only [d_loses, if_pos c1, if_pos c2, g4, mrow_self]))
    · skip
      refine G.sl [(.iconst 0, 1, 0, 0, 0, nI 0)] [] (pc2 := 26) (ls2 := [some (.ref 40), some (.int (nI n1)), some (.int (nI n2))]) (st2 := [.int (nI 0)]) (M2 := M) (Ps := []) (by decide +kernel) rfl rfl trivial ?_
      refine G.mem (M' := mrow M 41 (M.1 41)) (((mrow_id (N := M) (c := 41) (f := M.1 41) (by first | rfl | (simp only [mput, mrow_same, mrow_hit, mrow_miss, mrow_sw, idr_eq, ne_eq, Nat.reduceEqDiff, not_false_eq_true, Nat.reduceLT, reduceCtorEq]; done))).symm).trans (by first | rfl | (simp only [mput, mrow_same, mrow_hit, mrow_miss, mrow_sw, idr_eq, ne_eq, Nat.reduceEqDiff, not_false_eq_true, Nat.reduceLT, reduceCtorEq]; done))) ?_
      exact G.reti (by decide +kernel) rfl rfl (Nat.le_of_ble_eq_true rfl) (Nat.le_of_ble_eq_true rfl) ((by rw [hQ]; simp only [d_loses, if_pos c1, if_neg c2, mrow_self]))
set_option maxHeartbeats 4000000 in
set_option maxRecDepth 3000 in
theorem c_d_slips_40 (z : Zp) (d : Nat) (M : Mem) (n1 : Nat) (n2 : Nat) (b1 : n1 < 6) (b2 : n2 < 10) : GM z mX1_slips (d + 1) [.ref 40, .int (nI n1), .int (nI n2)] M (fun rs => rs = .inl (some (.int ((d_slips (M.1 7) (M.1 41) n1 n2).1)), mrow M 41 ((d_slips (M.1 7) (M.1 41) n1 n2).2))) := by
  refine GM.of oX1_slips.1 (Nat.le_of_ble_eq_true rfl) ?_
  show G z mX1_slips (d + 1) 0 0 0 [some (.ref 40), some (.int (nI n1)), some (.int (nI n2))] [] M _
  obtain ⟨Q, hQ⟩ : ∃ Q : Rs → Prop, Q = (fun rs => rs = .inl (some (.int ((d_slips (M.1 7) (M.1 41) n1 n2).1)), mrow M 41 ((d_slips (M.1 7) (M.1 41) n1 n2).2))) := ⟨_, rfl⟩
  rw [← hQ]
  refine G.sl [(.aload_n 0, 1, 0, 0, 0, 0), (.getfield 9, 3, 1, 0, 73, 0), (.bipush 41, 2, 0, 0, 0, nI 41), (.iload_n 2, 1, 2, 0, 0, 0), (.iadd, 1, 0, 0, 0, 0), (.iaload, 1, 0, 0, 0, 0), (.iload_n 1, 1, 1, 0, 0, 0)] [41 + n2] (pc2 := 10) (ls2 := [some (.ref 40), some (.int (nI n1)), some (.int (nI n2))]) (st2 := [.int (nI n1), .int (M.1 41 (41 + n2))]) (M2 := M) (Ps := [((nI 41) + (nI n2)) = nI (41 + n2) ∧ (41 + n2) < 51]) (by decide +kernel) rfl rfl ⟨⟨(nI_add _ _), (by omega)⟩, trivial⟩ ?_
  refine G.ic_eq (off := (5)) (tgt := 15) (by decide +kernel) rfl (fun c1 => ?_) (fun c1 => ?_)
  · skip
    refine G.sl [(.aload_n 0, 1, 0, 0, 0, 0), (.getfield 9, 3, 1, 0, 73, 0), (.bipush 7, 2, 0, 0, 0, nI 7), (.iload_n 1, 1, 1, 0, 0, 0), (.iadd, 1, 0, 0, 0, 0), (.bipush (-99), 2, 0, 0, 0, (-99)), (.aload_n 0, 1, 0, 0, 0, 0), (.getfield 9, 3, 1, 0, 73, 0), (.bipush 7, 2, 0, 0, 0, nI 7), (.iload_n 1, 1, 1, 0, 0, 0), (.iadd, 1, 0, 0, 0, 0), (.iaload, 1, 0, 0, 0, 0), (.aload_n 0, 1, 0, 0, 0, 0), (.getfield 18, 3, 1, 2, 79, 0), (.getfield 63, 3, 6, 7, 44, 0), (.iload_n 2, 1, 2, 0, 0, 0), (.iaload, 1, 0, 0, 0, 0), (.isub, 1, 0, 0, 0, 0)] [7 + n1, n2] (pc2 := 44) (ls2 := [some (.ref 40), some (.int (nI n1)), some (.int (nI n2))]) (st2 := [.int ((M.1 41 (7 + n1)) - (M.1 7 n2)), .int ((-99)), .int ((nI 7) + (nI n1)), .ref 41]) (M2 := M) (Ps := [((nI 7) + (nI n1)) = nI (7 + n1) ∧ (7 + n1) < 51, (nI n2) = nI n2 ∧ n2 < 10]) (by decide +kernel) rfl rfl ⟨⟨(nI_add _ _), (by omega)⟩, ⟨rfl, (by omega)⟩, trivial⟩ ?_
    refine G.mmax lm_EvenFinders_Days_66 (by decide +kernel) (Nat.le_of_ble_eq_true rfl) (Nat.le_of_ble_eq_true rfl) (Nat.le_of_ble_eq_true rfl) ?_
    refine G.sl [(.iastore, 1, 0, 0, 0, 0), (.aload_n 0, 1, 0, 0, 0, 0), (.iload_n 1, 1, 1, 0, 0, 0), (.iload_n 2, 1, 2, 0, 0, 0)] [7 + n1] (pc2 := 51) (ls2 := [some (.ref 40), some (.int (nI n1)), some (.int (nI n2))]) (st2 := [.int (nI n2), .int (nI n1), .ref 40]) (M2 := mput M 41 (7 + n1) (if ((-99)) < ((M.1 41 (7 + n1)) - (M.1 7 n2)) then ((M.1 41 (7 + n1)) - (M.1 7 n2)) else ((-99)))) (Ps := [((nI 7) + (nI n1)) = nI (7 + n1) ∧ (7 + n1) < 51]) (by decide +kernel) rfl rfl ⟨⟨(nI_add _ _), (by omega)⟩, trivial⟩ ?_
    refine G.mem (M' := mrow M 41 (upd (M.1 41) (7 + n1) (if ((-99)) < ((M.1 41 (7 + n1)) - (M.1 7 n2)) then ((M.1 41 (7 + n1)) - (M.1 7 n2)) else ((-99))))) (by first | rfl | (simp only [mput, mrow_same, mrow_hit, mrow_miss, mrow_sw, idr_eq, ne_eq, Nat.reduceEqDiff, not_false_eq_true, Nat.reduceLT, reduceCtorEq]; done)) ?_
    rcases g3 : d_drop (upd (M.1 41) (7 + n1) (if ((-99)) < ((M.1 41 (7 + n1)) - (M.1 7 n2)) then ((M.1 41 (7 + n1)) - (M.1 7 n2)) else ((-99)))) n1 n2 with ⟨u4, r5⟩
    have t6 : GM z mX1_drop (d) [.ref 40, .int (nI n1), .int (nI n2)] (mrow M 41 (upd (M.1 41) (7 + n1) (if ((-99)) < ((M.1 41 (7 + n1)) - (M.1 7 n2)) then ((M.1 41 (7 + n1)) - (M.1 7 n2)) else ((-99))))) (fun rs => rs = .inl (none, mrow M 41 r5)) := by
      have q9 := c_d_drop_40 z d (mrow M 41 (upd (M.1 41) (7 + n1) (if ((-99)) < ((M.1 41 (7 + n1)) - (M.1 7 n2)) then ((M.1 41 (7 + n1)) - (M.1 7 n2)) else ((-99))))) n1 n2 (by omega) (by omega)
      try simp only [mput, mrow_same, mrow_hit, mrow_miss, mrow_sw, idr_eq, ne_eq, Nat.reduceEqDiff, not_false_eq_true, Nat.reduceLT, reduceCtorEq, g3] at q9
      exact q9
    refine G.callV (as := [.int (nI n1), .int (nI n2)]) (rest := []) (a := 40) oX1_drop lk_EvenFinders_Days_71 (by decide +kernel) rfl rfl ⟨rfl, rfl⟩ (Nat.le_of_ble_eq_true rfl) rfl ⟨Nat.le_of_ble_eq_true rfl, Nat.le_of_ble_eq_true rfl⟩ t6 (fun v9 N9 h7 => ?_) (fun E9 N9 h7 => by cases h7)
    cases h7
    show G z mX1_slips (d + 1) 0 0 54 [some (.ref 40), some (.int (nI n1)), some (.int (nI n2))] [] (mrow M 41 r5) Q
    refine G.sl [(.iconst 1, 1, 0, 0, 0, nI 1)] [] (pc2 := 55) (ls2 := [some (.ref 40), some (.int (nI n1)), some (.int (nI n2))]) (st2 := [.int (nI 1)]) (M2 := mrow M 41 r5) (Ps := []) (by decide +kernel) rfl rfl trivial ?_
    exact G.reti (by decide +kernel) rfl rfl (Nat.le_of_ble_eq_true rfl) (Nat.le_of_ble_eq_true rfl) ((by rw [hQ]; simp only [d_slips, if_pos c1, g3, mrow_self]))
  · skip
    refine G.sl [(.iconst 0, 1, 0, 0, 0, nI 0)] [] (pc2 := 14) (ls2 := [some (.ref 40), some (.int (nI n1)), some (.int (nI n2))]) (st2 := [.int (nI 0)]) (M2 := M) (Ps := []) (by decide +kernel) rfl rfl trivial ?_
    refine G.mem (M' := mrow M 41 (M.1 41)) (((mrow_id (N := M) (c := 41) (f := M.1 41) (by first | rfl | (simp only [mput, mrow_same, mrow_hit, mrow_miss, mrow_sw, idr_eq, ne_eq, Nat.reduceEqDiff, not_false_eq_true, Nat.reduceLT, reduceCtorEq]; done))).symm).trans (by first | rfl | (simp only [mput, mrow_same, mrow_hit, mrow_miss, mrow_sw, idr_eq, ne_eq, Nat.reduceEqDiff, not_false_eq_true, Nat.reduceLT, reduceCtorEq]; done))) ?_
    exact G.reti (by decide +kernel) rfl rfl (Nat.le_of_ble_eq_true rfl) (Nat.le_of_ble_eq_true rfl) ((by rw [hQ]; simp only [d_slips, if_neg c1, mrow_self]))
set_option maxHeartbeats 4000000 in
set_option maxRecDepth 3000 in
theorem c_y_goOneTime_53 (z : Zp) (d : Nat) (M : Mem) (x1 : Int32) (nr : Nat) (hnr : nr ≤ 12) (hr : M.1 3 1 = nI nr) (nt : Nat) (hnt : nt ≤ 10) (ht : M.1 3 2 = nI nt) (nf : Nat) (hnf : nf ≤ 6) (hf : M.1 3 3 = nI nf) (hk : y_goOneTime_ok (M.1 4) (M.1 5) (M.1 6) (M.1 7) (M.1 21) (M.1 22) (M.1 23) (M.1 24) (M.1 41) (M.1 53) nr nt nf x1) : GM z mX10_goOneTime (d + 4) [.ref 53, .int x1] M (fun rs => rs = .inl (none, mrow (mrow (mrow (mrow M 22 ((y_goOneTime (M.1 4) (M.1 5) (M.1 6) (M.1 7) (M.1 21) (M.1 22) (M.1 23) (M.1 24) (M.1 41) (M.1 53) nr nt nf x1).2.1)) 24 ((y_goOneTime (M.1 4) (M.1 5) (M.1 6) (M.1 7) (M.1 21) (M.1 22) (M.1 23) (M.1 24) (M.1 41) (M.1 53) nr nt nf x1).2.2.1)) 41 ((y_goOneTime (M.1 4) (M.1 5) (M.1 6) (M.1 7) (M.1 21) (M.1 22) (M.1 23) (M.1 24) (M.1 41) (M.1 53) nr nt nf x1).2.2.2.1)) 53 ((y_goOneTime (M.1 4) (M.1 5) (M.1 6) (M.1 7) (M.1 21) (M.1 22) (M.1 23) (M.1 24) (M.1 41) (M.1 53) nr nt nf x1).2.2.2.2))) := by
  simp only [y_goOneTime_ok] at hk
  refine GM.of oX10_goOneTime.1 (Nat.le_of_ble_eq_true rfl) ?_
  show G z mX10_goOneTime (d + 4) 0 0 0 [some (.ref 53), some (.int x1), none, none, none] [] M _
  obtain ⟨Q, hQ⟩ : ∃ Q : Rs → Prop, Q = (fun rs => rs = .inl (none, mrow (mrow (mrow (mrow M 22 ((y_goOneTime (M.1 4) (M.1 5) (M.1 6) (M.1 7) (M.1 21) (M.1 22) (M.1 23) (M.1 24) (M.1 41) (M.1 53) nr nt nf x1).2.1)) 24 ((y_goOneTime (M.1 4) (M.1 5) (M.1 6) (M.1 7) (M.1 21) (M.1 22) (M.1 23) (M.1 24) (M.1 41) (M.1 53) nr nt nf x1).2.2.1)) 41 ((y_goOneTime (M.1 4) (M.1 5) (M.1 6) (M.1 7) (M.1 21) (M.1 22) (M.1 23) (M.1 24) (M.1 41) (M.1 53) nr nt nf x1).2.2.2.1)) 53 ((y_goOneTime (M.1 4) (M.1 5) (M.1 6) (M.1 7) (M.1 21) (M.1 22) (M.1 23) (M.1 24) (M.1 41) (M.1 53) nr nt nf x1).2.2.2.2))) := ⟨_, rfl⟩
  rw [← hQ]
  refine G.sl [(.aload_n 0, 1, 0, 0, 0, 0), (.aload_n 0, 1, 0, 0, 0, 0), (.getfield 7, 3, 9, 2, 103, 0), (.getfield 33, 3, 6, 3, 29, 0)] [] (pc2 := 8) (ls2 := [some (.ref 53), some (.int x1), none, none, none]) (st2 := [.int (M.1 3 3), .ref 53]) (M2 := M) (Ps := []) (by decide +kernel) rfl rfl trivial ?_
  rw [hf]
  obtain ⟨k1, hk⟩ := hk
  rcases g2 : y_draw (M.1 53) (nI nf) with ⟨v3, r4⟩
  try simp only [g2] at hk
  have t5 : GM z mX10_draw (d + 3) [.ref 53, .int (nI nf)] M (fun rs => rs = .inl (some (.int v3), mrow M 53 r4)) := by
    have q9 := c_y_draw_53 z (d + 3) M (nI nf) k1
    try simp only [mput, mrow_same, mrow_hit, mrow_miss, mrow_sw, idr_eq, ne_eq, Nat.reduceEqDiff, not_false_eq_true, Nat.reduceLT, reduceCtorEq, g2] at q9
    exact q9
  refine G.callV (as := [.int (nI nf)]) (rest := []) (a := 53) oX10_draw lk_EvenFinders_Years_51 (by decide +kernel) rfl rfl ⟨rfl, rfl⟩ (Nat.le_of_ble_eq_true rfl) rfl ⟨Nat.le_of_ble_eq_true rfl, Nat.le_of_ble_eq_true rfl⟩ t5 (fun v9 N9 h6 => ?_) (fun E9 N9 h6 => by cases h6)
  cases h6
  show G z mX10_goOneTime (d + 4) 0 0 11 [some (.ref 53), some (.int x1), none, none, none] [.int v3] (mrow M 53 r4) Q
  refine G.sl [(.istore_n 2, 1, 2, 0, 0, 0), (.aload_n 0, 1, 0, 0, 0, 0), (.aload_n 0, 1, 0, 0, 0, 0), (.getfield 7, 3, 9, 2, 103, 0), (.getfield 38, 3, 6, 1, 19, 0)] [] (pc2 := 20) (ls2 := [some (.ref 53), some (.int x1), some (.int v3), none, none]) (st2 := [.int (M.1 3 1), .ref 53]) (M2 := mrow M 53 r4) (Ps := []) (by decide +kernel) rfl rfl trivial ?_
  rw [hr]
  obtain ⟨k7, hk⟩ := hk
  rcases g8 : y_draw r4 (nI nr) with ⟨v9, r10⟩
  try simp only [g8] at hk
  have t11 : GM z mX10_draw (d + 3) [.ref 53, .int (nI nr)] (mrow M 53 r4) (fun rs => rs = .inl (some (.int v9), mrow M 53 r10)) := by
    have q9 := c_y_draw_53 z (d + 3) (mrow M 53 r4) (nI nr) k7
    try simp only [mput, mrow_same, mrow_hit, mrow_miss, mrow_sw, idr_eq, ne_eq, Nat.reduceEqDiff, not_false_eq_true, Nat.reduceLT, reduceCtorEq, g8] at q9
    exact q9
  refine G.callV (as := [.int (nI nr)]) (rest := []) (a := 53) oX10_draw lk_EvenFinders_Years_51 (by decide +kernel) rfl rfl ⟨rfl, rfl⟩ (Nat.le_of_ble_eq_true rfl) rfl ⟨Nat.le_of_ble_eq_true rfl, Nat.le_of_ble_eq_true rfl⟩ t11 (fun v9 N9 h12 => ?_) (fun E9 N9 h12 => by cases h12)
  cases h12
  show G z mX10_goOneTime (d + 4) 0 0 23 [some (.ref 53), some (.int x1), some (.int v3), none, none] [.int v9] (mrow M 53 r10) Q
  refine G.sl [(.istore_n 3, 1, 3, 0, 0, 0), (.aload_n 0, 1, 0, 0, 0, 0), (.aload_n 0, 1, 0, 0, 0, 0), (.getfield 7, 3, 9, 2, 103, 0), (.getfield 41, 3, 6, 2, 23, 0)] [] (pc2 := 32) (ls2 := [some (.ref 53), some (.int x1), some (.int v3), some (.int v9), none]) (st2 := [.int (M.1 3 2), .ref 53]) (M2 := mrow M 53 r10) (Ps := []) (by decide +kernel) rfl rfl trivial ?_
  rw [ht]
  obtain ⟨k13, hk⟩ := hk
  rcases g14 : y_draw r10 (nI nt) with ⟨v15, r16⟩
  try simp only [g14] at hk
  have t17 : GM z mX10_draw (d + 3) [.ref 53, .int (nI nt)] (mrow M 53 r10) (fun rs => rs = .inl (some (.int v15), mrow M 53 r16)) := by
    have q9 := c_y_draw_53 z (d + 3) (mrow M 53 r10) (nI nt) k13
    try simp only [mput, mrow_same, mrow_hit, mrow_miss, mrow_sw, idr_eq, ne_eq, Nat.reduceEqDiff, not_false_eq_true, Nat.reduceLT, reduceCtorEq, g14] at q9
    exact q9
  refine G.callV (as := [.int (nI nt)]) (rest := []) (a := 53) oX10_draw lk_EvenFinders_Years_51 (by decide +kernel) rfl rfl ⟨rfl, rfl⟩ (Nat.le_of_ble_eq_true rfl) rfl ⟨Nat.le_of_ble_eq_true rfl, Nat.le_of_ble_eq_true rfl⟩ t17 (fun v9 N9 h18 => ?_) (fun E9 N9 h18 => by cases h18)
  cases h18
  show G z mX10_goOneTime (d + 4) 0 0 35 [some (.ref 53), some (.int x1), some (.int v3), some (.int v9), none] [.int v15] (mrow M 53 r16) Q
  refine G.sl [(.istore 4, 2, 4, 0, 0, 0), (.aload_n 0, 1, 0, 0, 0, 0), (.getfield 17, 3, 9, 4, 105, 0), (.iload_n 2, 1, 2, 0, 0, 0), (.iload_n 3, 1, 3, 0, 0, 0)] [] (pc2 := 43) (ls2 := [some (.ref 53), some (.int x1), some (.int v3), some (.int v9), some (.int v15)]) (st2 := [.int v9, .int v3, .ref 40]) (M2 := mrow M 53 r16) (Ps := []) (by decide +kernel) rfl rfl trivial ?_
  obtain ⟨k19, k20, k21, k22, hk⟩ := hk
  obtain ⟨k23, hk⟩ := hk
  refine G.eq (st' := [.int (nI (ix v9)), .int (nI (ix v3)), .ref 40]) ?_ rfl (by rw [← (show v3 = nI (ix v3) from (ixE k19)), ← (show v9 = nI (ix v9) from (ixE k21))]) rfl
  rcases g24 : d_walks (M.1 4) (M.1 5) (M.1 6) (M.1 41) (ix v3) (ix v9) with ⟨v25, r26⟩
  try simp only [g24] at hk
  have ev25 : v25 = 0 ∨ v25 = 1 := by
    have q9 := d_walks_01 (M.1 4) (M.1 5) (M.1 6) (M.1 41) (ix v3) (ix v9)
    rw [g24] at q9
    exact q9
  have t27 : GM z mX1_walks (d + 3) [.ref 40, .int (nI (ix v3)), .int (nI (ix v9))] (mrow M 53 r16) (fun rs => rs = .inl (some (.int v25), mrow (mrow M 41 r26) 53 r16)) := by
    have q9 := c_d_walks_40 z (d + 2) (mrow M 53 r16) (ix v3) (ix v9) k20 k22
    try simp only [mput, mrow_same, mrow_hit, mrow_miss, mrow_sw, idr_eq, ne_eq, Nat.reduceEqDiff, not_false_eq_true, Nat.reduceLT, reduceCtorEq, g24] at q9
    exact q9
  refine G.callV (as := [.int (nI (ix v3)), .int (nI (ix v9))]) (rest := []) (a := 40) oX1_walks lk_EvenFinders_Years_55 (by decide +kernel) rfl rfl ⟨rfl, rfl⟩ (Nat.le_of_ble_eq_true rfl) rfl ⟨Nat.le_of_ble_eq_true rfl, Nat.le_of_ble_eq_true rfl⟩ t27 (fun v9 N9 h28 => ?_) (fun E9 N9 h28 => by cases h28)
  cases h28
  show G z mX10_goOneTime (d + 4) 0 0 46 [some (.ref 53), some (.int x1), some (.int v3), some (.int v9), some (.int v15)] [.int v25] (mrow (mrow M 41 r26) 53 r16) Q
  refine G.sl [(.pop, 1, 0, 0, 0, 0), (.aload_n 0, 1, 0, 0, 0, 0), (.getfield 17, 3, 9, 4, 105, 0), (.iload_n 2, 1, 2, 0, 0, 0), (.iload 4, 2, 4, 0, 0, 0)] [] (pc2 := 54) (ls2 := [some (.ref 53), some (.int x1), some (.int v3), some (.int v9), some (.int v15)]) (st2 := [.int v15, .int v3, .ref 40]) (M2 := mrow (mrow M 41 r26) 53 r16) (Ps := []) (by decide +kernel) rfl rfl trivial ?_
  obtain ⟨k29, k30, hk⟩ := hk
  obtain ⟨k31, hk⟩ := hk
  refine G.eq (st' := [.int (nI (ix v15)), .int (nI (ix v3)), .ref 40]) ?_ rfl (by rw [← (show v3 = nI (ix v3) from (ixE k19)), ← (show v15 = nI (ix v15) from (ixE k29))]) rfl
  rcases g32 : d_finds (M.1 7) (M.1 21) (M.1 22) (M.1 23) (M.1 24) r26 nt (ix v3) (ix v15) with ⟨v33, r34, r35, r36⟩
  try simp only [g32] at hk
  have ev33 : v33 = 0 ∨ v33 = 1 := by
    have q9 := d_finds_01 (M.1 7) (M.1 21) (M.1 22) (M.1 23) (M.1 24) r26 nt (ix v3) (ix v15)
    rw [g32] at q9
    exact q9
  have t37 : GM z mX1_finds (d + 3) [.ref 40, .int (nI (ix v3)), .int (nI (ix v15))] (mrow (mrow M 41 r26) 53 r16) (fun rs => rs = .inl (some (.int v33), mrow (mrow (mrow (mrow M 22 r34) 24 r35) 41 r36) 53 r16)) := by
    have q9 := c_d_finds_40 z d (mrow (mrow M 41 r26) 53 r16) (ix v3) (ix v15) nt hnt ht k20 k30 k31
    try simp only [mput, mrow_same, mrow_hit, mrow_miss, mrow_sw, idr_eq, ne_eq, Nat.reduceEqDiff, not_false_eq_true, Nat.reduceLT, reduceCtorEq, g32] at q9
    exact q9
  refine G.callV (as := [.int (nI (ix v3)), .int (nI (ix v15))]) (rest := []) (a := 40) oX1_finds lk_EvenFinders_Years_59 (by decide +kernel) rfl rfl ⟨rfl, rfl⟩ (Nat.le_of_ble_eq_true rfl) rfl ⟨Nat.le_of_ble_eq_true rfl, Nat.le_of_ble_eq_true rfl⟩ t37 (fun v9 N9 h38 => ?_) (fun E9 N9 h38 => by cases h38)
  cases h38
  show G z mX10_goOneTime (d + 4) 0 0 57 [some (.ref 53), some (.int x1), some (.int v3), some (.int v9), some (.int v15)] [.int v33] (mrow (mrow (mrow (mrow M 22 r34) 24 r35) 41 r36) 53 r16) Q
  refine G.if_eq (off := (16)) (tgt := 73) (by decide +kernel) rfl (fun c39 => ?_) (fun c39 => ?_)
  · skip
    rw [if_pos c39] at hk
    refine G.sl [(.aload_n 0, 1, 0, 0, 0, 0), (.getfield 17, 3, 9, 4, 105, 0), (.iload_n 2, 1, 2, 0, 0, 0), (.iload 4, 2, 4, 0, 0, 0)] [] (pc2 := 80) (ls2 := [some (.ref 53), some (.int x1), some (.int v3), some (.int v9), some (.int v15)]) (st2 := [.int v15, .int v3, .ref 40]) (M2 := mrow (mrow (mrow (mrow M 22 r34) 24 r35) 41 r36) 53 r16) (Ps := []) (by decide +kernel) rfl rfl trivial ?_
    obtain ⟨k40, hk⟩ := hk
    refine G.eq (st' := [.int (nI (ix v15)), .int (nI (ix v3)), .ref 40]) ?_ rfl (by rw [← (show v3 = nI (ix v3) from (ixE k19)), ← (show v15 = nI (ix v15) from (ixE k29))]) rfl
    rcases g41 : d_loses (M.1 7) r36 (ix v3) (ix v15) with ⟨v42, r43⟩
    try simp only [g41] at hk
    have ev42 : v42 = 0 ∨ v42 = 1 := by
      have q9 := d_loses_01 (M.1 7) r36 (ix v3) (ix v15)
      rw [g41] at q9
      exact q9
    have t44 : GM z mX1_loses (d + 3) [.ref 40, .int (nI (ix v3)), .int (nI (ix v15))] (mrow (mrow (mrow (mrow M 22 r34) 24 r35) 41 r36) 53 r16) (fun rs => rs = .inl (some (.int v42), mrow (mrow (mrow (mrow M 22 r34) 24 r35) 41 r43) 53 r16)) := by
      have q9 := c_d_loses_40 z (d + 2) (mrow (mrow (mrow (mrow M 22 r34) 24 r35) 41 r36) 53 r16) (ix v3) (ix v15) k20 k30
      try simp only [mput, mrow_same, mrow_hit, mrow_miss, mrow_sw, idr_eq, ne_eq, Nat.reduceEqDiff, not_false_eq_true, Nat.reduceLT, reduceCtorEq, g41] at q9
      exact q9
    refine G.callV (as := [.int (nI (ix v3)), .int (nI (ix v15))]) (rest := []) (a := 40) oX1_loses lk_EvenFinders_Years_61 (by decide +kernel) rfl rfl ⟨rfl, rfl⟩ (Nat.le_of_ble_eq_true rfl) rfl ⟨Nat.le_of_ble_eq_true rfl, Nat.le_of_ble_eq_true rfl⟩ t44 (fun v9 N9 h45 => ?_) (fun E9 N9 h45 => by cases h45)
    cases h45
    show G z mX10_goOneTime (d + 4) 0 0 83 [some (.ref 53), some (.int x1), some (.int v3), some (.int v9), some (.int v15)] [.int v42] (mrow (mrow (mrow (mrow M 22 r34) 24 r35) 41 r43) 53 r16) Q
    refine G.sl [(.pop, 1, 0, 0, 0, 0), (.aload_n 0, 1, 0, 0, 0, 0), (.bipush 16, 2, 0, 0, 0, nI 16)] [] (pc2 := 87) (ls2 := [some (.ref 53), some (.int x1), some (.int v3), some (.int v9), some (.int v15)]) (st2 := [.int (nI 16), .ref 53]) (M2 := mrow (mrow (mrow (mrow M 22 r34) 24 r35) 41 r43) 53 r16) (Ps := []) (by decide +kernel) rfl rfl trivial ?_
    obtain ⟨k46, hk⟩ := hk
    rcases g47 : y_draw r16 (nI 16) with ⟨v48, r49⟩
    have t50 : GM z mX10_draw (d + 3) [.ref 53, .int (nI 16)] (mrow (mrow (mrow (mrow M 22 r34) 24 r35) 41 r43) 53 r16) (fun rs => rs = .inl (some (.int v48), mrow (mrow (mrow (mrow M 22 r34) 24 r35) 41 r43) 53 r49)) := by
      have q9 := c_y_draw_53 z (d + 3) (mrow (mrow (mrow (mrow M 22 r34) 24 r35) 41 r43) 53 r16) (nI 16) k46
      try simp only [mput, mrow_same, mrow_hit, mrow_miss, mrow_sw, idr_eq, ne_eq, Nat.reduceEqDiff, not_false_eq_true, Nat.reduceLT, reduceCtorEq, g47] at q9
      exact q9
    refine G.callV (as := [.int (nI 16)]) (rest := []) (a := 53) oX10_draw lk_EvenFinders_Years_51 (by decide +kernel) rfl rfl ⟨rfl, rfl⟩ (Nat.le_of_ble_eq_true rfl) rfl ⟨Nat.le_of_ble_eq_true rfl, Nat.le_of_ble_eq_true rfl⟩ t50 (fun v9 N9 h51 => ?_) (fun E9 N9 h51 => by cases h51)
    cases h51
    show G z mX10_goOneTime (d + 4) 0 0 90 [some (.ref 53), some (.int x1), some (.int v3), some (.int v9), some (.int v15)] [.int v48] (mrow (mrow (mrow (mrow M 22 r34) 24 r35) 41 r43) 53 r49) Q
    refine G.sl [(.iload_n 1, 1, 1, 0, 0, 0)] [] (pc2 := 91) (ls2 := [some (.ref 53), some (.int x1), some (.int v3), some (.int v9), some (.int v15)]) (st2 := [.int x1, .int v48]) (M2 := mrow (mrow (mrow (mrow M 22 r34) 24 r35) 41 r43) 53 r49) (Ps := []) (by decide +kernel) rfl rfl trivial ?_
    refine G.ic_ge (off := (14)) (tgt := 105) (by decide +kernel) rfl (fun c52 => ?_) (fun c52 => ?_)
    · skip
      exact G.retv (by decide +kernel) rfl (Nat.le_of_ble_eq_true rfl) (Nat.le_of_ble_eq_true rfl) ((by rw [hQ]; simp only [y_goOneTime, g2, g8, g14, g24, g32, if_pos c39, g41, g47, if_pos c52, mrow_self]))
    · skip
      refine G.sl [(.aload_n 0, 1, 0, 0, 0, 0), (.getfield 17, 3, 9, 4, 105, 0), (.iload_n 2, 1, 2, 0, 0, 0), (.iload 4, 2, 4, 0, 0, 0)] [] (pc2 := 101) (ls2 := [some (.ref 53), some (.int x1), some (.int v3), some (.int v9), some (.int v15)]) (st2 := [.int v15, .int v3, .ref 40]) (M2 := mrow (mrow (mrow (mrow M 22 r34) 24 r35) 41 r43) 53 r49) (Ps := []) (by decide +kernel) rfl rfl trivial ?_
      refine G.eq (st' := [.int (nI (ix v15)), .int (nI (ix v3)), .ref 40]) ?_ rfl (by rw [← (show v3 = nI (ix v3) from (ixE k19)), ← (show v15 = nI (ix v15) from (ixE k29))]) rfl
      rcases g54 : d_slips (M.1 7) r43 (ix v3) (ix v15) with ⟨v55, r56⟩
      have ev55 : v55 = 0 ∨ v55 = 1 := by
        have q9 := d_slips_01 (M.1 7) r43 (ix v3) (ix v15)
        rw [g54] at q9
        exact q9
      have t57 : GM z mX1_slips (d + 3) [.ref 40, .int (nI (ix v3)), .int (nI (ix v15))] (mrow (mrow (mrow (mrow M 22 r34) 24 r35) 41 r43) 53 r49) (fun rs => rs = .inl (some (.int v55), mrow (mrow (mrow (mrow M 22 r34) 24 r35) 41 r56) 53 r49)) := by
        have q9 := c_d_slips_40 z (d + 2) (mrow (mrow (mrow (mrow M 22 r34) 24 r35) 41 r43) 53 r49) (ix v3) (ix v15) k20 k30
        try simp only [mput, mrow_same, mrow_hit, mrow_miss, mrow_sw, idr_eq, ne_eq, Nat.reduceEqDiff, not_false_eq_true, Nat.reduceLT, reduceCtorEq, g54] at q9
        exact q9
      refine G.callV (as := [.int (nI (ix v3)), .int (nI (ix v15))]) (rest := []) (a := 40) oX1_slips lk_EvenFinders_Years_64 (by decide +kernel) rfl rfl ⟨rfl, rfl⟩ (Nat.le_of_ble_eq_true rfl) rfl ⟨Nat.le_of_ble_eq_true rfl, Nat.le_of_ble_eq_true rfl⟩ t57 (fun v9 N9 h58 => ?_) (fun E9 N9 h58 => by cases h58)
      cases h58
      show G z mX10_goOneTime (d + 4) 0 0 104 [some (.ref 53), some (.int x1), some (.int v3), some (.int v9), some (.int v15)] [.int v55] (mrow (mrow (mrow (mrow M 22 r34) 24 r35) 41 r56) 53 r49) Q
      refine G.sl [(.pop, 1, 0, 0, 0, 0)] [] (pc2 := 105) (ls2 := [some (.ref 53), some (.int x1), some (.int v3), some (.int v9), some (.int v15)]) (st2 := []) (M2 := mrow (mrow (mrow (mrow M 22 r34) 24 r35) 41 r56) 53 r49) (Ps := []) (by decide +kernel) rfl rfl trivial ?_
      exact G.retv (by decide +kernel) rfl (Nat.le_of_ble_eq_true rfl) (Nat.le_of_ble_eq_true rfl) ((by rw [hQ]; simp only [y_goOneTime, g2, g8, g14, g24, g32, if_pos c39, g41, g47, if_neg c52, g54, mrow_self]))
  · skip
    rw [if_neg c39] at hk
    refine G.sl [(.aload_n 0, 1, 0, 0, 0, 0), (.dup, 1, 0, 0, 0, 0), (.getfield 30, 3, 9, 0, 100, 0), (.iconst 1, 1, 0, 0, 0, nI 1), (.iadd, 1, 0, 0, 0, 0), (.putfield 30, 3, 9, 0, 100, 0), (.goto 14, 3, 84, 0, 0, 0), (.aload_n 0, 1, 0, 0, 0, 0), (.bipush 16, 2, 0, 0, 0, nI 16)] [] (pc2 := 87) (ls2 := [some (.ref 53), some (.int x1), some (.int v3), some (.int v9), some (.int v15)]) (st2 := [.int (nI 16), .ref 53]) (M2 := mput (mrow (mrow (mrow (mrow M 22 r34) 24 r35) 41 r36) 53 r16) 53 0 ((r16 0) + (nI 1))) (Ps := []) (by decide +kernel) rfl rfl trivial ?_
    refine G.mem (M' := mrow (mrow (mrow (mrow M 22 r34) 24 r35) 41 r36) 53 (upd r16 0 ((r16 0) + (nI 1)))) (by first | rfl | (simp only [mput, mrow_same, mrow_hit, mrow_miss, mrow_sw, idr_eq, ne_eq, Nat.reduceEqDiff, not_false_eq_true, Nat.reduceLT, reduceCtorEq]; done)) ?_
    obtain ⟨k59, hk⟩ := hk
    rcases g60 : y_draw (upd r16 0 ((r16 0) + (nI 1))) (nI 16) with ⟨v61, r62⟩
    have t63 : GM z mX10_draw (d + 3) [.ref 53, .int (nI 16)] (mrow (mrow (mrow (mrow M 22 r34) 24 r35) 41 r36) 53 (upd r16 0 ((r16 0) + (nI 1)))) (fun rs => rs = .inl (some (.int v61), mrow (mrow (mrow (mrow M 22 r34) 24 r35) 41 r36) 53 r62)) := by
      have q9 := c_y_draw_53 z (d + 3) (mrow (mrow (mrow (mrow M 22 r34) 24 r35) 41 r36) 53 (upd r16 0 ((r16 0) + (nI 1)))) (nI 16) k59
      try simp only [mput, mrow_same, mrow_hit, mrow_miss, mrow_sw, idr_eq, ne_eq, Nat.reduceEqDiff, not_false_eq_true, Nat.reduceLT, reduceCtorEq, g60] at q9
      exact q9
    refine G.callV (as := [.int (nI 16)]) (rest := []) (a := 53) oX10_draw lk_EvenFinders_Years_51 (by decide +kernel) rfl rfl ⟨rfl, rfl⟩ (Nat.le_of_ble_eq_true rfl) rfl ⟨Nat.le_of_ble_eq_true rfl, Nat.le_of_ble_eq_true rfl⟩ t63 (fun v9 N9 h64 => ?_) (fun E9 N9 h64 => by cases h64)
    cases h64
    show G z mX10_goOneTime (d + 4) 0 0 90 [some (.ref 53), some (.int x1), some (.int v3), some (.int v9), some (.int v15)] [.int v61] (mrow (mrow (mrow (mrow M 22 r34) 24 r35) 41 r36) 53 r62) Q
    refine G.sl [(.iload_n 1, 1, 1, 0, 0, 0)] [] (pc2 := 91) (ls2 := [some (.ref 53), some (.int x1), some (.int v3), some (.int v9), some (.int v15)]) (st2 := [.int x1, .int v61]) (M2 := mrow (mrow (mrow (mrow M 22 r34) 24 r35) 41 r36) 53 r62) (Ps := []) (by decide +kernel) rfl rfl trivial ?_
    refine G.ic_ge (off := (14)) (tgt := 105) (by decide +kernel) rfl (fun c65 => ?_) (fun c65 => ?_)
    · skip
      exact G.retv (by decide +kernel) rfl (Nat.le_of_ble_eq_true rfl) (Nat.le_of_ble_eq_true rfl) ((by rw [hQ]; simp only [y_goOneTime, g2, g8, g14, g24, g32, if_neg c39, g60, if_pos c65, mrow_self]))
    · skip
      refine G.sl [(.aload_n 0, 1, 0, 0, 0, 0), (.getfield 17, 3, 9, 4, 105, 0), (.iload_n 2, 1, 2, 0, 0, 0), (.iload 4, 2, 4, 0, 0, 0)] [] (pc2 := 101) (ls2 := [some (.ref 53), some (.int x1), some (.int v3), some (.int v9), some (.int v15)]) (st2 := [.int v15, .int v3, .ref 40]) (M2 := mrow (mrow (mrow (mrow M 22 r34) 24 r35) 41 r36) 53 r62) (Ps := []) (by decide +kernel) rfl rfl trivial ?_
      refine G.eq (st' := [.int (nI (ix v15)), .int (nI (ix v3)), .ref 40]) ?_ rfl (by rw [← (show v3 = nI (ix v3) from (ixE k19)), ← (show v15 = nI (ix v15) from (ixE k29))]) rfl
      rcases g67 : d_slips (M.1 7) r36 (ix v3) (ix v15) with ⟨v68, r69⟩
      have ev68 : v68 = 0 ∨ v68 = 1 := by
        have q9 := d_slips_01 (M.1 7) r36 (ix v3) (ix v15)
        rw [g67] at q9
        exact q9
      have t70 : GM z mX1_slips (d + 3) [.ref 40, .int (nI (ix v3)), .int (nI (ix v15))] (mrow (mrow (mrow (mrow M 22 r34) 24 r35) 41 r36) 53 r62) (fun rs => rs = .inl (some (.int v68), mrow (mrow (mrow (mrow M 22 r34) 24 r35) 41 r69) 53 r62)) := by
        have q9 := c_d_slips_40 z (d + 2) (mrow (mrow (mrow (mrow M 22 r34) 24 r35) 41 r36) 53 r62) (ix v3) (ix v15) k20 k30
        try simp only [mput, mrow_same, mrow_hit, mrow_miss, mrow_sw, idr_eq, ne_eq, Nat.reduceEqDiff, not_false_eq_true, Nat.reduceLT, reduceCtorEq, g67] at q9
        exact q9
      refine G.callV (as := [.int (nI (ix v3)), .int (nI (ix v15))]) (rest := []) (a := 40) oX1_slips lk_EvenFinders_Years_64 (by decide +kernel) rfl rfl ⟨rfl, rfl⟩ (Nat.le_of_ble_eq_true rfl) rfl ⟨Nat.le_of_ble_eq_true rfl, Nat.le_of_ble_eq_true rfl⟩ t70 (fun v9 N9 h71 => ?_) (fun E9 N9 h71 => by cases h71)
      cases h71
      show G z mX10_goOneTime (d + 4) 0 0 104 [some (.ref 53), some (.int x1), some (.int v3), some (.int v9), some (.int v15)] [.int v68] (mrow (mrow (mrow (mrow M 22 r34) 24 r35) 41 r69) 53 r62) Q
      refine G.sl [(.pop, 1, 0, 0, 0, 0)] [] (pc2 := 105) (ls2 := [some (.ref 53), some (.int x1), some (.int v3), some (.int v9), some (.int v15)]) (st2 := []) (M2 := mrow (mrow (mrow (mrow M 22 r34) 24 r35) 41 r69) 53 r62) (Ps := []) (by decide +kernel) rfl rfl trivial ?_
      exact G.retv (by decide +kernel) rfl (Nat.le_of_ble_eq_true rfl) (Nat.le_of_ble_eq_true rfl) ((by rw [hQ]; simp only [y_goOneTime, g2, g8, g14, g24, g32, if_neg c39, g60, if_neg c65, g67, mrow_self]))
