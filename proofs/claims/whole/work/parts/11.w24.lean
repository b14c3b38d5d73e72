set_option maxHeartbeats 4000000 in
set_option maxRecDepth 3000 in
theorem c_k_town_54 (z : Zp) (d : Nat) (M : Mem) (x1 : Int32) (hk : k_town_ok (M.1 54) (M.1 55) (M.1 56) (M.1 57) (M.1 58) (M.1 59) (M.1 60) (M.1 61) (M.1 62) (M.1 71) (M.1 75) (M.1 76) x1) : GM z mX12_town (d + 6) [.ref 54, .int x1] M (fun rs => rs = .inl (some (.int ((k_town (M.1 54) (M.1 55) (M.1 56) (M.1 57) (M.1 58) (M.1 59) (M.1 60) (M.1 61) (M.1 62) (M.1 71) (M.1 75) (M.1 76) x1).1)), mrow (mrow (mrow (mrow (mrow (mrow (mrow (mrow (mrow (mrow (mrow M 54 ((k_town (M.1 54) (M.1 55) (M.1 56) (M.1 57) (M.1 58) (M.1 59) (M.1 60) (M.1 61) (M.1 62) (M.1 71) (M.1 75) (M.1 76) x1).2.1)) 55 ((k_town (M.1 54) (M.1 55) (M.1 56) (M.1 57) (M.1 58) (M.1 59) (M.1 60) (M.1 61) (M.1 62) (M.1 71) (M.1 75) (M.1 76) x1).2.2.1)) 57 ((k_town (M.1 54) (M.1 55) (M.1 56) (M.1 57) (M.1 58) (M.1 59) (M.1 60) (M.1 61) (M.1 62) (M.1 71) (M.1 75) (M.1 76) x1).2.2.2.1)) 58 ((k_town (M.1 54) (M.1 55) (M.1 56) (M.1 57) (M.1 58) (M.1 59) (M.1 60) (M.1 61) (M.1 62) (M.1 71) (M.1 75) (M.1 76) x1).2.2.2.2.1)) 59 ((k_town (M.1 54) (M.1 55) (M.1 56) (M.1 57) (M.1 58) (M.1 59) (M.1 60) (M.1 61) (M.1 62) (M.1 71) (M.1 75) (M.1 76) x1).2.2.2.2.2.1)) 60 ((k_town (M.1 54) (M.1 55) (M.1 56) (M.1 57) (M.1 58) (M.1 59) (M.1 60) (M.1 61) (M.1 62) (M.1 71) (M.1 75) (M.1 76) x1).2.2.2.2.2.2.1)) 61 ((k_town (M.1 54) (M.1 55) (M.1 56) (M.1 57) (M.1 58) (M.1 59) (M.1 60) (M.1 61) (M.1 62) (M.1 71) (M.1 75) (M.1 76) x1).2.2.2.2.2.2.2.1)) 62 ((k_town (M.1 54) (M.1 55) (M.1 56) (M.1 57) (M.1 58) (M.1 59) (M.1 60) (M.1 61) (M.1 62) (M.1 71) (M.1 75) (M.1 76) x1).2.2.2.2.2.2.2.2.1)) 71 ((k_town (M.1 54) (M.1 55) (M.1 56) (M.1 57) (M.1 58) (M.1 59) (M.1 60) (M.1 61) (M.1 62) (M.1 71) (M.1 75) (M.1 76) x1).2.2.2.2.2.2.2.2.2.1)) 75 ((k_town (M.1 54) (M.1 55) (M.1 56) (M.1 57) (M.1 58) (M.1 59) (M.1 60) (M.1 61) (M.1 62) (M.1 71) (M.1 75) (M.1 76) x1).2.2.2.2.2.2.2.2.2.2.1)) 76 ((k_town (M.1 54) (M.1 55) (M.1 56) (M.1 57) (M.1 58) (M.1 59) (M.1 60) (M.1 61) (M.1 62) (M.1 71) (M.1 75) (M.1 76) x1).2.2.2.2.2.2.2.2.2.2.2))) := by
  simp only [k_town_ok] at hk
  refine GM.of oX12_town.1 (Nat.le_of_ble_eq_true rfl) ?_
  show G z mX12_town (d + 6) 0 0 0 [some (.ref 54), some (.int x1), none, none] [] M _
  obtain ⟨Q, hQ⟩ : ∃ Q : Rs → Prop, Q = (fun rs => rs = .inl (some (.int ((k_town (M.1 54) (M.1 55) (M.1 56) (M.1 57) (M.1 58) (M.1 59) (M.1 60) (M.1 61) (M.1 62) (M.1 71) (M.1 75) (M.1 76) x1).1)), mrow (mrow (mrow (mrow (mrow (mrow (mrow (mrow (mrow (mrow (mrow M 54 ((k_town (M.1 54) (M.1 55) (M.1 56) (M.1 57) (M.1 58) (M.1 59) (M.1 60) (M.1 61) (M.1 62) (M.1 71) (M.1 75) (M.1 76) x1).2.1)) 55 ((k_town (M.1 54) (M.1 55) (M.1 56) (M.1 57) (M.1 58) (M.1 59) (M.1 60) (M.1 61) (M.1 62) (M.1 71) (M.1 75) (M.1 76) x1).2.2.1)) 57 ((k_town (M.1 54) (M.1 55) (M.1 56) (M.1 57) (M.1 58) (M.1 59) (M.1 60) (M.1 61) (M.1 62) (M.1 71) (M.1 75) (M.1 76) x1).2.2.2.1)) 58 ((k_town (M.1 54) (M.1 55) (M.1 56) (M.1 57) (M.1 58) (M.1 59) (M.1 60) (M.1 61) (M.1 62) (M.1 71) (M.1 75) (M.1 76) x1).2.2.2.2.1)) 59 ((k_town (M.1 54) (M.1 55) (M.1 56) (M.1 57) (M.1 58) (M.1 59) (M.1 60) (M.1 61) (M.1 62) (M.1 71) (M.1 75) (M.1 76) x1).2.2.2.2.2.1)) 60 ((k_town (M.1 54) (M.1 55) (M.1 56) (M.1 57) (M.1 58) (M.1 59) (M.1 60) (M.1 61) (M.1 62) (M.1 71) (M.1 75) (M.1 76) x1).2.2.2.2.2.2.1)) 61 ((k_town (M.1 54) (M.1 55) (M.1 56) (M.1 57) (M.1 58) (M.1 59) (M.1 60) (M.1 61) (M.1 62) (M.1 71) (M.1 75) (M.1 76) x1).2.2.2.2.2.2.2.1)) 62 ((k_town (M.1 54) (M.1 55) (M.1 56) (M.1 57) (M.1 58) (M.1 59) (M.1 60) (M.1 61) (M.1 62) (M.1 71) (M.1 75) (M.1 76) x1).2.2.2.2.2.2.2.2.1)) 71 ((k_town (M.1 54) (M.1 55) (M.1 56) (M.1 57) (M.1 58) (M.1 59) (M.1 60) (M.1 61) (M.1 62) (M.1 71) (M.1 75) (M.1 76) x1).2.2.2.2.2.2.2.2.2.1)) 75 ((k_town (M.1 54) (M.1 55) (M.1 56) (M.1 57) (M.1 58) (M.1 59) (M.1 60) (M.1 61) (M.1 62) (M.1 71) (M.1 75) (M.1 76) x1).2.2.2.2.2.2.2.2.2.2.1)) 76 ((k_town (M.1 54) (M.1 55) (M.1 56) (M.1 57) (M.1 58) (M.1 59) (M.1 60) (M.1 61) (M.1 62) (M.1 71) (M.1 75) (M.1 76) x1).2.2.2.2.2.2.2.2.2.2.2))) := ⟨_, rfl⟩
  rw [← hQ]
  refine G.sl [(.aload_n 0, 1, 0, 0, 0, 0), (.iconst 0, 1, 0, 0, 0, nI 0), (.putfield 3, 3, 11, 0, 123, 0), (.aload_n 0, 1, 0, 0, 0, 0), (.iload_n 1, 1, 1, 0, 0, 0)] [] (pc2 := 7) (ls2 := [some (.ref 54), some (.int x1), none, none]) (st2 := [.int x1, .ref 54]) (M2 := mput M 54 0 (nI 0)) (Ps := []) (by decide +kernel) rfl rfl trivial ?_
  refine G.mem (M' := mrow M 54 (upd (M.1 54) 0 (nI 0))) (by first | rfl | (simp only [mput, mrow_same, mrow_hit, mrow_miss, mrow_sw, idr_eq, ne_eq, Nat.reduceEqDiff, not_false_eq_true, Nat.reduceLT, reduceCtorEq]; done)) ?_
  refine G.if_lt (off := (15)) (tgt := 22) (by decide +kernel) rfl (fun c1 => ?_) (fun c1 => ?_)
  · skip
    rw [if_pos c1] at hk
    refine G.sl [(.iconst 0, 1, 0, 0, 0, nI 0), (.iconst 1, 1, 0, 0, 0, nI 1), (.iconst 1, 1, 0, 0, 0, nI 1)] [] (pc2 := 25) (ls2 := [some (.ref 54), some (.int x1), none, none]) (st2 := [.int (nI 1), .int (nI 1), .int (nI 0), .ref 54]) (M2 := mrow M 54 (upd (M.1 54) 0 (nI 0))) (Ps := []) (by decide +kernel) rfl rfl trivial ?_
    have t2 : GM z mX12_may (d + 5) [.ref 54, .int (nI 0), .int (nI 1), .int (nI 1)] (mrow M 54 (upd (M.1 54) 0 (nI 0))) (fun rs => rs = .inl (some (.int (nI 0)), mrow (mrow M 54 (upd (upd (M.1 54) 0 (nI 0)) 0 (nI 1))) 55 (upd (M.1 55) 1 ((M.1 55 1) + nI 1)))) := by
      have q9 := m_may_1_f z (d + 5) (mrow M 54 (upd (M.1 54) 0 (nI 0))) (nI 1) (by first | rfl | (simp only [mput, mrow_same, mrow_hit, mrow_miss, mrow_sw, idr_eq, ne_eq, Nat.reduceEqDiff, not_false_eq_true, Nat.reduceLT, reduceCtorEq, pk_us]; done)) (by decide)
      try simp only [mput, mrow_same, mrow_hit, mrow_miss, mrow_sw, idr_eq, ne_eq, Nat.reduceEqDiff, not_false_eq_true, Nat.reduceLT, reduceCtorEq] at q9
      exact q9
    refine G.callV (as := [.int (nI 0), .int (nI 1), .int (nI 1)]) (rest := []) (a := 54) oX12_may lk_EvenFindersModel_213 (by decide +kernel) rfl rfl ⟨rfl, rfl⟩ (Nat.le_of_ble_eq_true rfl) rfl ⟨Nat.le_of_ble_eq_true rfl, Nat.le_of_ble_eq_true rfl⟩ t2 (fun v9 N9 h3 => ?_) (fun E9 N9 h3 => by cases h3)
    cases h3
    show G z mX12_town (d + 6) 0 0 28 [some (.ref 54), some (.int x1), none, none] [.int (nI 0)] (mrow (mrow M 54 (upd (upd (M.1 54) 0 (nI 0)) 0 (nI 1))) 55 (upd (M.1 55) 1 ((M.1 55 1) + nI 1))) Q
    refine G.if_ne (off := (5)) (tgt := 33) (by decide +kernel) rfl (fun h9 => absurd (by decide) h9) (fun _ => ?_)
    refine G.sl [(.iconst 0, 1, 0, 0, 0, nI 0)] [] (pc2 := 32) (ls2 := [some (.ref 54), some (.int x1), none, none]) (st2 := [.int (nI 0)]) (M2 := mrow (mrow M 54 (upd (upd (M.1 54) 0 (nI 0)) 0 (nI 1))) 55 (upd (M.1 55) 1 ((M.1 55 1) + nI 1))) (Ps := []) (by decide +kernel) rfl rfl trivial ?_
    refine G.mem (M' := mrow (mrow (mrow (mrow (mrow (mrow (mrow (mrow (mrow (mrow (mrow M 54 (upd (upd (M.1 54) 0 (nI 0)) 0 (nI 1))) 55 (upd (M.1 55) 1 ((M.1 55 1) + nI 1))) 57 (M.1 57)) 58 (M.1 58)) 59 (M.1 59)) 60 (M.1 60)) 61 (M.1 61)) 62 (M.1 62)) 71 (M.1 71)) 75 (M.1 75)) 76 (M.1 76)) (((((((((((mrow_id (N := mrow (mrow M 54 (upd (upd (M.1 54) 0 (nI 0)) 0 (nI 1))) 55 (upd (M.1 55) 1 ((M.1 55 1) + nI 1))) (c := 57) (f := M.1 57) (by first | rfl | (simp only [mput, mrow_same, mrow_hit, mrow_miss, mrow_sw, idr_eq, ne_eq, Nat.reduceEqDiff, not_false_eq_true, Nat.reduceLT, reduceCtorEq]; done))).symm).trans (mrow_id (N := mrow (mrow (mrow M 54 (upd (upd (M.1 54) 0 (nI 0)) 0 (nI 1))) 55 (upd (M.1 55) 1 ((M.1 55 1) + nI 1))) 57 (M.1 57)) (c := 58) (f := M.1 58) (by first | rfl | (simp only [mput, mrow_same, mrow_hit, mrow_miss, mrow_sw, idr_eq, ne_eq, Nat.reduceEqDiff, not_false_eq_true, Nat.reduceLT, reduceCtorEq]; done))).symm).trans (mrow_id (N := mrow (mrow (mrow (mrow M 54 (upd (upd (M.1 54) 0 (nI 0)) 0 (nI 1))) 55 (upd (M.1 55) 1 ((M.1 55 1) + nI 1))) 57 (M.1 57)) 58 (M.1 58)) (c := 59) (f := M.1 59) (by first | rfl | (simp only [mput, mrow_same, mrow_hit, mrow_miss, mrow_sw, idr_eq, ne_eq, Nat.reduceEqDiff, not_false_eq_true, Nat.reduceLT, reduceCtorEq]; done))).symm).trans (mrow_id (N := mrow (mrow (mrow (mrow (mrow M 54 (upd (upd (M.1 54) 0 (nI 0)) 0 (nI 1))) 55 (upd (M.1 55) 1 ((M.1 55 1) + nI 1))) 57 (M.1 57)) 58 (M.1 58)) 59 (M.1 59)) (c := 60) (f := M.1 60) (by first | rfl | (simp only [mput, mrow_same, mrow_hit, mrow_miss, mrow_sw, idr_eq, ne_eq, Nat.reduceEqDiff, not_false_eq_true, Nat.reduceLT, reduceCtorEq]; done))).symm).trans (mrow_id (N := mrow (mrow (mrow (mrow (mrow (mrow M 54 (upd (upd (M.1 54) 0 (nI 0)) 0 (nI 1))) 55 (upd (M.1 55) 1 ((M.1 55 1) + nI 1))) 57 (M.1 57)) 58 (M.1 58)) 59 (M.1 59)) 60 (M.1 60)) (c := 61) (f := M.1 61) (by first | rfl | (simp only [mput, mrow_same, mrow_hit, mrow_miss, mrow_sw, idr_eq, ne_eq, Nat.reduceEqDiff, not_false_eq_true, Nat.reduceLT, reduceCtorEq]; done))).symm).trans (mrow_id (N := mrow (mrow (mrow (mrow (mrow (mrow (mrow M 54 (upd (upd (M.1 54) 0 (nI 0)) 0 (nI 1))) 55 (upd (M.1 55) 1 ((M.1 55 1) + nI 1))) 57 (M.1 57)) 58 (M.1 58)) 59 (M.1 59)) 60 (M.1 60)) 61 (M.1 61)) (c := 62) (f := M.1 62) (by first | rfl | (simp only [mput, mrow_same, mrow_hit, mrow_miss, mrow_sw, idr_eq, ne_eq, Nat.reduceEqDiff, not_false_eq_true, Nat.reduceLT, reduceCtorEq]; done))).symm).trans (mrow_id (N := mrow (mrow (mrow (mrow (mrow (mrow (mrow (mrow M 54 (upd (upd (M.1 54) 0 (nI 0)) 0 (nI 1))) 55 (upd (M.1 55) 1 ((M.1 55 1) + nI 1))) 57 (M.1 57)) 58 (M.1 58)) 59 (M.1 59)) 60 (M.1 60)) 61 (M.1 61)) 62 (M.1 62)) (c := 71) (f := M.1 71) (by first | rfl | (simp only [mput, mrow_same, mrow_hit, mrow_miss, mrow_sw, idr_eq, ne_eq, Nat.reduceEqDiff, not_false_eq_true, Nat.reduceLT, reduceCtorEq]; done))).symm).trans (mrow_id (N := mrow (mrow (mrow (mrow (mrow (mrow (mrow (mrow (mrow M 54 (upd (upd (M.1 54) 0 (nI 0)) 0 (nI 1))) 55 (upd (M.1 55) 1 ((M.1 55 1) + nI 1))) 57 (M.1 57)) 58 (M.1 58)) 59 (M.1 59)) 60 (M.1 60)) 61 (M.1 61)) 62 (M.1 62)) 71 (M.1 71)) (c := 75) (f := M.1 75) (by first | rfl | (simp only [mput, mrow_same, mrow_hit, mrow_miss, mrow_sw, idr_eq, ne_eq, Nat.reduceEqDiff, not_false_eq_true, Nat.reduceLT, reduceCtorEq]; done))).symm).trans (mrow_id (N := mrow (mrow (mrow (mrow (mrow (mrow (mrow (mrow (mrow (mrow M 54 (upd (upd (M.1 54) 0 (nI 0)) 0 (nI 1))) 55 (upd (M.1 55) 1 ((M.1 55 1) + nI 1))) 57 (M.1 57)) 58 (M.1 58)) 59 (M.1 59)) 60 (M.1 60)) 61 (M.1 61)) 62 (M.1 62)) 71 (M.1 71)) 75 (M.1 75)) (c := 76) (f := M.1 76) (by first | rfl | (simp only [mput, mrow_same, mrow_hit, mrow_miss, mrow_sw, idr_eq, ne_eq, Nat.reduceEqDiff, not_false_eq_true, Nat.reduceLT, reduceCtorEq]; done))).symm).trans (by first | rfl | (simp only [mput, mrow_same, mrow_hit, mrow_miss, mrow_sw, idr_eq, ne_eq, Nat.reduceEqDiff, not_false_eq_true, Nat.reduceLT, reduceCtorEq]; done))) ?_
    exact G.reti (by decide +kernel) rfl rfl (Nat.le_of_ble_eq_true rfl) (Nat.le_of_ble_eq_true rfl) ((by rw [hQ]; simp only [k_town, if_pos c1, mrow_self]))
  · skip
    rw [if_neg c1] at hk
    refine G.sl [(.iload_n 1, 1, 1, 0, 0, 0), (.aload_n 0, 1, 0, 0, 0, 0), (.getfield 98, 3, 11, 2, 125, 0)] [] (pc2 := 15) (ls2 := [some (.ref 54), some (.int x1), none, none]) (st2 := [.int (M.1 54 2), .int x1, .ref 54]) (M2 := mrow M 54 (upd (M.1 54) 0 (nI 0))) (Ps := []) (by decide +kernel) rfl rfl trivial ?_
    refine G.ic_gt (off := (7)) (tgt := 22) (by decide +kernel) rfl (fun c4 => ?_) (fun c4 => ?_)
    · skip
      rw [if_pos c4] at hk
      refine G.sl [(.iconst 0, 1, 0, 0, 0, nI 0), (.iconst 1, 1, 0, 0, 0, nI 1), (.iconst 1, 1, 0, 0, 0, nI 1)] [] (pc2 := 25) (ls2 := [some (.ref 54), some (.int x1), none, none]) (st2 := [.int (nI 1), .int (nI 1), .int (nI 0), .ref 54]) (M2 := mrow M 54 (upd (M.1 54) 0 (nI 0))) (Ps := []) (by decide +kernel) rfl rfl trivial ?_
      have t5 : GM z mX12_may (d + 5) [.ref 54, .int (nI 0), .int (nI 1), .int (nI 1)] (mrow M 54 (upd (M.1 54) 0 (nI 0))) (fun rs => rs = .inl (some (.int (nI 0)), mrow (mrow M 54 (upd (upd (M.1 54) 0 (nI 0)) 0 (nI 1))) 55 (upd (M.1 55) 1 ((M.1 55 1) + nI 1)))) := by
        have q9 := m_may_1_f z (d + 5) (mrow M 54 (upd (M.1 54) 0 (nI 0))) (nI 1) (by first | rfl | (simp only [mput, mrow_same, mrow_hit, mrow_miss, mrow_sw, idr_eq, ne_eq, Nat.reduceEqDiff, not_false_eq_true, Nat.reduceLT, reduceCtorEq, pk_us]; done)) (by decide)
        try simp only [mput, mrow_same, mrow_hit, mrow_miss, mrow_sw, idr_eq, ne_eq, Nat.reduceEqDiff, not_false_eq_true, Nat.reduceLT, reduceCtorEq] at q9
        exact q9
      refine G.callV (as := [.int (nI 0), .int (nI 1), .int (nI 1)]) (rest := []) (a := 54) oX12_may lk_EvenFindersModel_213 (by decide +kernel) rfl rfl ⟨rfl, rfl⟩ (Nat.le_of_ble_eq_true rfl) rfl ⟨Nat.le_of_ble_eq_true rfl, Nat.le_of_ble_eq_true rfl⟩ t5 (fun v9 N9 h6 => ?_) (fun E9 N9 h6 => by cases h6)
      cases h6
      show G z mX12_town (d + 6) 0 0 28 [some (.ref 54), some (.int x1), none, none] [.int (nI 0)] (mrow (mrow M 54 (upd (upd (M.1 54) 0 (nI 0)) 0 (nI 1))) 55 (upd (M.1 55) 1 ((M.1 55 1) + nI 1))) Q
      refine G.if_ne (off := (5)) (tgt := 33) (by decide +kernel) rfl (fun h9 => absurd (by decide) h9) (fun _ => ?_)
      refine G.sl [(.iconst 0, 1, 0, 0, 0, nI 0)] [] (pc2 := 32) (ls2 := [some (.ref 54), some (.int x1), none, none]) (st2 := [.int (nI 0)]) (M2 := mrow (mrow M 54 (upd (upd (M.1 54) 0 (nI 0)) 0 (nI 1))) 55 (upd (M.1 55) 1 ((M.1 55 1) + nI 1))) (Ps := []) (by decide +kernel) rfl rfl trivial ?_
      refine G.mem (M' := mrow (mrow (mrow (mrow (mrow (mrow (mrow (mrow (mrow (mrow (mrow M 54 (upd (upd (M.1 54) 0 (nI 0)) 0 (nI 1))) 55 (upd (M.1 55) 1 ((M.1 55 1) + nI 1))) 57 (M.1 57)) 58 (M.1 58)) 59 (M.1 59)) 60 (M.1 60)) 61 (M.1 61)) 62 (M.1 62)) 71 (M.1 71)) 75 (M.1 75)) 76 (M.1 76)) (((((((((((mrow_id (N := mrow (mrow M 54 (upd (upd (M.1 54) 0 (nI 0)) 0 (nI 1))) 55 (upd (M.1 55) 1 ((M.1 55 1) + nI 1))) (c := 57) (f := M.1 57) (by first | rfl | (simp only [mput, mrow_same, mrow_hit, mrow_miss, mrow_sw, idr_eq, ne_eq, Nat.reduceEqDiff, not_false_eq_true, Nat.reduceLT, reduceCtorEq]; done))).symm).trans (mrow_id (N := mrow (mrow (mrow M 54 (upd (upd (M.1 54) 0 (nI 0)) 0 (nI 1))) 55 (upd (M.1 55) 1 ((M.1 55 1) + nI 1))) 57 (M.1 57)) (c := 58) (f := M.1 58) (by first | rfl | (simp only [mput, mrow_same, mrow_hit, mrow_miss, mrow_sw, idr_eq, ne_eq, Nat.reduceEqDiff, not_false_eq_true, Nat.reduceLT, reduceCtorEq]; done))).symm).trans (mrow_id (N := mrow (mrow (mrow (mrow M 54 (upd (upd (M.1 54) 0 (nI 0)) 0 (nI 1))) 55 (upd (M.1 55) 1 ((M.1 55 1) + nI 1))) 57 (M.1 57)) 58 (M.1 58)) (c := 59) (f := M.1 59) (by first | rfl | (simp only [mput, mrow_same, mrow_hit, mrow_miss, mrow_sw, idr_eq, ne_eq, Nat.reduceEqDiff, not_false_eq_true, Nat.reduceLT, reduceCtorEq]; done))).symm).trans (mrow_id (N := mrow (mrow (mrow (mrow (mrow M 54 (upd (upd (M.1 54) 0 (nI 0)) 0 (nI 1))) 55 (upd (M.1 55) 1 ((M.1 55 1) + nI 1))) 57 (M.1 57)) 58 (M.1 58)) 59 (M.1 59)) (c := 60) (f := M.1 60) (by first | rfl | (simp only [mput, mrow_same, mrow_hit, mrow_miss, mrow_sw, idr_eq, ne_eq, Nat.reduceEqDiff, not_false_eq_true, Nat.reduceLT, reduceCtorEq]; done))).symm).trans (mrow_id (N := mrow (mrow (mrow (mrow (mrow (mrow M 54 (upd (upd (M.1 54) 0 (nI 0)) 0 (nI 1))) 55 (upd (M.1 55) 1 ((M.1 55 1) + nI 1))) 57 (M.1 57)) 58 (M.1 58)) 59 (M.1 59)) 60 (M.1 60)) (c := 61) (f := M.1 61) (by first | rfl | (simp only [mput, mrow_same, mrow_hit, mrow_miss, mrow_sw, idr_eq, ne_eq, Nat.reduceEqDiff, not_false_eq_true, Nat.reduceLT, reduceCtorEq]; done))).symm).trans (mrow_id (N := mrow (mrow (mrow (mrow (mrow (mrow (mrow M 54 (upd (upd (M.1 54) 0 (nI 0)) 0 (nI 1))) 55 (upd (M.1 55) 1 ((M.1 55 1) + nI 1))) 57 (M.1 57)) 58 (M.1 58)) 59 (M.1 59)) 60 (M.1 60)) 61 (M.1 61)) (c := 62) (f := M.1 62) (by first | rfl | (simp only [mput, mrow_same, mrow_hit, mrow_miss, mrow_sw, idr_eq, ne_eq, Nat.reduceEqDiff, not_false_eq_true, Nat.reduceLT, reduceCtorEq]; done))).symm).trans (mrow_id (N := mrow (mrow (mrow (mrow (mrow (mrow (mrow (mrow M 54 (upd (upd (M.1 54) 0 (nI 0)) 0 (nI 1))) 55 (upd (M.1 55) 1 ((M.1 55 1) + nI 1))) 57 (M.1 57)) 58 (M.1 58)) 59 (M.1 59)) 60 (M.1 60)) 61 (M.1 61)) 62 (M.1 62)) (c := 71) (f := M.1 71) (by first | rfl | (simp only [mput, mrow_same, mrow_hit, mrow_miss, mrow_sw, idr_eq, ne_eq, Nat.reduceEqDiff, not_false_eq_true, Nat.reduceLT, reduceCtorEq]; done))).symm).trans (mrow_id (N := mrow (mrow (mrow (mrow (mrow (mrow (mrow (mrow (mrow M 54 (upd (upd (M.1 54) 0 (nI 0)) 0 (nI 1))) 55 (upd (M.1 55) 1 ((M.1 55 1) + nI 1))) 57 (M.1 57)) 58 (M.1 58)) 59 (M.1 59)) 60 (M.1 60)) 61 (M.1 61)) 62 (M.1 62)) 71 (M.1 71)) (c := 75) (f := M.1 75) (by first | rfl | (simp only [mput, mrow_same, mrow_hit, mrow_miss, mrow_sw, idr_eq, ne_eq, Nat.reduceEqDiff, not_false_eq_true, Nat.reduceLT, reduceCtorEq]; done))).symm).trans (mrow_id (N := mrow (mrow (mrow (mrow (mrow (mrow (mrow (mrow (mrow (mrow M 54 (upd (upd (M.1 54) 0 (nI 0)) 0 (nI 1))) 55 (upd (M.1 55) 1 ((M.1 55 1) + nI 1))) 57 (M.1 57)) 58 (M.1 58)) 59 (M.1 59)) 60 (M.1 60)) 61 (M.1 61)) 62 (M.1 62)) 71 (M.1 71)) 75 (M.1 75)) (c := 76) (f := M.1 76) (by first | rfl | (simp only [mput, mrow_same, mrow_hit, mrow_miss, mrow_sw, idr_eq, ne_eq, Nat.reduceEqDiff, not_false_eq_true, Nat.reduceLT, reduceCtorEq]; done))).symm).trans (by first | rfl | (simp only [mput, mrow_same, mrow_hit, mrow_miss, mrow_sw, idr_eq, ne_eq, Nat.reduceEqDiff, not_false_eq_true, Nat.reduceLT, reduceCtorEq]; done))) ?_
      exact G.reti (by decide +kernel) rfl rfl (Nat.le_of_ble_eq_true rfl) (Nat.le_of_ble_eq_true rfl) ((by rw [hQ]; simp only [k_town, if_neg c1, if_pos c4, mrow_self]))
    · skip
      rw [if_neg c4] at hk
      refine G.sl [(.iconst 1, 1, 0, 0, 0, nI 1), (.goto 4, 3, 23, 0, 0, 0), (.iconst 1, 1, 0, 0, 0, nI 1), (.iconst 1, 1, 0, 0, 0, nI 1)] [] (pc2 := 25) (ls2 := [some (.ref 54), some (.int x1), none, none]) (st2 := [.int (nI 1), .int (nI 1), .int (nI 1), .ref 54]) (M2 := mrow M 54 (upd (M.1 54) 0 (nI 0))) (Ps := []) (by decide +kernel) rfl rfl trivial ?_
      have t7 : GM z mX12_may (d + 5) [.ref 54, .int (nI 1), .int (nI 1), .int (nI 1)] (mrow M 54 (upd (M.1 54) 0 (nI 0))) (fun rs => rs = .inl (some (.int (nI 1)), mrow M 54 (upd (M.1 54) 0 (nI 0)))) := by
        have q9 := m_may_1_t z (d + 5) (mrow M 54 (upd (M.1 54) 0 (nI 0))) (nI 1) (by first | rfl | (simp only [mput, mrow_same, mrow_hit, mrow_miss, mrow_sw, idr_eq, ne_eq, Nat.reduceEqDiff, not_false_eq_true, Nat.reduceLT, reduceCtorEq, pk_us]; done))
        try simp only [mput, mrow_same, mrow_hit, mrow_miss, mrow_sw, idr_eq, ne_eq, Nat.reduceEqDiff, not_false_eq_true, Nat.reduceLT, reduceCtorEq] at q9
        exact q9
      refine G.callV (as := [.int (nI 1), .int (nI 1), .int (nI 1)]) (rest := []) (a := 54) oX12_may lk_EvenFindersModel_213 (by decide +kernel) rfl rfl ⟨rfl, rfl⟩ (Nat.le_of_ble_eq_true rfl) rfl ⟨Nat.le_of_ble_eq_true rfl, Nat.le_of_ble_eq_true rfl⟩ t7 (fun v9 N9 h8 => ?_) (fun E9 N9 h8 => by cases h8)
      cases h8
      show G z mX12_town (d + 6) 0 0 28 [some (.ref 54), some (.int x1), none, none] [.int (nI 1)] (mrow M 54 (upd (M.1 54) 0 (nI 0))) Q
      refine G.if_ne (off := (5)) (tgt := 33) (by decide +kernel) rfl (fun _ => ?_) (fun h9 => absurd h9 (by decide))
      refine G.sl [(.aload_n 0, 1, 0, 0, 0, 0), (.iload_n 1, 1, 1, 0, 0, 0)] [] (pc2 := 35) (ls2 := [some (.ref 54), some (.int x1), none, none]) (st2 := [.int x1, .ref 54]) (M2 := mrow M 54 (upd (M.1 54) 0 (nI 0))) (Ps := []) (by decide +kernel) rfl rfl trivial ?_
      obtain ⟨k9, hk⟩ := hk
      rcases g10 : k_begins (upd (M.1 54) 0 (nI 0)) x1 with ⟨u11, r12⟩
      try simp only [g10] at hk
      have t13 : GM z mX12_begins (d + 5) [.ref 54, .int x1] (mrow M 54 (upd (M.1 54) 0 (nI 0))) (fun rs => rs = .inl (none, mrow M 54 r12)) := by
        have q9 := c_k_begins_54 z (d + 5) (mrow M 54 (upd (M.1 54) 0 (nI 0))) x1
        try simp only [mput, mrow_same, mrow_hit, mrow_miss, mrow_sw, idr_eq, ne_eq, Nat.reduceEqDiff, not_false_eq_true, Nat.reduceLT, reduceCtorEq, g10] at q9
        exact q9
      refine G.callV (as := [.int x1]) (rest := []) (a := 54) oX12_begins lk_EvenFindersModel_217 (by decide +kernel) rfl rfl ⟨rfl, rfl⟩ (Nat.le_of_ble_eq_true rfl) rfl ⟨Nat.le_of_ble_eq_true rfl, Nat.le_of_ble_eq_true rfl⟩ t13 (fun v9 N9 h14 => ?_) (fun E9 N9 h14 => by cases h14)
      cases h14
      show G z mX12_town (d + 6) 0 0 38 [some (.ref 54), some (.int x1), none, none] [] (mrow M 54 r12) Q
      refine G.sl [(.aload_n 0, 1, 0, 0, 0, 0)] [] (pc2 := 39) (ls2 := [some (.ref 54), some (.int x1), none, none]) (st2 := [.ref 54]) (M2 := mrow M 54 r12) (Ps := []) (by decide +kernel) rfl rfl trivial ?_
      obtain ⟨k15, hk⟩ := hk
      rcases g16 : k_clears r12 with ⟨u17, r18⟩
      try simp only [g16] at hk
      have t19 : GM z mX12_clears (d + 5) [.ref 54] (mrow M 54 r12) (fun rs => rs = .inl (none, mrow M 54 r18)) := by
        have q9 := c_k_clears_54 z (d + 5) (mrow M 54 r12) 
        try simp only [mput, mrow_same, mrow_hit, mrow_miss, mrow_sw, idr_eq, ne_eq, Nat.reduceEqDiff, not_false_eq_true, Nat.reduceLT, reduceCtorEq, g16] at q9
        exact q9
      refine G.callV (as := []) (rest := []) (a := 54) oX12_clears lk_EvenFindersModel_92 (by decide +kernel) rfl rfl ⟨rfl, rfl⟩ (Nat.le_of_ble_eq_true rfl) rfl ⟨Nat.le_of_ble_eq_true rfl, Nat.le_of_ble_eq_true rfl⟩ t19 (fun v9 N9 h20 => ?_) (fun E9 N9 h20 => by cases h20)
      cases h20
      show G z mX12_town (d + 6) 0 0 42 [some (.ref 54), some (.int x1), none, none] [] (mrow M 54 r18) Q
      refine G.sl [(.iconst 0, 1, 0, 0, 0, nI 0), (.istore_n 2, 1, 2, 0, 0, 0)] [] (pc2 := 44) (ls2 := [some (.ref 54), some (.int x1), some (.int (nI 0)), none]) (st2 := []) (M2 := mrow M 54 r18) (Ps := []) (by decide +kernel) rfl rfl trivial ?_
      refine G.loc (ls2 := [some (.ref 54), none, some (.int (nI 0)), none]) (by simp [subL]) ?_
      obtain ⟨k165, hk⟩ := hk
      refine G.mem (M' := mrow (mrow (mrow (mrow (mrow M 54 r18) 54 ((mrow M 54 r18).1 54)) 57 ((mrow M 54 r18).1 57)) 58 ((mrow M 54 r18).1 58)) 59 ((mrow M 54 r18).1 59)) (by simp only [mrow_self]) ?_
      refine lp_k_town_54_44 z d (mrow M 54 r18) Q FU (nI 0) ((mrow M 54 r18).1 54) ((mrow M 54 r18).1 57) ((mrow M 54 r18).1 58) ((mrow M 54 r18).1 59) (by first | (simp only [mput, mrow_same, mrow_hit, mrow_miss, mrow_sw, idr_eq, ne_eq, Nat.reduceEqDiff, not_false_eq_true, Nat.reduceLT, reduceCtorEq]; exact k165) | exact k165) ?_
      try simp only [mput, mrow_same, mrow_hit, mrow_miss, mrow_sw, idr_eq, ne_eq, Nat.reduceEqDiff, not_false_eq_true, Nat.reduceLT, reduceCtorEq]
      rcases g166 : k_town_44 (M.1 56) FU (nI 0) r18 (M.1 57) (M.1 58) (M.1 59) with ⟨v167, r168, r169, r170, r171⟩
      try simp only [g166] at hk
      show G z mX12_town (d + 6) 0 0 136 [some (.ref 54), none, none, none] [] (mrow (mrow (mrow (mrow M 54 r168) 57 r169) 58 r170) 59 r171) Q
      refine G.sl [(.aload_n 0, 1, 0, 0, 0, 0), (.aload_n 0, 1, 0, 0, 0, 0), (.getfield 150, 3, 11, 18, 141, 0)] [] (pc2 := 141) (ls2 := [some (.ref 54), none, none, none]) (st2 := [.int (r168 18), .ref 54]) (M2 := mrow (mrow (mrow (mrow M 54 r168) 57 r169) 58 r170) 59 r171) (Ps := []) (by decide +kernel) rfl rfl trivial ?_
      obtain ⟨k172, hk⟩ := hk
      rcases g173 : k_result r168 (r168 18) with ⟨v174, r175⟩
      try simp only [g173] at hk
      have t176 : GM z mX12_result (d + 5) [.ref 54, .int (r168 18)] (mrow (mrow (mrow (mrow M 54 r168) 57 r169) 58 r170) 59 r171) (fun rs => rs = .inl (some (.int v174), mrow (mrow (mrow (mrow M 54 r175) 57 r169) 58 r170) 59 r171)) := by
        have q9 := c_k_result_54 z (d + 4) (mrow (mrow (mrow (mrow M 54 r168) 57 r169) 58 r170) 59 r171) (r168 18)
        try simp only [mput, mrow_same, mrow_hit, mrow_miss, mrow_sw, idr_eq, ne_eq, Nat.reduceEqDiff, not_false_eq_true, Nat.reduceLT, reduceCtorEq, g173] at q9
        exact q9
      refine G.callV (as := [.int (r168 18)]) (rest := []) (a := 54) oX12_result lk_EvenFindersModel_242 (by decide +kernel) rfl rfl ⟨rfl, rfl⟩ (Nat.le_of_ble_eq_true rfl) rfl ⟨Nat.le_of_ble_eq_true rfl, Nat.le_of_ble_eq_true rfl⟩ t176 (fun v9 N9 h177 => ?_) (fun E9 N9 h177 => by cases h177)
      cases h177
      show G z mX12_town (d + 6) 0 0 144 [some (.ref 54), none, none, none] [.int v174] (mrow (mrow (mrow (mrow M 54 r175) 57 r169) 58 r170) 59 r171) Q
      refine G.sl [(.istore_n 3, 1, 3, 0, 0, 0), (.aload_n 0, 1, 0, 0, 0, 0), (.getfield 101, 3, 11, 5, 128, 0), (.iconst (-1), 1, 0, 0, 0, (-1))] [] (pc2 := 150) (ls2 := [some (.ref 54), none, none, some (.int v174)]) (st2 := [.int ((-1)), .int (r175 5)]) (M2 := mrow (mrow (mrow (mrow M 54 r175) 57 r169) 58 r170) 59 r171) (Ps := []) (by decide +kernel) rfl rfl trivial ?_
      refine G.ic_ne (off := (7)) (tgt := 157) (by decide +kernel) rfl (fun c178 => ?_) (fun c178 => ?_)
      · skip
        rw [if_neg c178] at hk
        refine G.sl [(.iload_n 3, 1, 3, 0, 0, 0)] [] (pc2 := 158) (ls2 := [some (.ref 54), none, none, some (.int v174)]) (st2 := [.int v174]) (M2 := mrow (mrow (mrow (mrow M 54 r175) 57 r169) 58 r170) 59 r171) (Ps := []) (by decide +kernel) rfl rfl trivial ?_
        refine G.mem (M' := mrow (mrow (mrow (mrow (mrow (mrow (mrow (mrow (mrow (mrow (mrow M 54 r175) 55 (M.1 55)) 57 r169) 58 r170) 59 r171) 60 (M.1 60)) 61 (M.1 61)) 62 (M.1 62)) 71 (M.1 71)) 75 (M.1 75)) 76 (M.1 76)) (((((((((mrow_id (N := mrow (mrow (mrow (mrow M 54 r175) 57 r169) 58 r170) 59 r171) (c := 55) (f := M.1 55) (by first | rfl | (simp only [mput, mrow_same, mrow_hit, mrow_miss, mrow_sw, idr_eq, ne_eq, Nat.reduceEqDiff, not_false_eq_true, Nat.reduceLT, reduceCtorEq]; done))).symm).trans (mrow_id (N := mrow (mrow (mrow (mrow (mrow M 54 r175) 57 r169) 58 r170) 59 r171) 55 (M.1 55)) (c := 60) (f := M.1 60) (by first | rfl | (simp only [mput, mrow_same, mrow_hit, mrow_miss, mrow_sw, idr_eq, ne_eq, Nat.reduceEqDiff, not_false_eq_true, Nat.reduceLT, reduceCtorEq]; done))).symm).trans (mrow_id (N := mrow (mrow (mrow (mrow (mrow (mrow M 54 r175) 57 r169) 58 r170) 59 r171) 55 (M.1 55)) 60 (M.1 60)) (c := 61) (f := M.1 61) (by first | rfl | (simp only [mput, mrow_same, mrow_hit, mrow_miss, mrow_sw, idr_eq, ne_eq, Nat.reduceEqDiff, not_false_eq_true, Nat.reduceLT, reduceCtorEq]; done))).symm).trans (mrow_id (N := mrow (mrow (mrow (mrow (mrow (mrow (mrow M 54 r175) 57 r169) 58 r170) 59 r171) 55 (M.1 55)) 60 (M.1 60)) 61 (M.1 61)) (c := 62) (f := M.1 62) (by first | rfl | (simp only [mput, mrow_same, mrow_hit, mrow_miss, mrow_sw, idr_eq, ne_eq, Nat.reduceEqDiff, not_false_eq_true, Nat.reduceLT, reduceCtorEq]; done))).symm).trans (mrow_id (N := mrow (mrow (mrow (mrow (mrow (mrow (mrow (mrow M 54 r175) 57 r169) 58 r170) 59 r171) 55 (M.1 55)) 60 (M.1 60)) 61 (M.1 61)) 62 (M.1 62)) (c := 71) (f := M.1 71) (by first | rfl | (simp only [mput, mrow_same, mrow_hit, mrow_miss, mrow_sw, idr_eq, ne_eq, Nat.reduceEqDiff, not_false_eq_true, Nat.reduceLT, reduceCtorEq]; done))).symm).trans (mrow_id (N := mrow (mrow (mrow (mrow (mrow (mrow (mrow (mrow (mrow M 54 r175) 57 r169) 58 r170) 59 r171) 55 (M.1 55)) 60 (M.1 60)) 61 (M.1 61)) 62 (M.1 62)) 71 (M.1 71)) (c := 75) (f := M.1 75) (by first | rfl | (simp only [mput, mrow_same, mrow_hit, mrow_miss, mrow_sw, idr_eq, ne_eq, Nat.reduceEqDiff, not_false_eq_true, Nat.reduceLT, reduceCtorEq]; done))).symm).trans (mrow_id (N := mrow (mrow (mrow (mrow (mrow (mrow (mrow (mrow (mrow (mrow M 54 r175) 57 r169) 58 r170) 59 r171) 55 (M.1 55)) 60 (M.1 60)) 61 (M.1 61)) 62 (M.1 62)) 71 (M.1 71)) 75 (M.1 75)) (c := 76) (f := M.1 76) (by first | rfl | (simp only [mput, mrow_same, mrow_hit, mrow_miss, mrow_sw, idr_eq, ne_eq, Nat.reduceEqDiff, not_false_eq_true, Nat.reduceLT, reduceCtorEq]; done))).symm).trans (by first | rfl | (simp only [mput, mrow_same, mrow_hit, mrow_miss, mrow_sw, idr_eq, ne_eq, Nat.reduceEqDiff, not_false_eq_true, Nat.reduceLT, reduceCtorEq]; done))) ?_
        exact G.reti (by decide +kernel) rfl rfl (Nat.le_of_ble_eq_true rfl) (Nat.le_of_ble_eq_true rfl) ((by rw [hQ]; simp only [k_town, if_neg c1, if_neg c4, g10, g16, g166, g173, if_neg c178, mrow_self]))
      · skip
        rw [if_pos c178] at hk
        refine G.sl [(.aload_n 0, 1, 0, 0, 0, 0)] [] (pc2 := 154) (ls2 := [some (.ref 54), none, none, some (.int v174)]) (st2 := [.ref 54]) (M2 := mrow (mrow (mrow (mrow M 54 r175) 57 r169) 58 r170) 59 r171) (Ps := []) (by decide +kernel) rfl rfl trivial ?_
        obtain ⟨k179, hk⟩ := hk
        rcases g180 : k_sets r175 r169 r170 r171 (M.1 60) (M.1 61) (M.1 62) (M.1 71) (M.1 75) (M.1 76) with ⟨u181, r182, r183, r184, r185, r186, r187, r188⟩
        have t189 : GM z mX12_sets (d + 5) [.ref 54] (mrow (mrow (mrow (mrow M 54 r175) 57 r169) 58 r170) 59 r171) (fun rs => rs = .inl (none, mrow (mrow (mrow (mrow (mrow (mrow (mrow (mrow (mrow (mrow M 54 r182) 57 r169) 58 r170) 59 r171) 60 r183) 61 r184) 62 r185) 71 r186) 75 r187) 76 r188)) := by
          have q9 := c_k_sets_54 z (d + 4) (mrow (mrow (mrow (mrow M 54 r175) 57 r169) 58 r170) 59 r171) k179
          try simp only [mput, mrow_same, mrow_hit, mrow_miss, mrow_sw, idr_eq, ne_eq, Nat.reduceEqDiff, not_false_eq_true, Nat.reduceLT, reduceCtorEq, g180] at q9
          exact q9
        refine G.callV (as := []) (rest := []) (a := 54) oX12_sets lk_EvenFindersModel_95 (by decide +kernel) rfl rfl ⟨rfl, rfl⟩ (Nat.le_of_ble_eq_true rfl) rfl ⟨Nat.le_of_ble_eq_true rfl, Nat.le_of_ble_eq_true rfl⟩ t189 (fun v9 N9 h190 => ?_) (fun E9 N9 h190 => by cases h190)
        cases h190
        show G z mX12_town (d + 6) 0 0 157 [some (.ref 54), none, none, some (.int v174)] [] (mrow (mrow (mrow (mrow (mrow (mrow (mrow (mrow (mrow (mrow M 54 r182) 57 r169) 58 r170) 59 r171) 60 r183) 61 r184) 62 r185) 71 r186) 75 r187) 76 r188) Q
        refine G.sl [(.iload_n 3, 1, 3, 0, 0, 0)] [] (pc2 := 158) (ls2 := [some (.ref 54), none, none, some (.int v174)]) (st2 := [.int v174]) (M2 := mrow (mrow (mrow (mrow (mrow (mrow (mrow (mrow (mrow (mrow M 54 r182) 57 r169) 58 r170) 59 r171) 60 r183) 61 r184) 62 r185) 71 r186) 75 r187) 76 r188) (Ps := []) (by decide +kernel) rfl rfl trivial ?_
        refine G.mem (M' := mrow (mrow (mrow (mrow (mrow (mrow (mrow (mrow (mrow (mrow (mrow M 54 r182) 55 (M.1 55)) 57 r169) 58 r170) 59 r171) 60 r183) 61 r184) 62 r185) 71 r186) 75 r187) 76 r188) (((mrow_id (N := mrow (mrow (mrow (mrow (mrow (mrow (mrow (mrow (mrow (mrow M 54 r182) 57 r169) 58 r170) 59 r171) 60 r183) 61 r184) 62 r185) 71 r186) 75 r187) 76 r188) (c := 55) (f := M.1 55) (by first | rfl | (simp only [mput, mrow_same, mrow_hit, mrow_miss, mrow_sw, idr_eq, ne_eq, Nat.reduceEqDiff, not_false_eq_true, Nat.reduceLT, reduceCtorEq]; done))).symm).trans (by first | rfl | (simp only [mput, mrow_same, mrow_hit, mrow_miss, mrow_sw, idr_eq, ne_eq, Nat.reduceEqDiff, not_false_eq_true, Nat.reduceLT, reduceCtorEq]; done))) ?_
        exact G.reti (by decide +kernel) rfl rfl (Nat.le_of_ble_eq_true rfl) (Nat.le_of_ble_eq_true rfl) ((by rw [hQ]; simp only [k_town, if_neg c1, if_neg c4, g10, g16, g166, g173, if_pos c178, g180, mrow_self]))
set_option maxHeartbeats 4000000 in
set_option maxRecDepth 3000 in
theorem lp_k_of_s10_4 (z : Zp) (d : Nat) (M : Mem) (Q : Rs → Prop) (nn : Nat) (hnn : nn = 5) (hX : G z mX12_of (d + 4) 0 0 31 [none, some (.int (k_of_s10_4  nn)), none] [] M Q) : G z mX12_of (d + 4) 0 0 4 [some (.ref 1010), some (.int (nI 0)), some (.int (nI 0))] [] M Q := by
  refine down (n := nn) (P := fun i2 => G z mX12_of (d + 4) 0 0 4 [some (.ref 1010), some (.int (k_of_s10_4  i2)), some (.int (nI i2))] [] M Q) ?_ ?_ 0 (Nat.zero_le _)
  · skip
    refine G.sl [(.iload_n 2, 1, 2, 0, 0, 0), (.aload_n 0, 1, 0, 0, 0, 0)] [] (pc2 := 6) (ls2 := [some (.ref 1010), some (.int (k_of_s10_4  nn)), some (.int (nI nn))]) (st2 := [.ref 1010, .int (nI nn)]) (M2 := M) (Ps := []) (by decide +kernel) rfl rfl trivial ?_
    have t1 : GM z mJ0_length_8abf5 (d + 3) [.ref 1010] M (fun rs => rs = .inl (some (.int (nI 5)), M)) := c_slen z _ _ 10 (by decide)
    refine G.callT (as := []) (rest := [.int (nI nn)]) (i := 10) oJ0_length_8abf5 lk_EvenFindersModel_121 (by decide +kernel) rfl (by decide) rfl (Nat.le_of_ble_eq_true rfl) rfl ⟨Nat.le_of_ble_eq_true rfl, Nat.le_of_ble_eq_true rfl⟩ t1 (fun v9 N9 h2 => ?_) (fun E9 N9 h2 => by cases h2)
    cases h2
    show G z mX12_of (d + 4) 0 0 9 [some (.ref 1010), some (.int (k_of_s10_4  nn)), some (.int (nI nn))] [.int (nI 5), .int (nI nn)] M Q
    refine G.ic_ge (off := (22)) (tgt := 31) (by decide +kernel) rfl (fun _ => ?_) (fun h9 => absurd (nI_le (by omega) (by omega)) h9)
    refine G.loc (ls2 := [none, some (.int (k_of_s10_4  nn)), none]) (by simp [subL]) ?_
    exact hX
  · skip
    intro i2 hi ih
    show G z mX12_of (d + 4) 0 0 4 [some (.ref 1010), some (.int (k_of_s10_4  i2)), some (.int (nI i2))] [] M Q
    refine G.sl [(.iload_n 2, 1, 2, 0, 0, 0), (.aload_n 0, 1, 0, 0, 0, 0)] [] (pc2 := 6) (ls2 := [some (.ref 1010), some (.int (k_of_s10_4  i2)), some (.int (nI i2))]) (st2 := [.ref 1010, .int (nI i2)]) (M2 := M) (Ps := []) (by decide +kernel) rfl rfl trivial ?_
    have t3 : GM z mJ0_length_8abf5 (d + 3) [.ref 1010] M (fun rs => rs = .inl (some (.int (nI 5)), M)) := c_slen z _ _ 10 (by decide)
    refine G.callT (as := []) (rest := [.int (nI i2)]) (i := 10) oJ0_length_8abf5 lk_EvenFindersModel_121 (by decide +kernel) rfl (by decide) rfl (Nat.le_of_ble_eq_true rfl) rfl ⟨Nat.le_of_ble_eq_true rfl, Nat.le_of_ble_eq_true rfl⟩ t3 (fun v9 N9 h4 => ?_) (fun E9 N9 h4 => by cases h4)
    cases h4
    show G z mX12_of (d + 4) 0 0 9 [some (.ref 1010), some (.int (k_of_s10_4  i2)), some (.int (nI i2))] [.int (nI 5), .int (nI i2)] M Q
    refine G.ic_ge (off := (22)) (tgt := 31) (by decide +kernel) rfl (fun h9 => absurd h9 (nI_ge (by omega) (by omega))) (fun _ => ?_)
    refine G.sl [(.iload_n 1, 1, 1, 0, 0, 0), (.iconst 5, 1, 0, 0, 0, nI 5), (.ishl, 1, 0, 0, 0, 0), (.aload_n 0, 1, 0, 0, 0, 0), (.iload_n 2, 1, 2, 0, 0, 0)] [] (pc2 := 17) (ls2 := [some (.ref 1010), some (.int (k_of_s10_4  i2)), some (.int (nI i2))]) (st2 := [.int (nI i2), .ref 1010, .int ((k_of_s10_4  i2) <<< ((nI 5) &&& 31))]) (M2 := M) (Ps := []) (by decide +kernel) rfl rfl trivial ?_
    have t5 : GM z mJ0_charAt_5068e (d + 3) [.ref 1010, .int (nI i2)] M (fun rs => rs = .inl (some (.int (sby 10 i2)), M)) := c_charAt z _ _ 10 i2 (by decide) (show i2 < 5 from (by omega))
    refine G.callT (as := [.int (nI i2)]) (rest := [.int ((k_of_s10_4  i2) <<< ((nI 5) &&& 31))]) (i := 10) oJ0_charAt_5068e lk_EvenFindersModel_126 (by decide +kernel) rfl (by decide) rfl (Nat.le_of_ble_eq_true rfl) rfl ⟨Nat.le_of_ble_eq_true rfl, Nat.le_of_ble_eq_true rfl⟩ t5 (fun v9 N9 h6 => ?_) (fun E9 N9 h6 => by cases h6)
    cases h6
    show G z mX12_of (d + 4) 0 0 20 [some (.ref 1010), some (.int (k_of_s10_4  i2)), some (.int (nI i2))] [.int (sby 10 i2), .int ((k_of_s10_4  i2) <<< ((nI 5) &&& 31))] M Q
    refine G.sl [(.bipush 96, 2, 0, 0, 0, nI 96), (.isub, 1, 0, 0, 0, 0), (.ior, 1, 0, 0, 0, 0), (.istore_n 1, 1, 1, 0, 0, 0), (.iinc 2 1, 3, 2, 0, 0, nI 1), (.goto (-24), 3, 4, 0, 0, 0)] [] (pc2 := 4) (ls2 := [some (.ref 1010), some (.int (((k_of_s10_4  i2) <<< ((nI 5) &&& 31)) ||| ((sby 10 i2) - (nI 96)))), some (.int ((nI i2) + nI 1))]) (st2 := []) (M2 := M) (Ps := []) (by decide +kernel) rfl rfl trivial ?_
    rw [nI_add i2 1]
    simp only [k_of_s10_4] at ih
    exact ih
set_option maxHeartbeats 4000000 in
set_option maxRecDepth 3000 in
theorem c_k_of_s10 (z : Zp) (d : Nat) (M : Mem) : GM z mX12_of (d + 4) [.ref 1010] M (fun rs => rs = .inl (some (.int (k_of_s10 )), M)) := by
  refine GM.of oX12_of.1 (Nat.le_of_ble_eq_true rfl) ?_
  show G z mX12_of (d + 4) 0 0 0 [some (.ref 1010), none, none] [] M _
  obtain ⟨Q, hQ⟩ : ∃ Q : Rs → Prop, Q = (fun rs => rs = .inl (some (.int (k_of_s10 )), M)) := ⟨_, rfl⟩
  rw [← hQ]
  refine G.sl [(.iconst 0, 1, 0, 0, 0, nI 0), (.istore_n 1, 1, 1, 0, 0, 0), (.iconst 0, 1, 0, 0, 0, nI 0), (.istore_n 2, 1, 2, 0, 0, 0)] [] (pc2 := 4) (ls2 := [some (.ref 1010), some (.int (nI 0)), some (.int (nI 0))]) (st2 := []) (M2 := M) (Ps := []) (by decide +kernel) rfl rfl trivial ?_
  refine lp_k_of_s10_4 z d M Q (cN 5) (cN_eq 5) ?_
  show G z mX12_of (d + 4) 0 0 31 [none, some (.int (k_of_s10_4 (cN 5))), none] [] M Q
  refine G.sl [(.iload_n 1, 1, 1, 0, 0, 0)] [] (pc2 := 32) (ls2 := [none, some (.int (k_of_s10_4 (cN 5))), none]) (st2 := [.int (k_of_s10_4 (cN 5))]) (M2 := M) (Ps := []) (by decide +kernel) rfl rfl trivial ?_
  exact G.reti (by decide +kernel) rfl rfl (Nat.le_of_ble_eq_true rfl) (Nat.le_of_ble_eq_true rfl) ((by rw [hQ]; simp only [k_of_s10, mrow_self]))
set_option maxHeartbeats 4000000 in
set_option maxRecDepth 3000 in
theorem lp_k_of_s11_4 (z : Zp) (d : Nat) (M : Mem) (Q : Rs → Prop) (nn : Nat) (hnn : nn = 4) (hX : G z mX12_of (d + 4) 0 0 31 [none, some (.int (k_of_s11_4  nn)), none] [] M Q) : G z mX12_of (d + 4) 0 0 4 [some (.ref 1011), some (.int (nI 0)), some (.int (nI 0))] [] M Q := by
  refine down (n := nn) (P := fun i2 => G z mX12_of (d + 4) 0 0 4 [some (.ref 1011), some (.int (k_of_s11_4  i2)), some (.int (nI i2))] [] M Q) ?_ ?_ 0 (Nat.zero_le _)
  · skip
    refine G.sl [(.iload_n 2, 1, 2, 0, 0, 0), (.aload_n 0, 1, 0, 0, 0, 0)] [] (pc2 := 6) (ls2 := [some (.ref 1011), some (.int (k_of_s11_4  nn)), some (.int (nI nn))]) (st2 := [.ref 1011, .int (nI nn)]) (M2 := M) (Ps := []) (by decide +kernel) rfl rfl trivial ?_
    have t1 : GM z mJ0_length_8abf5 (d + 3) [.ref 1011] M (fun rs => rs = .inl (some (.int (nI 4)), M)) := c_slen z _ _ 11 (by decide)
    refine G.callT (as := []) (rest := [.int (nI nn)]) (i := 11) oJ0_length_8abf5 lk_EvenFindersModel_121 (by decide +kernel) rfl (by decide) rfl (Nat.le_of_ble_eq_true rfl) rfl ⟨Nat.le_of_ble_eq_true rfl, Nat.le_of_ble_eq_true rfl⟩ t1 (fun v9 N9 h2 => ?_) (fun E9 N9 h2 => by cases h2)
    cases h2
    show G z mX12_of (d + 4) 0 0 9 [some (.ref 1011), some (.int (k_of_s11_4  nn)), some (.int (nI nn))] [.int (nI 4), .int (nI nn)] M Q
    refine G.ic_ge (off := (22)) (tgt := 31) (by decide +kernel) rfl (fun _ => ?_) (fun h9 => absurd (nI_le (by omega) (by omega)) h9)
    refine G.loc (ls2 := [none, some (.int (k_of_s11_4  nn)), none]) (by simp [subL]) ?_
    exact hX
  · skip
    intro i2 hi ih
    show G z mX12_of (d + 4) 0 0 4 [some (.ref 1011), some (.int (k_of_s11_4  i2)), some (.int (nI i2))] [] M Q
    refine G.sl [(.iload_n 2, 1, 2, 0, 0, 0), (.aload_n 0, 1, 0, 0, 0, 0)] [] (pc2 := 6) (ls2 := [some (.ref 1011), some (.int (k_of_s11_4  i2)), some (.int (nI i2))]) (st2 := [.ref 1011, .int (nI i2)]) (M2 := M) (Ps := []) (by decide +kernel) rfl rfl trivial ?_
    have t3 : GM z mJ0_length_8abf5 (d + 3) [.ref 1011] M (fun rs => rs = .inl (some (.int (nI 4)), M)) := c_slen z _ _ 11 (by decide)
    refine G.callT (as := []) (rest := [.int (nI i2)]) (i := 11) oJ0_length_8abf5 lk_EvenFindersModel_121 (by decide +kernel) rfl (by decide) rfl (Nat.le_of_ble_eq_true rfl) rfl ⟨Nat.le_of_ble_eq_true rfl, Nat.le_of_ble_eq_true rfl⟩ t3 (fun v9 N9 h4 => ?_) (fun E9 N9 h4 => by cases h4)
    cases h4
    show G z mX12_of (d + 4) 0 0 9 [some (.ref 1011), some (.int (k_of_s11_4  i2)), some (.int (nI i2))] [.int (nI 4), .int (nI i2)] M Q
    refine G.ic_ge (off := (22)) (tgt := 31) (by decide +kernel) rfl (fun h9 => absurd h9 (nI_ge (by omega) (by omega))) (fun _ => ?_)
    refine G.sl [(.iload_n 1, 1, 1, 0, 0, 0), (.iconst 5, 1, 0, 0, 0, nI 5), (.ishl, 1, 0, 0, 0, 0), (.aload_n 0, 1, 0, 0, 0, 0), (.iload_n 2, 1, 2, 0, 0, 0)] [] (pc2 := 17) (ls2 := [some (.ref 1011), some (.int (k_of_s11_4  i2)), some (.int (nI i2))]) (st2 := [.int (nI i2), .ref 1011, .int ((k_of_s11_4  i2) <<< ((nI 5) &&& 31))]) (M2 := M) (Ps := []) (by decide +kernel) rfl rfl trivial ?_
    have t5 : GM z mJ0_charAt_5068e (d + 3) [.ref 1011, .int (nI i2)] M (fun rs => rs = .inl (some (.int (sby 11 i2)), M)) := c_charAt z _ _ 11 i2 (by decide) (show i2 < 4 from (by omega))
    refine G.callT (as := [.int (nI i2)]) (rest := [.int ((k_of_s11_4  i2) <<< ((nI 5) &&& 31))]) (i := 11) oJ0_charAt_5068e lk_EvenFindersModel_126 (by decide +kernel) rfl (by decide) rfl (Nat.le_of_ble_eq_true rfl) rfl ⟨Nat.le_of_ble_eq_true rfl, Nat.le_of_ble_eq_true rfl⟩ t5 (fun v9 N9 h6 => ?_) (fun E9 N9 h6 => by cases h6)
    cases h6
    show G z mX12_of (d + 4) 0 0 20 [some (.ref 1011), some (.int (k_of_s11_4  i2)), some (.int (nI i2))] [.int (sby 11 i2), .int ((k_of_s11_4  i2) <<< ((nI 5) &&& 31))] M Q
    refine G.sl [(.bipush 96, 2, 0, 0, 0, nI 96), (.isub, 1, 0, 0, 0, 0), (.ior, 1, 0, 0, 0, 0), (.istore_n 1, 1, 1, 0, 0, 0), (.iinc 2 1, 3, 2, 0, 0, nI 1), (.goto (-24), 3, 4, 0, 0, 0)] [] (pc2 := 4) (ls2 := [some (.ref 1011), some (.int (((k_of_s11_4  i2) <<< ((nI 5) &&& 31)) ||| ((sby 11 i2) - (nI 96)))), some (.int ((nI i2) + nI 1))]) (st2 := []) (M2 := M) (Ps := []) (by decide +kernel) rfl rfl trivial ?_
    rw [nI_add i2 1]
    simp only [k_of_s11_4] at ih
    exact ih
set_option maxHeartbeats 4000000 in
set_option maxRecDepth 3000 in
theorem c_k_of_s11 (z : Zp) (d : Nat) (M : Mem) : GM z mX12_of (d + 4) [.ref 1011] M (fun rs => rs = .inl (some (.int (k_of_s11 )), M)) := by
  refine GM.of oX12_of.1 (Nat.le_of_ble_eq_true rfl) ?_
  show G z mX12_of (d + 4) 0 0 0 [some (.ref 1011), none, none] [] M _
  obtain ⟨Q, hQ⟩ : ∃ Q : Rs → Prop, Q = (fun rs => rs = .inl (some (.int (k_of_s11 )), M)) := ⟨_, rfl⟩
  rw [← hQ]
  refine G.sl [(.iconst 0, 1, 0, 0, 0, nI 0), (.istore_n 1, 1, 1, 0, 0, 0), (.iconst 0, 1, 0, 0, 0, nI 0), (.istore_n 2, 1, 2, 0, 0, 0)] [] (pc2 := 4) (ls2 := [some (.ref 1011), some (.int (nI 0)), some (.int (nI 0))]) (st2 := []) (M2 := M) (Ps := []) (by decide +kernel) rfl rfl trivial ?_
  refine lp_k_of_s11_4 z d M Q (cN 4) (cN_eq 4) ?_
  show G z mX12_of (d + 4) 0 0 31 [none, some (.int (k_of_s11_4 (cN 4))), none] [] M Q
  refine G.sl [(.iload_n 1, 1, 1, 0, 0, 0)] [] (pc2 := 32) (ls2 := [none, some (.int (k_of_s11_4 (cN 4))), none]) (st2 := [.int (k_of_s11_4 (cN 4))]) (M2 := M) (Ps := []) (by decide +kernel) rfl rfl trivial ?_
  exact G.reti (by decide +kernel) rfl rfl (Nat.le_of_ble_eq_true rfl) (Nat.le_of_ble_eq_true rfl) ((by rw [hQ]; simp only [k_of_s11, mrow_self]))
set_option maxHeartbeats 4000000 in
set_option maxRecDepth 3000 in
theorem lp_k_of_s12_4 (z : Zp) (d : Nat) (M : Mem) (Q : Rs → Prop) (nn : Nat) (hnn : nn = 5) (hX : G z mX12_of (d + 4) 0 0 31 [none, some (.int (k_of_s12_4  nn)), none] [] M Q) : G z mX12_of (d + 4) 0 0 4 [some (.ref 1012), some (.int (nI 0)), some (.int (nI 0))] [] M Q := by
  refine down (n := nn) (P := fun i2 => G z mX12_of (d + 4) 0 0 4 [some (.ref 1012), some (.int (k_of_s12_4  i2)), some (.int (nI i2))] [] M Q) ?_ ?_ 0 (Nat.zero_le _)
  · skip
    refine G.sl [(.iload_n 2, 1, 2, 0, 0, 0), (.aload_n 0, 1, 0, 0, 0, 0)] [] (pc2 := 6) (ls2 := [some (.ref 1012), some (.int (k_of_s12_4  nn)), some (.int (nI nn))]) (st2 := [.ref 1012, .int (nI nn)]) (M2 := M) (Ps := []) (by decide +kernel) rfl rfl trivial ?_
    have t1 : GM z mJ0_length_8abf5 (d + 3) [.ref 1012] M (fun rs => rs = .inl (some (.int (nI 5)), M)) := c_slen z _ _ 12 (by decide)
    refine G.callT (as := []) (rest := [.int (nI nn)]) (i := 12) oJ0_length_8abf5 lk_EvenFindersModel_121 (by decide +kernel) rfl (by decide) rfl (Nat.le_of_ble_eq_true rfl) rfl ⟨Nat.le_of_ble_eq_true rfl, Nat.le_of_ble_eq_true rfl⟩ t1 (fun v9 N9 h2 => ?_) (fun E9 N9 h2 => by cases h2)
    cases h2
    show G z mX12_of (d + 4) 0 0 9 [some (.ref 1012), some (.int (k_of_s12_4  nn)), some (.int (nI nn))] [.int (nI 5), .int (nI nn)] M Q
    refine G.ic_ge (off := (22)) (tgt := 31) (by decide +kernel) rfl (fun _ => ?_) (fun h9 => absurd (nI_le (by omega) (by omega)) h9)
    refine G.loc (ls2 := [none, some (.int (k_of_s12_4  nn)), none]) (by simp [subL]) ?_
    exact hX
  · skip
    intro i2 hi ih
    show G z mX12_of (d + 4) 0 0 4 [some (.ref 1012), some (.int (k_of_s12_4  i2)), some (.int (nI i2))] [] M Q
    refine G.sl [(.iload_n 2, 1, 2, 0, 0, 0), (.aload_n 0, 1, 0, 0, 0, 0)] [] (pc2 := 6) (ls2 := [some (.ref 1012), some (.int (k_of_s12_4  i2)), some (.int (nI i2))]) (st2 := [.ref 1012, .int (nI i2)]) (M2 := M) (Ps := []) (by decide +kernel) rfl rfl trivial ?_
    have t3 : GM z mJ0_length_8abf5 (d + 3) [.ref 1012] M (fun rs => rs = .inl (some (.int (nI 5)), M)) := c_slen z _ _ 12 (by decide)
    refine G.callT (as := []) (rest := [.int (nI i2)]) (i := 12) oJ0_length_8abf5 lk_EvenFindersModel_121 (by decide +kernel) rfl (by decide) rfl (Nat.le_of_ble_eq_true rfl) rfl ⟨Nat.le_of_ble_eq_true rfl, Nat.le_of_ble_eq_true rfl⟩ t3 (fun v9 N9 h4 => ?_) (fun E9 N9 h4 => by cases h4)
    cases h4
    show G z mX12_of (d + 4) 0 0 9 [some (.ref 1012), some (.int (k_of_s12_4  i2)), some (.int (nI i2))] [.int (nI 5), .int (nI i2)] M Q
    refine G.ic_ge (off := (22)) (tgt := 31) (by decide +kernel) rfl (fun h9 => absurd h9 (nI_ge (by omega) (by omega))) (fun _ => ?_)
    refine G.sl [(.iload_n 1, 1, 1, 0, 0, 0), (.iconst 5, 1, 0, 0, 0, nI 5), (.ishl, 1, 0, 0, 0, 0), (.aload_n 0, 1, 0, 0, 0, 0), (.iload_n 2, 1, 2, 0, 0, 0)] [] (pc2 := 17) (ls2 := [some (.ref 1012), some (.int (k_of_s12_4  i2)), some (.int (nI i2))]) (st2 := [.int (nI i2), .ref 1012, .int ((k_of_s12_4  i2) <<< ((nI 5) &&& 31))]) (M2 := M) (Ps := []) (by decide +kernel) rfl rfl trivial ?_
    have t5 : GM z mJ0_charAt_5068e (d + 3) [.ref 1012, .int (nI i2)] M (fun rs => rs = .inl (some (.int (sby 12 i2)), M)) := c_charAt z _ _ 12 i2 (by decide) (show i2 < 5 from (by omega))
    refine G.callT (as := [.int (nI i2)]) (rest := [.int ((k_of_s12_4  i2) <<< ((nI 5) &&& 31))]) (i := 12) oJ0_charAt_5068e lk_EvenFindersModel_126 (by decide +kernel) rfl (by decide) rfl (Nat.le_of_ble_eq_true rfl) rfl ⟨Nat.le_of_ble_eq_true rfl, Nat.le_of_ble_eq_true rfl⟩ t5 (fun v9 N9 h6 => ?_) (fun E9 N9 h6 => by cases h6)
    cases h6
    show G z mX12_of (d + 4) 0 0 20 [some (.ref 1012), some (.int (k_of_s12_4  i2)), some (.int (nI i2))] [.int (sby 12 i2), .int ((k_of_s12_4  i2) <<< ((nI 5) &&& 31))] M Q
    refine G.sl [(.bipush 96, 2, 0, 0, 0, nI 96), (.isub, 1, 0, 0, 0, 0), (.ior, 1, 0, 0, 0, 0), (.istore_n 1, 1, 1, 0, 0, 0), (.iinc 2 1, 3, 2, 0, 0, nI 1), (.goto (-24), 3, 4, 0, 0, 0)] [] (pc2 := 4) (ls2 := [some (.ref 1012), some (.int (((k_of_s12_4  i2) <<< ((nI 5) &&& 31)) ||| ((sby 12 i2) - (nI 96)))), some (.int ((nI i2) + nI 1))]) (st2 := []) (M2 := M) (Ps := []) (by decide +kernel) rfl rfl trivial ?_
    rw [nI_add i2 1]
    simp only [k_of_s12_4] at ih
    exact ih
set_option maxHeartbeats 4000000 in
set_option maxRecDepth 3000 in
theorem c_k_of_s12 (z : Zp) (d : Nat) (M : Mem) : GM z mX12_of (d + 4) [.ref 1012] M (fun rs => rs = .inl (some (.int (k_of_s12 )), M)) := by
  refine GM.of oX12_of.1 (Nat.le_of_ble_eq_true rfl) ?_
  show G z mX12_of (d + 4) 0 0 0 [some (.ref 1012), none, none] [] M _
  obtain ⟨Q, hQ⟩ : ∃ Q : Rs → Prop, Q = (fun rs => rs = .inl (some (.int (k_of_s12 )), M)) := ⟨_, rfl⟩
  rw [← hQ]
  refine G.sl [(.iconst 0, 1, 0, 0, 0, nI 0), (.istore_n 1, 1, 1, 0, 0, 0), (.iconst 0, 1, 0, 0, 0, nI 0), (.istore_n 2, 1, 2, 0, 0, 0)] [] (pc2 := 4) (ls2 := [some (.ref 1012), some (.int (nI 0)), some (.int (nI 0))]) (st2 := []) (M2 := M) (Ps := []) (by decide +kernel) rfl rfl trivial ?_
  refine lp_k_of_s12_4 z d M Q (cN 5) (cN_eq 5) ?_
  show G z mX12_of (d + 4) 0 0 31 [none, some (.int (k_of_s12_4 (cN 5))), none] [] M Q
  refine G.sl [(.iload_n 1, 1, 1, 0, 0, 0)] [] (pc2 := 32) (ls2 := [none, some (.int (k_of_s12_4 (cN 5))), none]) (st2 := [.int (k_of_s12_4 (cN 5))]) (M2 := M) (Ps := []) (by decide +kernel) rfl rfl trivial ?_
  exact G.reti (by decide +kernel) rfl rfl (Nat.le_of_ble_eq_true rfl) (Nat.le_of_ble_eq_true rfl) ((by rw [hQ]; simp only [k_of_s12, mrow_self]))
set_option maxHeartbeats 4000000 in
set_option maxRecDepth 3000 in
theorem lp_k_of_s13_4 (z : Zp) (d : Nat) (M : Mem) (Q : Rs → Prop) (nn : Nat) (hnn : nn = 4) (hX : G z mX12_of (d + 4) 0 0 31 [none, some (.int (k_of_s13_4  nn)), none] [] M Q) : G z mX12_of (d + 4) 0 0 4 [some (.ref 1013), some (.int (nI 0)), some (.int (nI 0))] [] M Q := by
  refine down (n := nn) (P := fun i2 => G z mX12_of (d + 4) 0 0 4 [some (.ref 1013), some (.int (k_of_s13_4  i2)), some (.int (nI i2))] [] M Q) ?_ ?_ 0 (Nat.zero_le _)
  · skip
    refine G.sl [(.iload_n 2, 1, 2, 0, 0, 0), (.aload_n 0, 1, 0, 0, 0, 0)] [] (pc2 := 6) (ls2 := [some (.ref 1013), some (.int (k_of_s13_4  nn)), some (.int (nI nn))]) (st2 := [.ref 1013, .int (nI nn)]) (M2 := M) (Ps := []) (by decide +kernel) rfl rfl trivial ?_
    have t1 : GM z mJ0_length_8abf5 (d + 3) [.ref 1013] M (fun rs => rs = .inl (some (.int (nI 4)), M)) := c_slen z _ _ 13 (by decide)
    refine G.callT (as := []) (rest := [.int (nI nn)]) (i := 13) oJ0_length_8abf5 lk_EvenFindersModel_121 (by decide +kernel) rfl (by decide) rfl (Nat.le_of_ble_eq_true rfl) rfl ⟨Nat.le_of_ble_eq_true rfl, Nat.le_of_ble_eq_true rfl⟩ t1 (fun v9 N9 h2 => ?_) (fun E9 N9 h2 => by cases h2)
    cases h2
    show G z mX12_of (d + 4) 0 0 9 [some (.ref 1013), some (.int (k_of_s13_4  nn)), some (.int (nI nn))] [.int (nI 4), .int (nI nn)] M Q
    refine G.ic_ge (off := (22)) (tgt := 31) (by decide +kernel) rfl (fun _ => ?_) (fun h9 => absurd (nI_le (by omega) (by omega)) h9)
    refine G.loc (ls2 := [none, some (.int (k_of_s13_4  nn)), none]) (by simp [subL]) ?_
    exact hX
  · skip
    intro i2 hi ih
    show G z mX12_of (d + 4) 0 0 4 [some (.ref 1013), some (.int (k_of_s13_4  i2)), some (.int (nI i2))] [] M Q
    refine G.sl [(.iload_n 2, 1, 2, 0, 0, 0), (.aload_n 0, 1, 0, 0, 0, 0)] [] (pc2 := 6) (ls2 := [some (.ref 1013), some (.int (k_of_s13_4  i2)), some (.int (nI i2))]) (st2 := [.ref 1013, .int (nI i2)]) (M2 := M) (Ps := []) (by decide +kernel) rfl rfl trivial ?_
    have t3 : GM z mJ0_length_8abf5 (d + 3) [.ref 1013] M (fun rs => rs = .inl (some (.int (nI 4)), M)) := c_slen z _ _ 13 (by decide)
    refine G.callT (as := []) (rest := [.int (nI i2)]) (i := 13) oJ0_length_8abf5 lk_EvenFindersModel_121 (by decide +kernel) rfl (by decide) rfl (Nat.le_of_ble_eq_true rfl) rfl ⟨Nat.le_of_ble_eq_true rfl, Nat.le_of_ble_eq_true rfl⟩ t3 (fun v9 N9 h4 => ?_) (fun E9 N9 h4 => by cases h4)
    cases h4
    show G z mX12_of (d + 4) 0 0 9 [some (.ref 1013), some (.int (k_of_s13_4  i2)), some (.int (nI i2))] [.int (nI 4), .int (nI i2)] M Q
    refine G.ic_ge (off := (22)) (tgt := 31) (by decide +kernel) rfl (fun h9 => absurd h9 (nI_ge (by omega) (by omega))) (fun _ => ?_)
    refine G.sl [(.iload_n 1, 1, 1, 0, 0, 0), (.iconst 5, 1, 0, 0, 0, nI 5), (.ishl, 1, 0, 0, 0, 0), (.aload_n 0, 1, 0, 0, 0, 0), (.iload_n 2, 1, 2, 0, 0, 0)] [] (pc2 := 17) (ls2 := [some (.ref 1013), some (.int (k_of_s13_4  i2)), some (.int (nI i2))]) (st2 := [.int (nI i2), .ref 1013, .int ((k_of_s13_4  i2) <<< ((nI 5) &&& 31))]) (M2 := M) (Ps := []) (by decide +kernel) rfl rfl trivial ?_
    have t5 : GM z mJ0_charAt_5068e (d + 3) [.ref 1013, .int (nI i2)] M (fun rs => rs = .inl (some (.int (sby 13 i2)), M)) := c_charAt z _ _ 13 i2 (by decide) (show i2 < 4 from (by omega))
    refine G.callT (as := [.int (nI i2)]) (rest := [.int ((k_of_s13_4  i2) <<< ((nI 5) &&& 31))]) (i := 13) oJ0_charAt_5068e lk_EvenFindersModel_126 (by decide +kernel) rfl (by decide) rfl (Nat.le_of_ble_eq_true rfl) rfl ⟨Nat.le_of_ble_eq_true rfl, Nat.le_of_ble_eq_true rfl⟩ t5 (fun v9 N9 h6 => ?_) (fun E9 N9 h6 => by cases h6)
    cases h6
    show G z mX12_of (d + 4) 0 0 20 [some (.ref 1013), some (.int (k_of_s13_4  i2)), some (.int (nI i2))] [.int (sby 13 i2), .int ((k_of_s13_4  i2) <<< ((nI 5) &&& 31))] M Q
    refine G.sl [(.bipush 96, 2, 0, 0, 0, nI 96), (.isub, 1, 0, 0, 0, 0), (.ior, 1, 0, 0, 0, 0), (.istore_n 1, 1, 1, 0, 0, 0), (.iinc 2 1, 3, 2, 0, 0, nI 1), (.goto (-24), 3, 4, 0, 0, 0)] [] (pc2 := 4) (ls2 := [some (.ref 1013), some (.int (((k_of_s13_4  i2) <<< ((nI 5) &&& 31)) ||| ((sby 13 i2) - (nI 96)))), some (.int ((nI i2) + nI 1))]) (st2 := []) (M2 := M) (Ps := []) (by decide +kernel) rfl rfl trivial ?_
    rw [nI_add i2 1]
    simp only [k_of_s13_4] at ih
    exact ih
set_option maxHeartbeats 4000000 in
set_option maxRecDepth 3000 in
theorem c_k_of_s13 (z : Zp) (d : Nat) (M : Mem) : GM z mX12_of (d + 4) [.ref 1013] M (fun rs => rs = .inl (some (.int (k_of_s13 )), M)) := by
  refine GM.of oX12_of.1 (Nat.le_of_ble_eq_true rfl) ?_
  show G z mX12_of (d + 4) 0 0 0 [some (.ref 1013), none, none] [] M _
  obtain ⟨Q, hQ⟩ : ∃ Q : Rs → Prop, Q = (fun rs => rs = .inl (some (.int (k_of_s13 )), M)) := ⟨_, rfl⟩
  rw [← hQ]
  refine G.sl [(.iconst 0, 1, 0, 0, 0, nI 0), (.istore_n 1, 1, 1, 0, 0, 0), (.iconst 0, 1, 0, 0, 0, nI 0), (.istore_n 2, 1, 2, 0, 0, 0)] [] (pc2 := 4) (ls2 := [some (.ref 1013), some (.int (nI 0)), some (.int (nI 0))]) (st2 := []) (M2 := M) (Ps := []) (by decide +kernel) rfl rfl trivial ?_
  refine lp_k_of_s13_4 z d M Q (cN 4) (cN_eq 4) ?_
  show G z mX12_of (d + 4) 0 0 31 [none, some (.int (k_of_s13_4 (cN 4))), none] [] M Q
  refine G.sl [(.iload_n 1, 1, 1, 0, 0, 0)] [] (pc2 := 32) (ls2 := [none, some (.int (k_of_s13_4 (cN 4))), none]) (st2 := [.int (k_of_s13_4 (cN 4))]) (M2 := M) (Ps := []) (by decide +kernel) rfl rfl trivial ?_
  exact G.reti (by decide +kernel) rfl rfl (Nat.le_of_ble_eq_true rfl) (Nat.le_of_ble_eq_true rfl) ((by rw [hQ]; simp only [k_of_s13, mrow_self]))
set_option maxHeartbeats 4000000 in
set_option maxRecDepth 3000 in
theorem lp_k_of_s14_4 (z : Zp) (d : Nat) (M : Mem) (Q : Rs → Prop) (nn : Nat) (hnn : nn = 4) (hX : G z mX12_of (d + 4) 0 0 31 [none, some (.int (k_of_s14_4  nn)), none] [] M Q) : G z mX12_of (d + 4) 0 0 4 [some (.ref 1014), some (.int (nI 0)), some (.int (nI 0))] [] M Q := by
  refine down (n := nn) (P := fun i2 => G z mX12_of (d + 4) 0 0 4 [some (.ref 1014), some (.int (k_of_s14_4  i2)), some (.int (nI i2))] [] M Q) ?_ ?_ 0 (Nat.zero_le _)
  · skip
    refine G.sl [(.iload_n 2, 1, 2, 0, 0, 0), (.aload_n 0, 1, 0, 0, 0, 0)] [] (pc2 := 6) (ls2 := [some (.ref 1014), some (.int (k_of_s14_4  nn)), some (.int (nI nn))]) (st2 := [.ref 1014, .int (nI nn)]) (M2 := M) (Ps := []) (by decide +kernel) rfl rfl trivial ?_
    have t1 : GM z mJ0_length_8abf5 (d + 3) [.ref 1014] M (fun rs => rs = .inl (some (.int (nI 4)), M)) := c_slen z _ _ 14 (by decide)
    refine G.callT (as := []) (rest := [.int (nI nn)]) (i := 14) oJ0_length_8abf5 lk_EvenFindersModel_121 (by decide +kernel) rfl (by decide) rfl (Nat.le_of_ble_eq_true rfl) rfl ⟨Nat.le_of_ble_eq_true rfl, Nat.le_of_ble_eq_true rfl⟩ t1 (fun v9 N9 h2 => ?_) (fun E9 N9 h2 => by cases h2)
    cases h2
    show G z mX12_of (d + 4) 0 0 9 [some (.ref 1014), some (.int (k_of_s14_4  nn)), some (.int (nI nn))] [.int (nI 4), .int (nI nn)] M Q
    refine G.ic_ge (off := (22)) (tgt := 31) (by decide +kernel) rfl (fun _ => ?_) (fun h9 => absurd (nI_le (by omega) (by omega)) h9)
    refine G.loc (ls2 := [none, some (.int (k_of_s14_4  nn)), none]) (by simp [subL]) ?_
    exact hX
  · skip
    intro i2 hi ih
    show G z mX12_of (d + 4) 0 0 4 [some (.ref 1014), some (.int (k_of_s14_4  i2)), some (.int (nI i2))] [] M Q
    refine G.sl [(.iload_n 2, 1, 2, 0, 0, 0), (.aload_n 0, 1, 0, 0, 0, 0)] [] (pc2 := 6) (ls2 := [some (.ref 1014), some (.int (k_of_s14_4  i2)), some (.int (nI i2))]) (st2 := [.ref 1014, .int (nI i2)]) (M2 := M) (Ps := []) (by decide +kernel) rfl rfl trivial ?_
    have t3 : GM z mJ0_length_8abf5 (d + 3) [.ref 1014] M (fun rs => rs = .inl (some (.int (nI 4)), M)) := c_slen z _ _ 14 (by decide)
    refine G.callT (as := []) (rest := [.int (nI i2)]) (i := 14) oJ0_length_8abf5 lk_EvenFindersModel_121 (by decide +kernel) rfl (by decide) rfl (Nat.le_of_ble_eq_true rfl) rfl ⟨Nat.le_of_ble_eq_true rfl, Nat.le_of_ble_eq_true rfl⟩ t3 (fun v9 N9 h4 => ?_) (fun E9 N9 h4 => by cases h4)
    cases h4
    show G z mX12_of (d + 4) 0 0 9 [some (.ref 1014), some (.int (k_of_s14_4  i2)), some (.int (nI i2))] [.int (nI 4), .int (nI i2)] M Q
    refine G.ic_ge (off := (22)) (tgt := 31) (by decide +kernel) rfl (fun h9 => absurd h9 (nI_ge (by omega) (by omega))) (fun _ => ?_)
    refine G.sl [(.iload_n 1, 1, 1, 0, 0, 0), (.iconst 5, 1, 0, 0, 0, nI 5), (.ishl, 1, 0, 0, 0, 0), (.aload_n 0, 1, 0, 0, 0, 0), (.iload_n 2, 1, 2, 0, 0, 0)] [] (pc2 := 17) (ls2 := [some (.ref 1014), some (.int (k_of_s14_4  i2)), some (.int (nI i2))]) (st2 := [.int (nI i2), .ref 1014, .int ((k_of_s14_4  i2) <<< ((nI 5) &&& 31))]) (M2 := M) (Ps := []) (by decide +kernel) rfl rfl trivial ?_
    have t5 : GM z mJ0_charAt_5068e (d + 3) [.ref 1014, .int (nI i2)] M (fun rs => rs = .inl (some (.int (sby 14 i2)), M)) := c_charAt z _ _ 14 i2 (by decide) (show i2 < 4 from (by omega))
    refine G.callT (as := [.int (nI i2)]) (rest := [.int ((k_of_s14_4  i2) <<< ((nI 5) &&& 31))]) (i := 14) oJ0_charAt_5068e lk_EvenFindersModel_126 (by decide +kernel) rfl (by decide) rfl (Nat.le_of_ble_eq_true rfl) rfl ⟨Nat.le_of_ble_eq_true rfl, Nat.le_of_ble_eq_true rfl⟩ t5 (fun v9 N9 h6 => ?_) (fun E9 N9 h6 => by cases h6)
    cases h6
    show G z mX12_of (d + 4) 0 0 20 [some (.ref 1014), some (.int (k_of_s14_4  i2)), some (.int (nI i2))] [.int (sby 14 i2), .int ((k_of_s14_4  i2) <<< ((nI 5) &&& 31))] M Q
    refine G.sl [(.bipush 96, 2, 0, 0, 0, nI 96), (.isub, 1, 0, 0, 0, 0), (.ior, 1, 0, 0, 0, 0), (.istore_n 1, 1, 1, 0, 0, 0), (.iinc 2 1, 3, 2, 0, 0, nI 1), (.goto (-24), 3, 4, 0, 0, 0)] [] (pc2 := 4) (ls2 := [some (.ref 1014), some (.int (((k_of_s14_4  i2) <<< ((nI 5) &&& 31)) ||| ((sby 14 i2) - (nI 96)))), some (.int ((nI i2) + nI 1))]) (st2 := []) (M2 := M) (Ps := []) (by decide +kernel) rfl rfl trivial ?_
    rw [nI_add i2 1]
    simp only [k_of_s14_4] at ih
    exact ih
set_option maxHeartbeats 4000000 in
set_option maxRecDepth 3000 in
theorem c_k_of_s14 (z : Zp) (d : Nat) (M : Mem) : GM z mX12_of (d + 4) [.ref 1014] M (fun rs => rs = .inl (some (.int (k_of_s14 )), M)) := by
  refine GM.of oX12_of.1 (Nat.le_of_ble_eq_true rfl) ?_
  show G z mX12_of (d + 4) 0 0 0 [some (.ref 1014), none, none] [] M _
  obtain ⟨Q, hQ⟩ : ∃ Q : Rs → Prop, Q = (fun rs => rs = .inl (some (.int (k_of_s14 )), M)) := ⟨_, rfl⟩
  rw [← hQ]
  refine G.sl [(.iconst 0, 1, 0, 0, 0, nI 0), (.istore_n 1, 1, 1, 0, 0, 0), (.iconst 0, 1, 0, 0, 0, nI 0), (.istore_n 2, 1, 2, 0, 0, 0)] [] (pc2 := 4) (ls2 := [some (.ref 1014), some (.int (nI 0)), some (.int (nI 0))]) (st2 := []) (M2 := M) (Ps := []) (by decide +kernel) rfl rfl trivial ?_
  refine lp_k_of_s14_4 z d M Q (cN 4) (cN_eq 4) ?_
  show G z mX12_of (d + 4) 0 0 31 [none, some (.int (k_of_s14_4 (cN 4))), none] [] M Q
  refine G.sl [(.iload_n 1, 1, 1, 0, 0, 0)] [] (pc2 := 32) (ls2 := [none, some (.int (k_of_s14_4 (cN 4))), none]) (st2 := [.int (k_of_s14_4 (cN 4))]) (M2 := M) (Ps := []) (by decide +kernel) rfl rfl trivial ?_
  exact G.reti (by decide +kernel) rfl rfl (Nat.le_of_ble_eq_true rfl) (Nat.le_of_ble_eq_true rfl) ((by rw [hQ]; simp only [k_of_s14, mrow_self]))
set_option maxHeartbeats 4000000 in
set_option maxRecDepth 3000 in
theorem lp_k_of_s15_4 (z : Zp) (d : Nat) (M : Mem) (Q : Rs → Prop) (nn : Nat) (hnn : nn = 5) (hX : G z mX12_of (d + 4) 0 0 31 [none, some (.int (k_of_s15_4  nn)), none] [] M Q) : G z mX12_of (d + 4) 0 0 4 [some (.ref 1015), some (.int (nI 0)), some (.int (nI 0))] [] M Q := by
  refine down (n := nn) (P := fun i2 => G z mX12_of (d + 4) 0 0 4 [some (.ref 1015), some (.int (k_of_s15_4  i2)), some (.int (nI i2))] [] M Q) ?_ ?_ 0 (Nat.zero_le _)
  · skip
    refine G.sl [(.iload_n 2, 1, 2, 0, 0, 0), (.aload_n 0, 1, 0, 0, 0, 0)] [] (pc2 := 6) (ls2 := [some (.ref 1015), some (.int (k_of_s15_4  nn)), some (.int (nI nn))]) (st2 := [.ref 1015, .int (nI nn)]) (M2 := M) (Ps := []) (by decide +kernel) rfl rfl trivial ?_
    have t1 : GM z mJ0_length_8abf5 (d + 3) [.ref 1015] M (fun rs => rs = .inl (some (.int (nI 5)), M)) := c_slen z _ _ 15 (by decide)
    refine G.callT (as := []) (rest := [.int (nI nn)]) (i := 15) oJ0_length_8abf5 lk_EvenFindersModel_121 (by decide +kernel) rfl (by decide) rfl (Nat.le_of_ble_eq_true rfl) rfl ⟨Nat.le_of_ble_eq_true rfl, Nat.le_of_ble_eq_true rfl⟩ t1 (fun v9 N9 h2 => ?_) (fun E9 N9 h2 => by cases h2)
    cases h2
    show G z mX12_of (d + 4) 0 0 9 [some (.ref 1015), some (.int (k_of_s15_4  nn)), some (.int (nI nn))] [.int (nI 5), .int (nI nn)] M Q
    refine G.ic_ge (off := (22)) (tgt := 31) (by decide +kernel) rfl (fun _ => ?_) (fun h9 => absurd (nI_le (by omega) (by omega)) h9)
    refine G.loc (ls2 := [none, some (.int (k_of_s15_4  nn)), none]) (by simp [subL]) ?_
    exact hX
  · skip
    intro i2 hi ih
    show G z mX12_of (d + 4) 0 0 4 [some (.ref 1015), some (.int (k_of_s15_4  i2)), some (.int (nI i2))] [] M Q
    refine G.sl [(.iload_n 2, 1, 2, 0, 0, 0), (.aload_n 0, 1, 0, 0, 0, 0)] [] (pc2 := 6) (ls2 := [some (.ref 1015), some (.int (k_of_s15_4  i2)), some (.int (nI i2))]) (st2 := [.ref 1015, .int (nI i2)]) (M2 := M) (Ps := []) (by decide +kernel) rfl rfl trivial ?_
    have t3 : GM z mJ0_length_8abf5 (d + 3) [.ref 1015] M (fun rs => rs = .inl (some (.int (nI 5)), M)) := c_slen z _ _ 15 (by decide)
    refine G.callT (as := []) (rest := [.int (nI i2)]) (i := 15) oJ0_length_8abf5 lk_EvenFindersModel_121 (by decide +kernel) rfl (by decide) rfl (Nat.le_of_ble_eq_true rfl) rfl ⟨Nat.le_of_ble_eq_true rfl, Nat.le_of_ble_eq_true rfl⟩ t3 (fun v9 N9 h4 => ?_) (fun E9 N9 h4 => by cases h4)
    cases h4
    show G z mX12_of (d + 4) 0 0 9 [some (.ref 1015), some (.int (k_of_s15_4  i2)), some (.int (nI i2))] [.int (nI 5), .int (nI i2)] M Q
    refine G.ic_ge (off := (22)) (tgt := 31) (by decide +kernel) rfl (fun h9 => absurd h9 (nI_ge (by omega) (by omega))) (fun _ => ?_)
    refine G.sl [(.iload_n 1, 1, 1, 0, 0, 0), (.iconst 5, 1, 0, 0, 0, nI 5), (.ishl, 1, 0, 0, 0, 0), (.aload_n 0, 1, 0, 0, 0, 0), (.iload_n 2, 1, 2, 0, 0, 0)] [] (pc2 := 17) (ls2 := [some (.ref 1015), some (.int (k_of_s15_4  i2)), some (.int (nI i2))]) (st2 := [.int (nI i2), .ref 1015, .int ((k_of_s15_4  i2) <<< ((nI 5) &&& 31))]) (M2 := M) (Ps := []) (by decide +kernel) rfl rfl trivial ?_
    have t5 : GM z mJ0_charAt_5068e (d + 3) [.ref 1015, .int (nI i2)] M (fun rs => rs = .inl (some (.int (sby 15 i2)), M)) := c_charAt z _ _ 15 i2 (by decide) (show i2 < 5 from (by omega))
    refine G.callT (as := [.int (nI i2)]) (rest := [.int ((k_of_s15_4  i2) <<< ((nI 5) &&& 31))]) (i := 15) oJ0_charAt_5068e lk_EvenFindersModel_126 (by decide +kernel) rfl (by decide) rfl (Nat.le_of_ble_eq_true rfl) rfl ⟨Nat.le_of_ble_eq_true rfl, Nat.le_of_ble_eq_true rfl⟩ t5 (fun v9 N9 h6 => ?_) (fun E9 N9 h6 => by cases h6)
    cases h6
    show G z mX12_of (d + 4) 0 0 20 [some (.ref 1015), some (.int (k_of_s15_4  i2)), some (.int (nI i2))] [.int (sby 15 i2), .int ((k_of_s15_4  i2) <<< ((nI 5) &&& 31))] M Q
    refine G.sl [(.bipush 96, 2, 0, 0, 0, nI 96), (.isub, 1, 0, 0, 0, 0), (.ior, 1, 0, 0, 0, 0), (.istore_n 1, 1, 1, 0, 0, 0), (.iinc 2 1, 3, 2, 0, 0, nI 1), (.goto (-24), 3, 4, 0, 0, 0)] [] (pc2 := 4) (ls2 := [some (.ref 1015), some (.int (((k_of_s15_4  i2) <<< ((nI 5) &&& 31)) ||| ((sby 15 i2) - (nI 96)))), some (.int ((nI i2) + nI 1))]) (st2 := []) (M2 := M) (Ps := []) (by decide +kernel) rfl rfl trivial ?_
    rw [nI_add i2 1]
    simp only [k_of_s15_4] at ih
    exact ih
set_option maxHeartbeats 4000000 in
set_option maxRecDepth 3000 in
theorem c_k_of_s15 (z : Zp) (d : Nat) (M : Mem) : GM z mX12_of (d + 4) [.ref 1015] M (fun rs => rs = .inl (some (.int (k_of_s15 )), M)) := by
  refine GM.of oX12_of.1 (Nat.le_of_ble_eq_true rfl) ?_
  show G z mX12_of (d + 4) 0 0 0 [some (.ref 1015), none, none] [] M _
  obtain ⟨Q, hQ⟩ : ∃ Q : Rs → Prop, Q = (fun rs => rs = .inl (some (.int (k_of_s15 )), M)) := ⟨_, rfl⟩
  rw [← hQ]
  refine G.sl [(.iconst 0, 1, 0, 0, 0, nI 0), (.istore_n 1, 1, 1, 0, 0, 0), (.iconst 0, 1, 0, 0, 0, nI 0), (.istore_n 2, 1, 2, 0, 0, 0)] [] (pc2 := 4) (ls2 := [some (.ref 1015), some (.int (nI 0)), some (.int (nI 0))]) (st2 := []) (M2 := M) (Ps := []) (by decide +kernel) rfl rfl trivial ?_
  refine lp_k_of_s15_4 z d M Q (cN 5) (cN_eq 5) ?_
  show G z mX12_of (d + 4) 0 0 31 [none, some (.int (k_of_s15_4 (cN 5))), none] [] M Q
  refine G.sl [(.iload_n 1, 1, 1, 0, 0, 0)] [] (pc2 := 32) (ls2 := [none, some (.int (k_of_s15_4 (cN 5))), none]) (st2 := [.int (k_of_s15_4 (cN 5))]) (M2 := M) (Ps := []) (by decide +kernel) rfl rfl trivial ?_
  exact G.reti (by decide +kernel) rfl rfl (Nat.le_of_ble_eq_true rfl) (Nat.le_of_ble_eq_true rfl) ((by rw [hQ]; simp only [k_of_s15, mrow_self]))
set_option maxHeartbeats 4000000 in
set_option maxRecDepth 3000 in
theorem lp_k_of_s16_4 (z : Zp) (d : Nat) (M : Mem) (Q : Rs → Prop) (nn : Nat) (hnn : nn = 5) (hX : G z mX12_of (d + 4) 0 0 31 [none, some (.int (k_of_s16_4  nn)), none] [] M Q) : G z mX12_of (d + 4) 0 0 4 [some (.ref 1016), some (.int (nI 0)), some (.int (nI 0))] [] M Q := by
  refine down (n := nn) (P := fun i2 => G z mX12_of (d + 4) 0 0 4 [some (.ref 1016), some (.int (k_of_s16_4  i2)), some (.int (nI i2))] [] M Q) ?_ ?_ 0 (Nat.zero_le _)
  · skip
    refine G.sl [(.iload_n 2, 1, 2, 0, 0, 0), (.aload_n 0, 1, 0, 0, 0, 0)] [] (pc2 := 6) (ls2 := [some (.ref 1016), some (.int (k_of_s16_4  nn)), some (.int (nI nn))]) (st2 := [.ref 1016, .int (nI nn)]) (M2 := M) (Ps := []) (by decide +kernel) rfl rfl trivial ?_
    have t1 : GM z mJ0_length_8abf5 (d + 3) [.ref 1016] M (fun rs => rs = .inl (some (.int (nI 5)), M)) := c_slen z _ _ 16 (by decide)
    refine G.callT (as := []) (rest := [.int (nI nn)]) (i := 16) oJ0_length_8abf5 lk_EvenFindersModel_121 (by decide +kernel) rfl (by decide) rfl (Nat.le_of_ble_eq_true rfl) rfl ⟨Nat.le_of_ble_eq_true rfl, Nat.le_of_ble_eq_true rfl⟩ t1 (fun v9 N9 h2 => ?_) (fun E9 N9 h2 => by cases h2)
    cases h2
    show G z mX12_of (d + 4) 0 0 9 [some (.ref 1016), some (.int (k_of_s16_4  nn)), some (.int (nI nn))] [.int (nI 5), .int (nI nn)] M Q
    refine G.ic_ge (off := (22)) (tgt := 31) (by decide +kernel) rfl (fun _ => ?_) (fun h9 => absurd (nI_le (by omega) (by omega)) h9)
    refine G.loc (ls2 := [none, some (.int (k_of_s16_4  nn)), none]) (by simp [subL]) ?_
    exact hX
  · skip
    intro i2 hi ih
    show G z mX12_of (d + 4) 0 0 4 [some (.ref 1016), some (.int (k_of_s16_4  i2)), some (.int (nI i2))] [] M Q
    refine G.sl [(.iload_n 2, 1, 2, 0, 0, 0), (.aload_n 0, 1, 0, 0, 0, 0)] [] (pc2 := 6) (ls2 := [some (.ref 1016), some (.int (k_of_s16_4  i2)), some (.int (nI i2))]) (st2 := [.ref 1016, .int (nI i2)]) (M2 := M) (Ps := []) (by decide +kernel) rfl rfl trivial ?_
    have t3 : GM z mJ0_length_8abf5 (d + 3) [.ref 1016] M (fun rs => rs = .inl (some (.int (nI 5)), M)) := c_slen z _ _ 16 (by decide)
    refine G.callT (as := []) (rest := [.int (nI i2)]) (i := 16) oJ0_length_8abf5 lk_EvenFindersModel_121 (by decide +kernel) rfl (by decide) rfl (Nat.le_of_ble_eq_true rfl) rfl ⟨Nat.le_of_ble_eq_true rfl, Nat.le_of_ble_eq_true rfl⟩ t3 (fun v9 N9 h4 => ?_) (fun E9 N9 h4 => by cases h4)
    cases h4
    show G z mX12_of (d + 4) 0 0 9 [some (.ref 1016), some (.int (k_of_s16_4  i2)), some (.int (nI i2))] [.int (nI 5), .int (nI i2)] M Q
    refine G.ic_ge (off := (22)) (tgt := 31) (by decide +kernel) rfl (fun h9 => absurd h9 (nI_ge (by omega) (by omega))) (fun _ => ?_)
    refine G.sl [(.iload_n 1, 1, 1, 0, 0, 0), (.iconst 5, 1, 0, 0, 0, nI 5), (.ishl, 1, 0, 0, 0, 0), (.aload_n 0, 1, 0, 0, 0, 0), (.iload_n 2, 1, 2, 0, 0, 0)] [] (pc2 := 17) (ls2 := [some (.ref 1016), some (.int (k_of_s16_4  i2)), some (.int (nI i2))]) (st2 := [.int (nI i2), .ref 1016, .int ((k_of_s16_4  i2) <<< ((nI 5) &&& 31))]) (M2 := M) (Ps := []) (by decide +kernel) rfl rfl trivial ?_
    have t5 : GM z mJ0_charAt_5068e (d + 3) [.ref 1016, .int (nI i2)] M (fun rs => rs = .inl (some (.int (sby 16 i2)), M)) := c_charAt z _ _ 16 i2 (by decide) (show i2 < 5 from (by omega))
    refine G.callT (as := [.int (nI i2)]) (rest := [.int ((k_of_s16_4  i2) <<< ((nI 5) &&& 31))]) (i := 16) oJ0_charAt_5068e lk_EvenFindersModel_126 (by decide +kernel) rfl (by decide) rfl (Nat.le_of_ble_eq_true rfl) rfl ⟨Nat.le_of_ble_eq_true rfl, Nat.le_of_ble_eq_true rfl⟩ t5 (fun v9 N9 h6 => ?_) (fun E9 N9 h6 => by cases h6)
    cases h6
    show G z mX12_of (d + 4) 0 0 20 [some (.ref 1016), some (.int (k_of_s16_4  i2)), some (.int (nI i2))] [.int (sby 16 i2), .int ((k_of_s16_4  i2) <<< ((nI 5) &&& 31))] M Q
    refine G.sl [(.bipush 96, 2, 0, 0, 0, nI 96), (.isub, 1, 0, 0, 0, 0), (.ior, 1, 0, 0, 0, 0), (.istore_n 1, 1, 1, 0, 0, 0), (.iinc 2 1, 3, 2, 0, 0, nI 1), (.goto (-24), 3, 4, 0, 0, 0)] [] (pc2 := 4) (ls2 := [some (.ref 1016), some (.int (((k_of_s16_4  i2) <<< ((nI 5) &&& 31)) ||| ((sby 16 i2) - (nI 96)))), some (.int ((nI i2) + nI 1))]) (st2 := []) (M2 := M) (Ps := []) (by decide +kernel) rfl rfl trivial ?_
    rw [nI_add i2 1]
    simp only [k_of_s16_4] at ih
    exact ih
set_option maxHeartbeats 4000000 in
set_option maxRecDepth 3000 in
theorem c_k_of_s16 (z : Zp) (d : Nat) (M : Mem) : GM z mX12_of (d + 4) [.ref 1016] M (fun rs => rs = .inl (some (.int (k_of_s16 )), M)) := by
  refine GM.of oX12_of.1 (Nat.le_of_ble_eq_true rfl) ?_
  show G z mX12_of (d + 4) 0 0 0 [some (.ref 1016), none, none] [] M _
  obtain ⟨Q, hQ⟩ : ∃ Q : Rs → Prop, Q = (fun rs => rs = .inl (some (.int (k_of_s16 )), M)) := ⟨_, rfl⟩
  rw [← hQ]
  refine G.sl [(.iconst 0, 1, 0, 0, 0, nI 0), (.istore_n 1, 1, 1, 0, 0, 0), (.iconst 0, 1, 0, 0, 0, nI 0), (.istore_n 2, 1, 2, 0, 0, 0)] [] (pc2 := 4) (ls2 := [some (.ref 1016), some (.int (nI 0)), some (.int (nI 0))]) (st2 := []) (M2 := M) (Ps := []) (by decide +kernel) rfl rfl trivial ?_
  refine lp_k_of_s16_4 z d M Q (cN 5) (cN_eq 5) ?_
  show G z mX12_of (d + 4) 0 0 31 [none, some (.int (k_of_s16_4 (cN 5))), none] [] M Q
  refine G.sl [(.iload_n 1, 1, 1, 0, 0, 0)] [] (pc2 := 32) (ls2 := [none, some (.int (k_of_s16_4 (cN 5))), none]) (st2 := [.int (k_of_s16_4 (cN 5))]) (M2 := M) (Ps := []) (by decide +kernel) rfl rfl trivial ?_
  exact G.reti (by decide +kernel) rfl rfl (Nat.le_of_ble_eq_true rfl) (Nat.le_of_ble_eq_true rfl) ((by rw [hQ]; simp only [k_of_s16, mrow_self]))
set_option maxHeartbeats 4000000 in
set_option maxRecDepth 3000 in
theorem lp_k_of_s17_4 (z : Zp) (d : Nat) (M : Mem) (Q : Rs → Prop) (nn : Nat) (hnn : nn = 3) (hX : G z mX12_of (d + 4) 0 0 31 [none, some (.int (k_of_s17_4  nn)), none] [] M Q) : G z mX12_of (d + 4) 0 0 4 [some (.ref 1017), some (.int (nI 0)), some (.int (nI 0))] [] M Q := by
  refine down (n := nn) (P := fun i2 => G z mX12_of (d + 4) 0 0 4 [some (.ref 1017), some (.int (k_of_s17_4  i2)), some (.int (nI i2))] [] M Q) ?_ ?_ 0 (Nat.zero_le _)
  · skip
    refine G.sl [(.iload_n 2, 1, 2, 0, 0, 0), (.aload_n 0, 1, 0, 0, 0, 0)] [] (pc2 := 6) (ls2 := [some (.ref 1017), some (.int (k_of_s17_4  nn)), some (.int (nI nn))]) (st2 := [.ref 1017, .int (nI nn)]) (M2 := M) (Ps := []) (by decide +kernel) rfl rfl trivial ?_
    have t1 : GM z mJ0_length_8abf5 (d + 3) [.ref 1017] M (fun rs => rs = .inl (some (.int (nI 3)), M)) := c_slen z _ _ 17 (by decide)
    refine G.callT (as := []) (rest := [.int (nI nn)]) (i := 17) oJ0_length_8abf5 lk_EvenFindersModel_121 (by decide +kernel) rfl (by decide) rfl (Nat.le_of_ble_eq_true rfl) rfl ⟨Nat.le_of_ble_eq_true rfl, Nat.le_of_ble_eq_true rfl⟩ t1 (fun v9 N9 h2 => ?_) (fun E9 N9 h2 => by cases h2)
    cases h2
    show G z mX12_of (d + 4) 0 0 9 [some (.ref 1017), some (.int (k_of_s17_4  nn)), some (.int (nI nn))] [.int (nI 3), .int (nI nn)] M Q
    refine G.ic_ge (off := (22)) (tgt := 31) (by decide +kernel) rfl (fun _ => ?_) (fun h9 => absurd (nI_le (by omega) (by omega)) h9)
    refine G.loc (ls2 := [none, some (.int (k_of_s17_4  nn)), none]) (by simp [subL]) ?_
    exact hX
  · skip
    intro i2 hi ih
    show G z mX12_of (d + 4) 0 0 4 [some (.ref 1017), some (.int (k_of_s17_4  i2)), some (.int (nI i2))] [] M Q
    refine G.sl [(.iload_n 2, 1, 2, 0, 0, 0), (.aload_n 0, 1, 0, 0, 0, 0)] [] (pc2 := 6) (ls2 := [some (.ref 1017), some (.int (k_of_s17_4  i2)), some (.int (nI i2))]) (st2 := [.ref 1017, .int (nI i2)]) (M2 := M) (Ps := []) (by decide +kernel) rfl rfl trivial ?_
    have t3 : GM z mJ0_length_8abf5 (d + 3) [.ref 1017] M (fun rs => rs = .inl (some (.int (nI 3)), M)) := c_slen z _ _ 17 (by decide)
    refine G.callT (as := []) (rest := [.int (nI i2)]) (i := 17) oJ0_length_8abf5 lk_EvenFindersModel_121 (by decide +kernel) rfl (by decide) rfl (Nat.le_of_ble_eq_true rfl) rfl ⟨Nat.le_of_ble_eq_true rfl, Nat.le_of_ble_eq_true rfl⟩ t3 (fun v9 N9 h4 => ?_) (fun E9 N9 h4 => by cases h4)
    cases h4
    show G z mX12_of (d + 4) 0 0 9 [some (.ref 1017), some (.int (k_of_s17_4  i2)), some (.int (nI i2))] [.int (nI 3), .int (nI i2)] M Q
    refine G.ic_ge (off := (22)) (tgt := 31) (by decide +kernel) rfl (fun h9 => absurd h9 (nI_ge (by omega) (by omega))) (fun _ => ?_)
    refine G.sl [(.iload_n 1, 1, 1, 0, 0, 0), (.iconst 5, 1, 0, 0, 0, nI 5), (.ishl, 1, 0, 0, 0, 0), (.aload_n 0, 1, 0, 0, 0, 0), (.iload_n 2, 1, 2, 0, 0, 0)] [] (pc2 := 17) (ls2 := [some (.ref 1017), some (.int (k_of_s17_4  i2)), some (.int (nI i2))]) (st2 := [.int (nI i2), .ref 1017, .int ((k_of_s17_4  i2) <<< ((nI 5) &&& 31))]) (M2 := M) (Ps := []) (by decide +kernel) rfl rfl trivial ?_
    have t5 : GM z mJ0_charAt_5068e (d + 3) [.ref 1017, .int (nI i2)] M (fun rs => rs = .inl (some (.int (sby 17 i2)), M)) := c_charAt z _ _ 17 i2 (by decide) (show i2 < 3 from (by omega))
    refine G.callT (as := [.int (nI i2)]) (rest := [.int ((k_of_s17_4  i2) <<< ((nI 5) &&& 31))]) (i := 17) oJ0_charAt_5068e lk_EvenFindersModel_126 (by decide +kernel) rfl (by decide) rfl (Nat.le_of_ble_eq_true rfl) rfl ⟨Nat.le_of_ble_eq_true rfl, Nat.le_of_ble_eq_true rfl⟩ t5 (fun v9 N9 h6 => ?_) (fun E9 N9 h6 => by cases h6)
    cases h6
    show G z mX12_of (d + 4) 0 0 20 [some (.ref 1017), some (.int (k_of_s17_4  i2)), some (.int (nI i2))] [.int (sby 17 i2), .int ((k_of_s17_4  i2) <<< ((nI 5) &&& 31))] M Q
    refine G.sl [(.bipush 96, 2, 0, 0, 0, nI 96), (.isub, 1, 0, 0, 0, 0), (.ior, 1, 0, 0, 0, 0), (.istore_n 1, 1, 1, 0, 0, 0), (.iinc 2 1, 3, 2, 0, 0, nI 1), (.goto (-24), 3, 4, 0, 0, 0)] [] (pc2 := 4) (ls2 := [some (.ref 1017), some (.int (((k_of_s17_4  i2) <<< ((nI 5) &&& 31)) ||| ((sby 17 i2) - (nI 96)))), some (.int ((nI i2) + nI 1))]) (st2 := []) (M2 := M) (Ps := []) (by decide +kernel) rfl rfl trivial ?_
    rw [nI_add i2 1]
    simp only [k_of_s17_4] at ih
    exact ih
set_option maxHeartbeats 4000000 in
set_option maxRecDepth 3000 in
theorem c_k_of_s17 (z : Zp) (d : Nat) (M : Mem) : GM z mX12_of (d + 4) [.ref 1017] M (fun rs => rs = .inl (some (.int (k_of_s17 )), M)) := by
  refine GM.of oX12_of.1 (Nat.le_of_ble_eq_true rfl) ?_
  show G z mX12_of (d + 4) 0 0 0 [some (.ref 1017), none, none] [] M _
  obtain ⟨Q, hQ⟩ : ∃ Q : Rs → Prop, Q = (fun rs => rs = .inl (some (.int (k_of_s17 )), M)) := ⟨_, rfl⟩
  rw [← hQ]
  refine G.sl [(.iconst 0, 1, 0, 0, 0, nI 0), (.istore_n 1, 1, 1, 0, 0, 0), (.iconst 0, 1, 0, 0, 0, nI 0), (.istore_n 2, 1, 2, 0, 0, 0)] [] (pc2 := 4) (ls2 := [some (.ref 1017), some (.int (nI 0)), some (.int (nI 0))]) (st2 := []) (M2 := M) (Ps := []) (by decide +kernel) rfl rfl trivial ?_
  refine lp_k_of_s17_4 z d M Q (cN 3) (cN_eq 3) ?_
  show G z mX12_of (d + 4) 0 0 31 [none, some (.int (k_of_s17_4 (cN 3))), none] [] M Q
  refine G.sl [(.iload_n 1, 1, 1, 0, 0, 0)] [] (pc2 := 32) (ls2 := [none, some (.int (k_of_s17_4 (cN 3))), none]) (st2 := [.int (k_of_s17_4 (cN 3))]) (M2 := M) (Ps := []) (by decide +kernel) rfl rfl trivial ?_
  exact G.reti (by decide +kernel) rfl rfl (Nat.le_of_ble_eq_true rfl) (Nat.le_of_ble_eq_true rfl) ((by rw [hQ]; simp only [k_of_s17, mrow_self]))
set_option maxHeartbeats 4000000 in
set_option maxRecDepth 3000 in
theorem lp_k_of_s18_4 (z : Zp) (d : Nat) (M : Mem) (Q : Rs → Prop) (nn : Nat) (hnn : nn = 5) (hX : G z mX12_of (d + 4) 0 0 31 [none, some (.int (k_of_s18_4  nn)), none] [] M Q) : G z mX12_of (d + 4) 0 0 4 [some (.ref 1018), some (.int (nI 0)), some (.int (nI 0))] [] M Q := by
  refine down (n := nn) (P := fun i2 => G z mX12_of (d + 4) 0 0 4 [some (.ref 1018), some (.int (k_of_s18_4  i2)), some (.int (nI i2))] [] M Q) ?_ ?_ 0 (Nat.zero_le _)
  · skip
    refine G.sl [(.iload_n 2, 1, 2, 0, 0, 0), (.aload_n 0, 1, 0, 0, 0, 0)] [] (pc2 := 6) (ls2 := [some (.ref 1018), some (.int (k_of_s18_4  nn)), some (.int (nI nn))]) (st2 := [.ref 1018, .int (nI nn)]) (M2 := M) (Ps := []) (by decide +kernel) rfl rfl trivial ?_
    have t1 : GM z mJ0_length_8abf5 (d + 3) [.ref 1018] M (fun rs => rs = .inl (some (.int (nI 5)), M)) := c_slen z _ _ 18 (by decide)
    refine G.callT (as := []) (rest := [.int (nI nn)]) (i := 18) oJ0_length_8abf5 lk_EvenFindersModel_121 (by decide +kernel) rfl (by decide) rfl (Nat.le_of_ble_eq_true rfl) rfl ⟨Nat.le_of_ble_eq_true rfl, Nat.le_of_ble_eq_true rfl⟩ t1 (fun v9 N9 h2 => ?_) (fun E9 N9 h2 => by cases h2)
    cases h2
    show G z mX12_of (d + 4) 0 0 9 [some (.ref 1018), some (.int (k_of_s18_4  nn)), some (.int (nI nn))] [.int (nI 5), .int (nI nn)] M Q
    refine G.ic_ge (off := (22)) (tgt := 31) (by decide +kernel) rfl (fun _ => ?_) (fun h9 => absurd (nI_le (by omega) (by omega)) h9)
    refine G.loc (ls2 := [none, some (.int (k_of_s18_4  nn)), none]) (by simp [subL]) ?_
    exact hX
  · skip
    intro i2 hi ih
    show G z mX12_of (d + 4) 0 0 4 [some (.ref 1018), some (.int (k_of_s18_4  i2)), some (.int (nI i2))] [] M Q
    refine G.sl [(.iload_n 2, 1, 2, 0, 0, 0), (.aload_n 0, 1, 0, 0, 0, 0)] [] (pc2 := 6) (ls2 := [some (.ref 1018), some (.int (k_of_s18_4  i2)), some (.int (nI i2))]) (st2 := [.ref 1018, .int (nI i2)]) (M2 := M) (Ps := []) (by decide +kernel) rfl rfl trivial ?_
    have t3 : GM z mJ0_length_8abf5 (d + 3) [.ref 1018] M (fun rs => rs = .inl (some (.int (nI 5)), M)) := c_slen z _ _ 18 (by decide)
    refine G.callT (as := []) (rest := [.int (nI i2)]) (i := 18) oJ0_length_8abf5 lk_EvenFindersModel_121 (by decide +kernel) rfl (by decide) rfl (Nat.le_of_ble_eq_true rfl) rfl ⟨Nat.le_of_ble_eq_true rfl, Nat.le_of_ble_eq_true rfl⟩ t3 (fun v9 N9 h4 => ?_) (fun E9 N9 h4 => by cases h4)
    cases h4
    show G z mX12_of (d + 4) 0 0 9 [some (.ref 1018), some (.int (k_of_s18_4  i2)), some (.int (nI i2))] [.int (nI 5), .int (nI i2)] M Q
    refine G.ic_ge (off := (22)) (tgt := 31) (by decide +kernel) rfl (fun h9 => absurd h9 (nI_ge (by omega) (by omega))) (fun _ => ?_)
    refine G.sl [(.iload_n 1, 1, 1, 0, 0, 0), (.iconst 5, 1, 0, 0, 0, nI 5), (.ishl, 1, 0, 0, 0, 0), (.aload_n 0, 1, 0, 0, 0, 0), (.iload_n 2, 1, 2, 0, 0, 0)] [] (pc2 := 17) (ls2 := [some (.ref 1018), some (.int (k_of_s18_4  i2)), some (.int (nI i2))]) (st2 := [.int (nI i2), .ref 1018, .int ((k_of_s18_4  i2) <<< ((nI 5) &&& 31))]) (M2 := M) (Ps := []) (by decide +kernel) rfl rfl trivial ?_
    have t5 : GM z mJ0_charAt_5068e (d + 3) [.ref 1018, .int (nI i2)] M (fun rs => rs = .inl (some (.int (sby 18 i2)), M)) := c_charAt z _ _ 18 i2 (by decide) (show i2 < 5 from (by omega))
    refine G.callT (as := [.int (nI i2)]) (rest := [.int ((k_of_s18_4  i2) <<< ((nI 5) &&& 31))]) (i := 18) oJ0_charAt_5068e lk_EvenFindersModel_126 (by decide +kernel) rfl (by decide) rfl (Nat.le_of_ble_eq_true rfl) rfl ⟨Nat.le_of_ble_eq_true rfl, Nat.le_of_ble_eq_true rfl⟩ t5 (fun v9 N9 h6 => ?_) (fun E9 N9 h6 => by cases h6)
    cases h6
    show G z mX12_of (d + 4) 0 0 20 [some (.ref 1018), some (.int (k_of_s18_4  i2)), some (.int (nI i2))] [.int (sby 18 i2), .int ((k_of_s18_4  i2) <<< ((nI 5) &&& 31))] M Q
    refine G.sl [(.bipush 96, 2, 0, 0, 0, nI 96), (.isub, 1, 0, 0, 0, 0), (.ior, 1, 0, 0, 0, 0), (.istore_n 1, 1, 1, 0, 0, 0), (.iinc 2 1, 3, 2, 0, 0, nI 1), (.goto (-24), 3, 4, 0, 0, 0)] [] (pc2 := 4) (ls2 := [some (.ref 1018), some (.int (((k_of_s18_4  i2) <<< ((nI 5) &&& 31)) ||| ((sby 18 i2) - (nI 96)))), some (.int ((nI i2) + nI 1))]) (st2 := []) (M2 := M) (Ps := []) (by decide +kernel) rfl rfl trivial ?_
    rw [nI_add i2 1]
    simp only [k_of_s18_4] at ih
    exact ih
set_option maxHeartbeats 4000000 in
set_option maxRecDepth 3000 in
theorem c_k_of_s18 (z : Zp) (d : Nat) (M : Mem) : GM z mX12_of (d + 4) [.ref 1018] M (fun rs => rs = .inl (some (.int (k_of_s18 )), M)) := by
  refine GM.of oX12_of.1 (Nat.le_of_ble_eq_true rfl) ?_
  show G z mX12_of (d + 4) 0 0 0 [some (.ref 1018), none, none] [] M _
  obtain ⟨Q, hQ⟩ : ∃ Q : Rs → Prop, Q = (fun rs => rs = .inl (some (.int (k_of_s18 )), M)) := ⟨_, rfl⟩
  rw [← hQ]
  refine G.sl [(.iconst 0, 1, 0, 0, 0, nI 0), (.istore_n 1, 1, 1, 0, 0, 0), (.iconst 0, 1, 0, 0, 0, nI 0), (.istore_n 2, 1, 2, 0, 0, 0)] [] (pc2 := 4) (ls2 := [some (.ref 1018), some (.int (nI 0)), some (.int (nI 0))]) (st2 := []) (M2 := M) (Ps := []) (by decide +kernel) rfl rfl trivial ?_
  refine lp_k_of_s18_4 z d M Q (cN 5) (cN_eq 5) ?_
  show G z mX12_of (d + 4) 0 0 31 [none, some (.int (k_of_s18_4 (cN 5))), none] [] M Q
  refine G.sl [(.iload_n 1, 1, 1, 0, 0, 0)] [] (pc2 := 32) (ls2 := [none, some (.int (k_of_s18_4 (cN 5))), none]) (st2 := [.int (k_of_s18_4 (cN 5))]) (M2 := M) (Ps := []) (by decide +kernel) rfl rfl trivial ?_
  exact G.reti (by decide +kernel) rfl rfl (Nat.le_of_ble_eq_true rfl) (Nat.le_of_ble_eq_true rfl) ((by rw [hQ]; simp only [k_of_s18, mrow_self]))
set_option maxHeartbeats 4000000 in
set_option maxRecDepth 3000 in
theorem c_k_factHere_54 (z : Zp) (d : Nat) (M : Mem) (hk : k_factHere_ok (M.1 54) (M.1 56)) : GM z mX12_factHere (d + 5) [.ref 54] M (fun rs => rs = .inl (some (.int ((k_factHere (M.1 54) (M.1 56)).1)), mrow M 54 ((k_factHere (M.1 54) (M.1 56)).2))) := by
  simp only [k_factHere_ok] at hk
  refine GM.of oX12_factHere.1 (Nat.le_of_ble_eq_true rfl) ?_
  show G z mX12_factHere (d + 5) 0 0 0 [some (.ref 54), none] [] M _
  obtain ⟨Q, hQ⟩ : ∃ Q : Rs → Prop, Q = (fun rs => rs = .inl (some (.int ((k_factHere (M.1 54) (M.1 56)).1)), mrow M 54 ((k_factHere (M.1 54) (M.1 56)).2))) := ⟨_, rfl⟩
  rw [← hQ]
  refine G.sl [(.aload_n 0, 1, 0, 0, 0, 0)] [] (pc2 := 1) (ls2 := [some (.ref 54), none]) (st2 := [.ref 54]) (M2 := M) (Ps := []) (by decide +kernel) rfl rfl trivial ?_
  obtain ⟨k1, hk⟩ := hk
  rcases g2 : k_word (M.1 54) (M.1 56) with ⟨v3, r4⟩
  have t5 : GM z mX12_word (d + 4) [.ref 54] M (fun rs => rs = .inl (some (.int v3), mrow M 54 r4)) := by
    have q9 := c_k_word_54 z (d + 3) M k1
    try simp only [mput, mrow_same, mrow_hit, mrow_miss, mrow_sw, idr_eq, ne_eq, Nat.reduceEqDiff, not_false_eq_true, Nat.reduceLT, reduceCtorEq, g2] at q9
    exact q9
  refine G.callV (as := []) (rest := []) (a := 54) oX12_word lk_EvenFindersModel_224 (by decide +kernel) rfl rfl ⟨rfl, rfl⟩ (Nat.le_of_ble_eq_true rfl) rfl ⟨Nat.le_of_ble_eq_true rfl, Nat.le_of_ble_eq_true rfl⟩ t5 (fun v9 N9 h6 => ?_) (fun E9 N9 h6 => by cases h6)
  cases h6
  show G z mX12_factHere (d + 5) 0 0 4 [some (.ref 54), none] [.int v3] (mrow M 54 r4) Q
  refine G.sl [(.istore_n 1, 1, 1, 0, 0, 0), (.iload_n 1, 1, 1, 0, 0, 0), (.ldc_w 264, 3, 1, 12, 0, 0)] [] (pc2 := 9) (ls2 := [some (.ref 54), some (.int v3)]) (st2 := [.ref 1012, .int v3]) (M2 := mrow M 54 r4) (Ps := []) (by decide +kernel) rfl rfl trivial ?_
  have t8 : GM z mX12_of (d + 4) [.ref 1012] (mrow M 54 r4) (fun rs => rs = .inl (some (.int k_of_s12), mrow M 54 r4)) := by
    have q9 := c_k_of_s12 z d (mrow M 54 r4) 
    try simp only [mput, mrow_same, mrow_hit, mrow_miss, mrow_sw, idr_eq, ne_eq, Nat.reduceEqDiff, not_false_eq_true, Nat.reduceLT, reduceCtorEq] at q9
    exact q9
  refine G.callS (as := [.ref 1012]) (rest := [.int v3]) oX12_of lk_EvenFindersModel_198 (by decide +kernel) rfl (Nat.le_of_ble_eq_true rfl) rfl ⟨Nat.le_of_ble_eq_true rfl, Nat.le_of_ble_eq_true rfl⟩ t8 (fun v9 N9 h9 => ?_) (fun E9 N9 h9 => by cases h9)
  cases h9
  show G z mX12_factHere (d + 5) 0 0 12 [some (.ref 54), some (.int v3)] [.int k_of_s12, .int v3] (mrow M 54 r4) Q
  refine G.ic_ne (off := (7)) (tgt := 19) (by decide +kernel) rfl (fun c10 => ?_) (fun c10 => ?_)
  · skip
    refine G.sl [(.iload_n 1, 1, 1, 0, 0, 0), (.ldc_w 266, 3, 1, 13, 0, 0)] [] (pc2 := 23) (ls2 := [some (.ref 54), some (.int v3)]) (st2 := [.ref 1013, .int v3]) (M2 := mrow M 54 r4) (Ps := []) (by decide +kernel) rfl rfl trivial ?_
    have t12 : GM z mX12_of (d + 4) [.ref 1013] (mrow M 54 r4) (fun rs => rs = .inl (some (.int k_of_s13), mrow M 54 r4)) := by
      have q9 := c_k_of_s13 z d (mrow M 54 r4) 
      try simp only [mput, mrow_same, mrow_hit, mrow_miss, mrow_sw, idr_eq, ne_eq, Nat.reduceEqDiff, not_false_eq_true, Nat.reduceLT, reduceCtorEq] at q9
      exact q9
    refine G.callS (as := [.ref 1013]) (rest := [.int v3]) oX12_of lk_EvenFindersModel_198 (by decide +kernel) rfl (Nat.le_of_ble_eq_true rfl) rfl ⟨Nat.le_of_ble_eq_true rfl, Nat.le_of_ble_eq_true rfl⟩ t12 (fun v9 N9 h13 => ?_) (fun E9 N9 h13 => by cases h13)
    cases h13
    show G z mX12_factHere (d + 5) 0 0 26 [some (.ref 54), some (.int v3)] [.int k_of_s13, .int v3] (mrow M 54 r4) Q
    refine G.ic_ne (off := (7)) (tgt := 33) (by decide +kernel) rfl (fun c14 => ?_) (fun c14 => ?_)
    · skip
      refine G.sl [(.iload_n 1, 1, 1, 0, 0, 0), (.ldc_w 268, 3, 1, 14, 0, 0)] [] (pc2 := 37) (ls2 := [some (.ref 54), some (.int v3)]) (st2 := [.ref 1014, .int v3]) (M2 := mrow M 54 r4) (Ps := []) (by decide +kernel) rfl rfl trivial ?_
      have t16 : GM z mX12_of (d + 4) [.ref 1014] (mrow M 54 r4) (fun rs => rs = .inl (some (.int k_of_s14), mrow M 54 r4)) := by
        have q9 := c_k_of_s14 z d (mrow M 54 r4) 
        try simp only [mput, mrow_same, mrow_hit, mrow_miss, mrow_sw, idr_eq, ne_eq, Nat.reduceEqDiff, not_false_eq_true, Nat.reduceLT, reduceCtorEq] at q9
        exact q9
      refine G.callS (as := [.ref 1014]) (rest := [.int v3]) oX12_of lk_EvenFindersModel_198 (by decide +kernel) rfl (Nat.le_of_ble_eq_true rfl) rfl ⟨Nat.le_of_ble_eq_true rfl, Nat.le_of_ble_eq_true rfl⟩ t16 (fun v9 N9 h17 => ?_) (fun E9 N9 h17 => by cases h17)
      cases h17
      show G z mX12_factHere (d + 5) 0 0 40 [some (.ref 54), some (.int v3)] [.int k_of_s14, .int v3] (mrow M 54 r4) Q
      refine G.ic_ne (off := (7)) (tgt := 47) (by decide +kernel) rfl (fun c18 => ?_) (fun c18 => ?_)
      · skip
        refine G.sl [(.iload_n 1, 1, 1, 0, 0, 0), (.ldc_w 270, 3, 1, 15, 0, 0)] [] (pc2 := 51) (ls2 := [some (.ref 54), some (.int v3)]) (st2 := [.ref 1015, .int v3]) (M2 := mrow M 54 r4) (Ps := []) (by decide +kernel) rfl rfl trivial ?_
        have t20 : GM z mX12_of (d + 4) [.ref 1015] (mrow M 54 r4) (fun rs => rs = .inl (some (.int k_of_s15), mrow M 54 r4)) := by
          have q9 := c_k_of_s15 z d (mrow M 54 r4) 
          try simp only [mput, mrow_same, mrow_hit, mrow_miss, mrow_sw, idr_eq, ne_eq, Nat.reduceEqDiff, not_false_eq_true, Nat.reduceLT, reduceCtorEq] at q9
          exact q9
        refine G.callS (as := [.ref 1015]) (rest := [.int v3]) oX12_of lk_EvenFindersModel_198 (by decide +kernel) rfl (Nat.le_of_ble_eq_true rfl) rfl ⟨Nat.le_of_ble_eq_true rfl, Nat.le_of_ble_eq_true rfl⟩ t20 (fun v9 N9 h21 => ?_) (fun E9 N9 h21 => by cases h21)
        cases h21
        show G z mX12_factHere (d + 5) 0 0 54 [some (.ref 54), some (.int v3)] [.int k_of_s15, .int v3] (mrow M 54 r4) Q
        refine G.ic_ne (off := (7)) (tgt := 61) (by decide +kernel) rfl (fun c22 => ?_) (fun c22 => ?_)
        · skip
          refine G.sl [(.iload_n 1, 1, 1, 0, 0, 0), (.ldc_w 272, 3, 1, 16, 0, 0)] [] (pc2 := 65) (ls2 := [some (.ref 54), some (.int v3)]) (st2 := [.ref 1016, .int v3]) (M2 := mrow M 54 r4) (Ps := []) (by decide +kernel) rfl rfl trivial ?_
          have t24 : GM z mX12_of (d + 4) [.ref 1016] (mrow M 54 r4) (fun rs => rs = .inl (some (.int k_of_s16), mrow M 54 r4)) := by
            have q9 := c_k_of_s16 z d (mrow M 54 r4) 
            try simp only [mput, mrow_same, mrow_hit, mrow_miss, mrow_sw, idr_eq, ne_eq, Nat.reduceEqDiff, not_false_eq_true, Nat.reduceLT, reduceCtorEq] at q9
            exact q9
          refine G.callS (as := [.ref 1016]) (rest := [.int v3]) oX12_of lk_EvenFindersModel_198 (by decide +kernel) rfl (Nat.le_of_ble_eq_true rfl) rfl ⟨Nat.le_of_ble_eq_true rfl, Nat.le_of_ble_eq_true rfl⟩ t24 (fun v9 N9 h25 => ?_) (fun E9 N9 h25 => by cases h25)
          cases h25
          show G z mX12_factHere (d + 5) 0 0 68 [some (.ref 54), some (.int v3)] [.int k_of_s16, .int v3] (mrow M 54 r4) Q
          refine G.ic_ne (off := (7)) (tgt := 75) (by decide +kernel) rfl (fun c26 => ?_) (fun c26 => ?_)
          · skip
            refine G.sl [(.iload_n 1, 1, 1, 0, 0, 0), (.ldc_w 274, 3, 1, 17, 0, 0)] [] (pc2 := 79) (ls2 := [some (.ref 54), some (.int v3)]) (st2 := [.ref 1017, .int v3]) (M2 := mrow M 54 r4) (Ps := []) (by decide +kernel) rfl rfl trivial ?_
            have t28 : GM z mX12_of (d + 4) [.ref 1017] (mrow M 54 r4) (fun rs => rs = .inl (some (.int k_of_s17), mrow M 54 r4)) := by
              have q9 := c_k_of_s17 z d (mrow M 54 r4) 
              try simp only [mput, mrow_same, mrow_hit, mrow_miss, mrow_sw, idr_eq, ne_eq, Nat.reduceEqDiff, not_false_eq_true, Nat.reduceLT, reduceCtorEq] at q9
              exact q9
            refine G.callS (as := [.ref 1017]) (rest := [.int v3]) oX12_of lk_EvenFindersModel_198 (by decide +kernel) rfl (Nat.le_of_ble_eq_true rfl) rfl ⟨Nat.le_of_ble_eq_true rfl, Nat.le_of_ble_eq_true rfl⟩ t28 (fun v9 N9 h29 => ?_) (fun E9 N9 h29 => by cases h29)
            cases h29
            show G z mX12_factHere (d + 5) 0 0 82 [some (.ref 54), some (.int v3)] [.int k_of_s17, .int v3] (mrow M 54 r4) Q
            refine G.ic_ne (off := (7)) (tgt := 89) (by decide +kernel) rfl (fun c30 => ?_) (fun c30 => ?_)
            · skip
              refine G.sl [(.iload_n 1, 1, 1, 0, 0, 0), (.ldc_w 276, 3, 1, 18, 0, 0)] [] (pc2 := 93) (ls2 := [some (.ref 54), some (.int v3)]) (st2 := [.ref 1018, .int v3]) (M2 := mrow M 54 r4) (Ps := []) (by decide +kernel) rfl rfl trivial ?_
              have t32 : GM z mX12_of (d + 4) [.ref 1018] (mrow M 54 r4) (fun rs => rs = .inl (some (.int k_of_s18), mrow M 54 r4)) := by
                have q9 := c_k_of_s18 z d (mrow M 54 r4) 
                try simp only [mput, mrow_same, mrow_hit, mrow_miss, mrow_sw, idr_eq, ne_eq, Nat.reduceEqDiff, not_false_eq_true, Nat.reduceLT, reduceCtorEq] at q9
                exact q9
              refine G.callS (as := [.ref 1018]) (rest := [.int v3]) oX12_of lk_EvenFindersModel_198 (by decide +kernel) rfl (Nat.le_of_ble_eq_true rfl) rfl ⟨Nat.le_of_ble_eq_true rfl, Nat.le_of_ble_eq_true rfl⟩ t32 (fun v9 N9 h33 => ?_) (fun E9 N9 h33 => by cases h33)
              cases h33
              show G z mX12_factHere (d + 5) 0 0 96 [some (.ref 54), some (.int v3)] [.int k_of_s18, .int v3] (mrow M 54 r4) Q
              refine G.ic_ne (off := (8)) (tgt := 104) (by decide +kernel) rfl (fun c34 => ?_) (fun c34 => ?_)
              · skip
                refine G.sl [(.iload_n 1, 1, 1, 0, 0, 0), (.ldc 204, 2, 1, 8, 0, 0)] [] (pc2 := 107) (ls2 := [some (.ref 54), some (.int v3)]) (st2 := [.ref 1008, .int v3]) (M2 := mrow M 54 r4) (Ps := []) (by decide +kernel) rfl rfl trivial ?_
                have t36 : GM z mX12_of (d + 4) [.ref 1008] (mrow M 54 r4) (fun rs => rs = .inl (some (.int k_of_s8), mrow M 54 r4)) := by
                  have q9 := c_k_of_s8 z d (mrow M 54 r4) 
                  try simp only [mput, mrow_same, mrow_hit, mrow_miss, mrow_sw, idr_eq, ne_eq, Nat.reduceEqDiff, not_false_eq_true, Nat.reduceLT, reduceCtorEq] at q9
                  exact q9
                refine G.callS (as := [.ref 1008]) (rest := [.int v3]) oX12_of lk_EvenFindersModel_198 (by decide +kernel) rfl (Nat.le_of_ble_eq_true rfl) rfl ⟨Nat.le_of_ble_eq_true rfl, Nat.le_of_ble_eq_true rfl⟩ t36 (fun v9 N9 h37 => ?_) (fun E9 N9 h37 => by cases h37)
                cases h37
                show G z mX12_factHere (d + 5) 0 0 110 [some (.ref 54), some (.int v3)] [.int k_of_s8, .int v3] (mrow M 54 r4) Q
                refine G.ic_ne (off := (8)) (tgt := 118) (by decide +kernel) rfl (fun c38 => ?_) (fun c38 => ?_)
                · skip
                  refine G.sl [(.iconst (-1), 1, 0, 0, 0, (-1))] [] (pc2 := 119) (ls2 := [some (.ref 54), some (.int v3)]) (st2 := [.int ((-1))]) (M2 := mrow M 54 r4) (Ps := []) (by decide +kernel) rfl rfl trivial ?_
                  exact G.reti (by decide +kernel) rfl rfl (Nat.le_of_ble_eq_true rfl) (Nat.le_of_ble_eq_true rfl) ((by rw [hQ]; simp only [k_factHere, g2, if_neg c10, if_neg c14, if_neg c18, if_neg c22, if_neg c26, if_neg c30, if_neg c34, if_neg c38, mrow_self]))
                · skip
                  refine G.sl [(.bipush 7, 2, 0, 0, 0, nI 7), (.goto 4, 3, 119, 0, 0, 0)] [] (pc2 := 119) (ls2 := [some (.ref 54), some (.int v3)]) (st2 := [.int (nI 7)]) (M2 := mrow M 54 r4) (Ps := []) (by decide +kernel) rfl rfl trivial ?_
                  exact G.reti (by decide +kernel) rfl rfl (Nat.le_of_ble_eq_true rfl) (Nat.le_of_ble_eq_true rfl) ((by rw [hQ]; simp only [k_factHere, g2, if_neg c10, if_neg c14, if_neg c18, if_neg c22, if_neg c26, if_neg c30, if_neg c34, if_pos c38, mrow_self]))
              · skip
                refine G.sl [(.bipush 6, 2, 0, 0, 0, nI 6), (.goto 18, 3, 119, 0, 0, 0)] [] (pc2 := 119) (ls2 := [some (.ref 54), some (.int v3)]) (st2 := [.int (nI 6)]) (M2 := mrow M 54 r4) (Ps := []) (by decide +kernel) rfl rfl trivial ?_
                exact G.reti (by decide +kernel) rfl rfl (Nat.le_of_ble_eq_true rfl) (Nat.le_of_ble_eq_true rfl) ((by rw [hQ]; simp only [k_factHere, g2, if_neg c10, if_neg c14, if_neg c18, if_neg c22, if_neg c26, if_neg c30, if_pos c34, mrow_self]))
            · skip
              refine G.sl [(.iconst 5, 1, 0, 0, 0, nI 5), (.goto 33, 3, 119, 0, 0, 0)] [] (pc2 := 119) (ls2 := [some (.ref 54), some (.int v3)]) (st2 := [.int (nI 5)]) (M2 := mrow M 54 r4) (Ps := []) (by decide +kernel) rfl rfl trivial ?_
              exact G.reti (by decide +kernel) rfl rfl (Nat.le_of_ble_eq_true rfl) (Nat.le_of_ble_eq_true rfl) ((by rw [hQ]; simp only [k_factHere, g2, if_neg c10, if_neg c14, if_neg c18, if_neg c22, if_neg c26, if_pos c30, mrow_self]))
          · skip
            refine G.sl [(.iconst 4, 1, 0, 0, 0, nI 4), (.goto 47, 3, 119, 0, 0, 0)] [] (pc2 := 119) (ls2 := [some (.ref 54), some (.int v3)]) (st2 := [.int (nI 4)]) (M2 := mrow M 54 r4) (Ps := []) (by decide +kernel) rfl rfl trivial ?_
            exact G.reti (by decide +kernel) rfl rfl (Nat.le_of_ble_eq_true rfl) (Nat.le_of_ble_eq_true rfl) ((by rw [hQ]; simp only [k_factHere, g2, if_neg c10, if_neg c14, if_neg c18, if_neg c22, if_pos c26, mrow_self]))
        · skip
          refine G.sl [(.iconst 3, 1, 0, 0, 0, nI 3), (.goto 61, 3, 119, 0, 0, 0)] [] (pc2 := 119) (ls2 := [some (.ref 54), some (.int v3)]) (st2 := [.int (nI 3)]) (M2 := mrow M 54 r4) (Ps := []) (by decide +kernel) rfl rfl trivial ?_
          exact G.reti (by decide +kernel) rfl rfl (Nat.le_of_ble_eq_true rfl) (Nat.le_of_ble_eq_true rfl) ((by rw [hQ]; simp only [k_factHere, g2, if_neg c10, if_neg c14, if_neg c18, if_pos c22, mrow_self]))
      · skip
        refine G.sl [(.iconst 2, 1, 0, 0, 0, nI 2), (.goto 75, 3, 119, 0, 0, 0)] [] (pc2 := 119) (ls2 := [some (.ref 54), some (.int v3)]) (st2 := [.int (nI 2)]) (M2 := mrow M 54 r4) (Ps := []) (by decide +kernel) rfl rfl trivial ?_
        exact G.reti (by decide +kernel) rfl rfl (Nat.le_of_ble_eq_true rfl) (Nat.le_of_ble_eq_true rfl) ((by rw [hQ]; simp only [k_factHere, g2, if_neg c10, if_neg c14, if_pos c18, mrow_self]))
    · skip
      refine G.sl [(.iconst 1, 1, 0, 0, 0, nI 1), (.goto 89, 3, 119, 0, 0, 0)] [] (pc2 := 119) (ls2 := [some (.ref 54), some (.int v3)]) (st2 := [.int (nI 1)]) (M2 := mrow M 54 r4) (Ps := []) (by decide +kernel) rfl rfl trivial ?_
      exact G.reti (by decide +kernel) rfl rfl (Nat.le_of_ble_eq_true rfl) (Nat.le_of_ble_eq_true rfl) ((by rw [hQ]; simp only [k_factHere, g2, if_neg c10, if_pos c14, mrow_self]))
  · skip
    refine G.sl [(.iconst 0, 1, 0, 0, 0, nI 0), (.goto 103, 3, 119, 0, 0, 0)] [] (pc2 := 119) (ls2 := [some (.ref 54), some (.int v3)]) (st2 := [.int (nI 0)]) (M2 := mrow M 54 r4) (Ps := []) (by decide +kernel) rfl rfl trivial ?_
    exact G.reti (by decide +kernel) rfl rfl (Nat.le_of_ble_eq_true rfl) (Nat.le_of_ble_eq_true rfl) ((by rw [hQ]; simp only [k_factHere, g2, if_pos c10, mrow_self]))
set_option maxHeartbeats 4000000 in
set_option maxRecDepth 3000 in
theorem c_k_emit_54 (z : Zp) (d : Nat) (M : Mem) (x1 : Int32) (x2 : Int32) (hk : k_emit_ok (M.1 54) (M.1 63) (M.1 64) x1 x2) : GM z mX12_emit (d + 1) [.ref 54, .int x1, .int x2] M (fun rs => rs = .inl (none, mrow (mrow (mrow M 54 ((k_emit (M.1 54) (M.1 63) (M.1 64) x1 x2).2.1)) 63 ((k_emit (M.1 54) (M.1 63) (M.1 64) x1 x2).2.2.1)) 64 ((k_emit (M.1 54) (M.1 63) (M.1 64) x1 x2).2.2.2))) := by
  simp only [k_emit_ok] at hk
  refine GM.of oX12_emit.1 (Nat.le_of_ble_eq_true rfl) ?_
  show G z mX12_emit (d + 1) 0 0 0 [some (.ref 54), some (.int x1), some (.int x2)] [] M _
  obtain ⟨Q, hQ⟩ : ∃ Q : Rs → Prop, Q = (fun rs => rs = .inl (none, mrow (mrow (mrow M 54 ((k_emit (M.1 54) (M.1 63) (M.1 64) x1 x2).2.1)) 63 ((k_emit (M.1 54) (M.1 63) (M.1 64) x1 x2).2.2.1)) 64 ((k_emit (M.1 54) (M.1 63) (M.1 64) x1 x2).2.2.2))) := ⟨_, rfl⟩
  rw [← hQ]
  refine G.sl [(.aload_n 0, 1, 0, 0, 0, 0)] [] (pc2 := 1) (ls2 := [some (.ref 54), some (.int x1), some (.int x2)]) (st2 := [.ref 54]) (M2 := M) (Ps := []) (by decide +kernel) rfl rfl trivial ?_
  obtain ⟨k1, hk⟩ := hk
  have t2 : GM z mX12_fine (d) [.ref 54] M (fun rs => rs = .inl (some (.int (k_fine (M.1 54))), M)) := by
    have q9 := c_k_fine_54 z d M 
    try simp only [mput, mrow_same, mrow_hit, mrow_miss, mrow_sw, idr_eq, ne_eq, Nat.reduceEqDiff, not_false_eq_true, Nat.reduceLT, reduceCtorEq] at q9
    exact q9
  refine G.callV (as := []) (rest := []) (a := 54) oX12_fine lk_EvenFindersModel_130 (by decide +kernel) rfl rfl ⟨rfl, rfl⟩ (Nat.le_of_ble_eq_true rfl) rfl ⟨Nat.le_of_ble_eq_true rfl, Nat.le_of_ble_eq_true rfl⟩ t2 (fun v9 N9 h3 => ?_) (fun E9 N9 h3 => by cases h3)
  cases h3
  show G z mX12_emit (d + 1) 0 0 4 [some (.ref 54), some (.int x1), some (.int x2)] [.int (k_fine (M.1 54))] M Q
  refine G.if_ne (off := (4)) (tgt := 8) (by decide +kernel) rfl (fun c4 => ?_) (fun c4 => ?_)
  · skip
    rw [if_neg c4] at hk
    obtain ⟨k5, k6, hk⟩ := hk
    refine G.sl [(.aload_n 0, 1, 0, 0, 0, 0), (.getfield 41, 3, 11, 24, 147, 0), (.aload_n 0, 1, 0, 0, 0, 0), (.getfield 246, 3, 11, 29, 152, 0), (.iload_n 1, 1, 1, 0, 0, 0), (.iastore, 1, 0, 0, 0, 0), (.aload_n 0, 1, 0, 0, 0, 0), (.getfield 44, 3, 11, 25, 148, 0), (.aload_n 0, 1, 0, 0, 0, 0), (.getfield 246, 3, 11, 29, 152, 0), (.iload_n 2, 1, 2, 0, 0, 0), (.iastore, 1, 0, 0, 0, 0), (.aload_n 0, 1, 0, 0, 0, 0), (.dup, 1, 0, 0, 0, 0), (.getfield 246, 3, 11, 29, 152, 0), (.iconst 1, 1, 0, 0, 0, nI 1), (.iadd, 1, 0, 0, 0, 0), (.putfield 246, 3, 11, 29, 152, 0)] [ix (M.1 54 29), ix (M.1 54 29)] (pc2 := 38) (ls2 := [some (.ref 54), some (.int x1), some (.int x2)]) (st2 := []) (M2 := mput (mput (mput M 63 (ix (M.1 54 29)) x1) 64 (ix (M.1 54 29)) x2) 54 29 ((M.1 54 29) + (nI 1))) (Ps := [(M.1 54 29) = nI (ix (M.1 54 29)) ∧ (ix (M.1 54 29)) < 150, (M.1 54 29) = nI (ix (M.1 54 29)) ∧ (ix (M.1 54 29)) < 150]) (by decide +kernel) rfl rfl ⟨⟨(ixE k5), k6⟩, ⟨(ixE k5), k6⟩, trivial⟩ ?_
    refine G.mem (M' := mrow (mrow (mrow M 54 (upd (M.1 54) 29 ((M.1 54 29) + (nI 1)))) 63 (upd (M.1 63) (ix (M.1 54 29)) x1)) 64 (upd (M.1 64) (ix (M.1 54 29)) x2)) (by first | rfl | (simp only [mput, mrow_same, mrow_hit, mrow_miss, mrow_sw, idr_eq, ne_eq, Nat.reduceEqDiff, not_false_eq_true, Nat.reduceLT, reduceCtorEq]; done)) ?_
    exact G.retv (by decide +kernel) rfl (Nat.le_of_ble_eq_true rfl) (Nat.le_of_ble_eq_true rfl) ((by rw [hQ]; simp only [k_emit, if_neg c4, mrow_self]))
  · skip
    rw [if_pos c4] at hk
    refine G.mem (M' := mrow (mrow (mrow M 54 (M.1 54)) 63 (M.1 63)) 64 (M.1 64)) (((((mrow_id (N := M) (c := 54) (f := M.1 54) (by first | rfl | (simp only [mput, mrow_same, mrow_hit, mrow_miss, mrow_sw, idr_eq, ne_eq, Nat.reduceEqDiff, not_false_eq_true, Nat.reduceLT, reduceCtorEq]; done))).symm).trans (mrow_id (N := mrow M 54 (M.1 54)) (c := 63) (f := M.1 63) (by first | rfl | (simp only [mput, mrow_same, mrow_hit, mrow_miss, mrow_sw, idr_eq, ne_eq, Nat.reduceEqDiff, not_false_eq_true, Nat.reduceLT, reduceCtorEq]; done))).symm).trans (mrow_id (N := mrow (mrow M 54 (M.1 54)) 63 (M.1 63)) (c := 64) (f := M.1 64) (by first | rfl | (simp only [mput, mrow_same, mrow_hit, mrow_miss, mrow_sw, idr_eq, ne_eq, Nat.reduceEqDiff, not_false_eq_true, Nat.reduceLT, reduceCtorEq]; done))).symm).trans (by first | rfl | (simp only [mput, mrow_same, mrow_hit, mrow_miss, mrow_sw, idr_eq, ne_eq, Nat.reduceEqDiff, not_false_eq_true, Nat.reduceLT, reduceCtorEq]; done))) ?_
    exact G.retv (by decide +kernel) rfl (Nat.le_of_ble_eq_true rfl) (Nat.le_of_ble_eq_true rfl) ((by rw [hQ]; simp only [k_emit, if_pos c4, mrow_self]))
set_option maxHeartbeats 4000000 in
set_option maxRecDepth 3000 in
theorem c_k_opensOne_54 (z : Zp) (d : Nat) (M : Mem) (x1 : Int32) : GM z mX12_opensOne (d + 1) [.ref 54, .int x1] M (fun rs => rs = .inl (none, mrow M 54 ((k_opensOne (M.1 54) x1).2))) := by
  refine GM.of oX12_opensOne.1 (Nat.le_of_ble_eq_true rfl) ?_
  show G z mX12_opensOne (d + 1) 0 0 0 [some (.ref 54), some (.int x1)] [] M _
  obtain ⟨Q, hQ⟩ : ∃ Q : Rs → Prop, Q = (fun rs => rs = .inl (none, mrow M 54 ((k_opensOne (M.1 54) x1).2))) := ⟨_, rfl⟩
  rw [← hQ]
  refine G.sl [(.aload_n 0, 1, 0, 0, 0, 0)] [] (pc2 := 1) (ls2 := [some (.ref 54), some (.int x1)]) (st2 := [.ref 54]) (M2 := M) (Ps := []) (by decide +kernel) rfl rfl trivial ?_
  have t2 : GM z mX12_fine (d) [.ref 54] M (fun rs => rs = .inl (some (.int (k_fine (M.1 54))), M)) := by
    have q9 := c_k_fine_54 z d M 
    try simp only [mput, mrow_same, mrow_hit, mrow_miss, mrow_sw, idr_eq, ne_eq, Nat.reduceEqDiff, not_false_eq_true, Nat.reduceLT, reduceCtorEq] at q9
    exact q9
  refine G.callV (as := []) (rest := []) (a := 54) oX12_fine lk_EvenFindersModel_130 (by decide +kernel) rfl rfl ⟨rfl, rfl⟩ (Nat.le_of_ble_eq_true rfl) rfl ⟨Nat.le_of_ble_eq_true rfl, Nat.le_of_ble_eq_true rfl⟩ t2 (fun v9 N9 h3 => ?_) (fun E9 N9 h3 => by cases h3)
  cases h3
  show G z mX12_opensOne (d + 1) 0 0 4 [some (.ref 54), some (.int x1)] [.int (k_fine (M.1 54))] M Q
  refine G.if_eq (off := (21)) (tgt := 25) (by decide +kernel) rfl (fun c4 => ?_) (fun c4 => ?_)
  · skip
    refine G.sl [(.aload_n 0, 1, 0, 0, 0, 0)] [] (pc2 := 26) (ls2 := [some (.ref 54), some (.int x1)]) (st2 := [.ref 54]) (M2 := M) (Ps := []) (by decide +kernel) rfl rfl trivial ?_
    have t6 : GM z mX12_fine (d) [.ref 54] M (fun rs => rs = .inl (some (.int (k_fine (M.1 54))), M)) := by
      have q9 := c_k_fine_54 z d M 
      try simp only [mput, mrow_same, mrow_hit, mrow_miss, mrow_sw, idr_eq, ne_eq, Nat.reduceEqDiff, not_false_eq_true, Nat.reduceLT, reduceCtorEq] at q9
      exact q9
    refine G.callV (as := []) (rest := []) (a := 54) oX12_fine lk_EvenFindersModel_130 (by decide +kernel) rfl rfl ⟨rfl, rfl⟩ (Nat.le_of_ble_eq_true rfl) rfl ⟨Nat.le_of_ble_eq_true rfl, Nat.le_of_ble_eq_true rfl⟩ t6 (fun v9 N9 h7 => ?_) (fun E9 N9 h7 => by cases h7)
    cases h7
    show G z mX12_opensOne (d + 1) 0 0 29 [some (.ref 54), some (.int x1)] [.int (k_fine (M.1 54))] M Q
    refine G.if_eq (off := (13)) (tgt := 42) (by decide +kernel) rfl (fun _ => ?_) (fun h9 => absurd c4 h9)
    refine G.sl [(.aload_n 0, 1, 0, 0, 0, 0), (.dup, 1, 0, 0, 0, 0), (.getfield 141, 3, 11, 7, 130, 0), (.iconst 1, 1, 0, 0, 0, nI 1), (.iadd, 1, 0, 0, 0, 0), (.putfield 141, 3, 11, 7, 130, 0)] [] (pc2 := 52) (ls2 := [some (.ref 54), some (.int x1)]) (st2 := []) (M2 := mput M 54 7 ((M.1 54 7) + (nI 1))) (Ps := []) (by decide +kernel) rfl rfl trivial ?_
    refine G.mem (M' := mrow M 54 (upd (M.1 54) 7 ((M.1 54 7) + (nI 1)))) (by first | rfl | (simp only [mput, mrow_same, mrow_hit, mrow_miss, mrow_sw, idr_eq, ne_eq, Nat.reduceEqDiff, not_false_eq_true, Nat.reduceLT, reduceCtorEq]; done)) ?_
    exact G.retv (by decide +kernel) rfl (Nat.le_of_ble_eq_true rfl) (Nat.le_of_ble_eq_true rfl) ((by rw [hQ]; simp only [k_opensOne, if_pos c4, mrow_self]))
  · skip
    refine G.sl [(.aload_n 0, 1, 0, 0, 0, 0), (.getfield 141, 3, 11, 7, 130, 0), (.bipush 6, 2, 0, 0, 0, nI 6)] [] (pc2 := 13) (ls2 := [some (.ref 54), some (.int x1)]) (st2 := [.int (nI 6), .int (M.1 54 7)]) (M2 := M) (Ps := []) (by decide +kernel) rfl rfl trivial ?_
    refine G.ic_ne (off := (12)) (tgt := 25) (by decide +kernel) rfl (fun c8 => ?_) (fun c8 => ?_)
    · skip
      refine G.sl [(.aload_n 0, 1, 0, 0, 0, 0)] [] (pc2 := 26) (ls2 := [some (.ref 54), some (.int x1)]) (st2 := [.ref 54]) (M2 := M) (Ps := []) (by decide +kernel) rfl rfl trivial ?_
      have t10 : GM z mX12_fine (d) [.ref 54] M (fun rs => rs = .inl (some (.int (k_fine (M.1 54))), M)) := by
        have q9 := c_k_fine_54 z d M 
        try simp only [mput, mrow_same, mrow_hit, mrow_miss, mrow_sw, idr_eq, ne_eq, Nat.reduceEqDiff, not_false_eq_true, Nat.reduceLT, reduceCtorEq] at q9
        exact q9
      refine G.callV (as := []) (rest := []) (a := 54) oX12_fine lk_EvenFindersModel_130 (by decide +kernel) rfl rfl ⟨rfl, rfl⟩ (Nat.le_of_ble_eq_true rfl) rfl ⟨Nat.le_of_ble_eq_true rfl, Nat.le_of_ble_eq_true rfl⟩ t10 (fun v9 N9 h11 => ?_) (fun E9 N9 h11 => by cases h11)
      cases h11
      show G z mX12_opensOne (d + 1) 0 0 29 [some (.ref 54), some (.int x1)] [.int (k_fine (M.1 54))] M Q
      refine G.if_eq (off := (13)) (tgt := 42) (by decide +kernel) rfl (fun h9 => absurd h9 c4) (fun _ => ?_)
      refine G.sl [(.aload_n 0, 1, 0, 0, 0, 0), (.dup, 1, 0, 0, 0, 0), (.getfield 107, 3, 11, 4, 127, 0), (.iload_n 1, 1, 1, 0, 0, 0), (.iadd, 1, 0, 0, 0, 0), (.putfield 107, 3, 11, 4, 127, 0), (.aload_n 0, 1, 0, 0, 0, 0), (.dup, 1, 0, 0, 0, 0), (.getfield 141, 3, 11, 7, 130, 0), (.iconst 1, 1, 0, 0, 0, nI 1), (.iadd, 1, 0, 0, 0, 0), (.putfield 141, 3, 11, 7, 130, 0)] [] (pc2 := 52) (ls2 := [some (.ref 54), some (.int x1)]) (st2 := []) (M2 := mput (mput M 54 4 ((M.1 54 4) + x1)) 54 7 ((M.1 54 7) + (nI 1))) (Ps := []) (by decide +kernel) rfl rfl trivial ?_
      refine G.mem (M' := mrow M 54 (upd (upd (M.1 54) 4 ((M.1 54 4) + x1)) 7 ((M.1 54 7) + (nI 1)))) (by first | rfl | (simp only [mput, mrow_same, mrow_hit, mrow_miss, mrow_sw, idr_eq, ne_eq, Nat.reduceEqDiff, not_false_eq_true, Nat.reduceLT, reduceCtorEq]; done)) ?_
      exact G.retv (by decide +kernel) rfl (Nat.le_of_ble_eq_true rfl) (Nat.le_of_ble_eq_true rfl) ((by rw [hQ]; simp only [k_opensOne, if_neg c4, if_neg c8, mrow_self]))
    · skip
      refine G.sl [(.aload_n 0, 1, 0, 0, 0, 0), (.iconst 3, 1, 0, 0, 0, nI 3), (.aload_n 0, 1, 0, 0, 0, 0), (.getfield 107, 3, 11, 4, 127, 0)] [] (pc2 := 22) (ls2 := [some (.ref 54), some (.int x1)]) (st2 := [.int (M.1 54 4), .int (nI 3), .ref 54]) (M2 := M) (Ps := []) (by decide +kernel) rfl rfl trivial ?_
      rcases g13 : k_wrong (M.1 54) (nI 3) (M.1 54 4) with ⟨u14, r15⟩
      have t16 : GM z mX12_wrong (d) [.ref 54, .int (nI 3), .int (M.1 54 4)] M (fun rs => rs = .inl (none, mrow M 54 r15)) := by
        have q9 := c_k_wrong_54 z d M (nI 3) (M.1 54 4)
        try simp only [mput, mrow_same, mrow_hit, mrow_miss, mrow_sw, idr_eq, ne_eq, Nat.reduceEqDiff, not_false_eq_true, Nat.reduceLT, reduceCtorEq, g13] at q9
        exact q9
      refine G.callV (as := [.int (nI 3), .int (M.1 54 4)]) (rest := []) (a := 54) oX12_wrong lk_EvenFindersModel_137 (by decide +kernel) rfl rfl ⟨rfl, rfl⟩ (Nat.le_of_ble_eq_true rfl) rfl ⟨Nat.le_of_ble_eq_true rfl, Nat.le_of_ble_eq_true rfl⟩ t16 (fun v9 N9 h17 => ?_) (fun E9 N9 h17 => by cases h17)
      cases h17
      show G z mX12_opensOne (d + 1) 0 0 25 [some (.ref 54), some (.int x1)] [] (mrow M 54 r15) Q
      refine G.sl [(.aload_n 0, 1, 0, 0, 0, 0)] [] (pc2 := 26) (ls2 := [some (.ref 54), some (.int x1)]) (st2 := [.ref 54]) (M2 := mrow M 54 r15) (Ps := []) (by decide +kernel) rfl rfl trivial ?_
      have t19 : GM z mX12_fine (d) [.ref 54] (mrow M 54 r15) (fun rs => rs = .inl (some (.int (k_fine r15)), mrow M 54 r15)) := by
        have q9 := c_k_fine_54 z d (mrow M 54 r15) 
        try simp only [mput, mrow_same, mrow_hit, mrow_miss, mrow_sw, idr_eq, ne_eq, Nat.reduceEqDiff, not_false_eq_true, Nat.reduceLT, reduceCtorEq] at q9
        exact q9
      refine G.callV (as := []) (rest := []) (a := 54) oX12_fine lk_EvenFindersModel_130 (by decide +kernel) rfl rfl ⟨rfl, rfl⟩ (Nat.le_of_ble_eq_true rfl) rfl ⟨Nat.le_of_ble_eq_true rfl, Nat.le_of_ble_eq_true rfl⟩ t19 (fun v9 N9 h20 => ?_) (fun E9 N9 h20 => by cases h20)
      cases h20
      show G z mX12_opensOne (d + 1) 0 0 29 [some (.ref 54), some (.int x1)] [.int (k_fine r15)] (mrow M 54 r15) Q
      refine G.if_eq (off := (13)) (tgt := 42) (by decide +kernel) rfl (fun c21 => ?_) (fun c21 => ?_)
      · skip
        refine G.sl [(.aload_n 0, 1, 0, 0, 0, 0), (.dup, 1, 0, 0, 0, 0), (.getfield 141, 3, 11, 7, 130, 0), (.iconst 1, 1, 0, 0, 0, nI 1), (.iadd, 1, 0, 0, 0, 0), (.putfield 141, 3, 11, 7, 130, 0)] [] (pc2 := 52) (ls2 := [some (.ref 54), some (.int x1)]) (st2 := []) (M2 := mput (mrow M 54 r15) 54 7 ((r15 7) + (nI 1))) (Ps := []) (by decide +kernel) rfl rfl trivial ?_
        refine G.mem (M' := mrow M 54 (upd r15 7 ((r15 7) + (nI 1)))) (by first | rfl | (simp only [mput, mrow_same, mrow_hit, mrow_miss, mrow_sw, idr_eq, ne_eq, Nat.reduceEqDiff, not_false_eq_true, Nat.reduceLT, reduceCtorEq]; done)) ?_
        exact G.retv (by decide +kernel) rfl (Nat.le_of_ble_eq_true rfl) (Nat.le_of_ble_eq_true rfl) ((by rw [hQ]; simp only [k_opensOne, if_neg c4, if_pos c8, g13, if_pos c21, mrow_self]))
      · skip
        refine G.sl [(.aload_n 0, 1, 0, 0, 0, 0), (.dup, 1, 0, 0, 0, 0), (.getfield 107, 3, 11, 4, 127, 0), (.iload_n 1, 1, 1, 0, 0, 0), (.iadd, 1, 0, 0, 0, 0), (.putfield 107, 3, 11, 4, 127, 0), (.aload_n 0, 1, 0, 0, 0, 0), (.dup, 1, 0, 0, 0, 0), (.getfield 141, 3, 11, 7, 130, 0), (.iconst 1, 1, 0, 0, 0, nI 1), (.iadd, 1, 0, 0, 0, 0), (.putfield 141, 3, 11, 7, 130, 0)] [] (pc2 := 52) (ls2 := [some (.ref 54), some (.int x1)]) (st2 := []) (M2 := mput (mput (mrow M 54 r15) 54 4 ((r15 4) + x1)) 54 7 ((r15 7) + (nI 1))) (Ps := []) (by decide +kernel) rfl rfl trivial ?_
        refine G.mem (M' := mrow M 54 (upd (upd r15 4 ((r15 4) + x1)) 7 ((r15 7) + (nI 1)))) (by first | rfl | (simp only [mput, mrow_same, mrow_hit, mrow_miss, mrow_sw, idr_eq, ne_eq, Nat.reduceEqDiff, not_false_eq_true, Nat.reduceLT, reduceCtorEq]; done)) ?_
        exact G.retv (by decide +kernel) rfl (Nat.le_of_ble_eq_true rfl) (Nat.le_of_ble_eq_true rfl) ((by rw [hQ]; simp only [k_opensOne, if_neg c4, if_pos c8, g13, if_neg c21, mrow_self]))
