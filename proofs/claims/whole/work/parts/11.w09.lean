set_option maxHeartbeats 4000000 in
set_option maxRecDepth 3000 in
theorem c_k_result_54 (z : Zp) (d : Nat) (M : Mem) (x1 : Int32) : GM z mX12_result (d + 1) [.ref 54, .int x1] M (fun rs => rs = .inl (some (.int ((k_result (M.1 54) x1).1)), mrow M 54 ((k_result (M.1 54) x1).2))) := by
  refine GM.of oX12_result.1 (Nat.le_of_ble_eq_true rfl) ?_
  show G z mX12_result (d + 1) 0 0 0 [some (.ref 54), some (.int x1)] [] M _
  obtain ⟨Q, hQ⟩ : ∃ Q : Rs → Prop, Q = (fun rs => rs = .inl (some (.int ((k_result (M.1 54) x1).1)), mrow M 54 ((k_result (M.1 54) x1).2))) := ⟨_, rfl⟩
  rw [← hQ]
  refine G.sl [(.aload_n 0, 1, 0, 0, 0, 0), (.aload_n 0, 1, 0, 0, 0, 0), (.getfield 101, 3, 11, 5, 128, 0), (.putfield 17, 3, 11, 8, 131, 0), (.aload_n 0, 1, 0, 0, 0, 0)] [] (pc2 := 9) (ls2 := [some (.ref 54), some (.int x1)]) (st2 := [.ref 54]) (M2 := mput M 54 8 (M.1 54 5)) (Ps := []) (by decide +kernel) rfl rfl trivial ?_
  refine G.mem (M' := mrow M 54 (upd (M.1 54) 8 (M.1 54 5))) (by first | rfl | (simp only [mput, mrow_same, mrow_hit, mrow_miss, mrow_sw, idr_eq, ne_eq, Nat.reduceEqDiff, not_false_eq_true, Nat.reduceLT, reduceCtorEq]; done)) ?_
  have t2 : GM z mX12_fine (d) [.ref 54] (mrow M 54 (upd (M.1 54) 8 (M.1 54 5))) (fun rs => rs = .inl (some (.int (k_fine (upd (M.1 54) 8 (M.1 54 5)))), mrow M 54 (upd (M.1 54) 8 (M.1 54 5)))) := by
    have q9 := c_k_fine_54 z d (mrow M 54 (upd (M.1 54) 8 (M.1 54 5))) 
    try simp only [mput, mrow_same, mrow_hit, mrow_miss, mrow_sw, idr_eq, ne_eq, Nat.reduceEqDiff, not_false_eq_true, Nat.reduceLT, reduceCtorEq] at q9
    exact q9
  refine G.callV (as := []) (rest := []) (a := 54) oX12_fine lk_EvenFindersModel_130 (by decide +kernel) rfl rfl ⟨rfl, rfl⟩ (Nat.le_of_ble_eq_true rfl) rfl ⟨Nat.le_of_ble_eq_true rfl, Nat.le_of_ble_eq_true rfl⟩ t2 (fun v9 N9 h3 => ?_) (fun E9 N9 h3 => by cases h3)
  cases h3
  show G z mX12_result (d + 1) 0 0 12 [some (.ref 54), some (.int x1)] [.int (k_fine (upd (M.1 54) 8 (M.1 54 5)))] (mrow M 54 (upd (M.1 54) 8 (M.1 54 5))) Q
  refine G.if_eq (off := (7)) (tgt := 19) (by decide +kernel) rfl (fun c4 => ?_) (fun c4 => ?_)
  · skip
    refine G.sl [(.aload_n 0, 1, 0, 0, 0, 0), (.getfield 104, 3, 11, 6, 129, 0), (.bipush 10, 2, 0, 0, 0, nI 10), (.isub, 1, 0, 0, 0, 0)] [] (pc2 := 26) (ls2 := [some (.ref 54), some (.int x1)]) (st2 := [.int ((M.1 54 6) - (nI 10))]) (M2 := mrow M 54 (upd (M.1 54) 8 (M.1 54 5))) (Ps := []) (by decide +kernel) rfl rfl trivial ?_
    exact G.reti (by decide +kernel) rfl rfl (Nat.le_of_ble_eq_true rfl) (Nat.le_of_ble_eq_true rfl) ((by rw [hQ]; simp only [k_result, if_pos c4, mrow_self]))
  · skip
    refine G.sl [(.iload_n 1, 1, 1, 0, 0, 0), (.goto 10, 3, 26, 0, 0, 0)] [] (pc2 := 26) (ls2 := [some (.ref 54), some (.int x1)]) (st2 := [.int x1]) (M2 := mrow M 54 (upd (M.1 54) 8 (M.1 54 5))) (Ps := []) (by decide +kernel) rfl rfl trivial ?_
    exact G.reti (by decide +kernel) rfl rfl (Nat.le_of_ble_eq_true rfl) (Nat.le_of_ble_eq_true rfl) ((by rw [hQ]; simp only [k_result, if_neg c4, mrow_self]))
set_option maxHeartbeats 4000000 in
set_option maxRecDepth 3000 in
theorem lp_k_copies_L8_L8_54_74_75_3 (z : Zp) (d : Nat) (M : Mem) (Q : Rs → Prop) (n3 : Nat) (b3 : n3 < 3000) (hk : ∀ i4, i4 < n3 → k_copies_L8_L8_3_ok (M.1 74) (M.1 75) n3 i4) (hX : G z mX12_copies (d) 0 0 23 [none, none, none, none, none] [] (mrow M 75 (k_copies_L8_L8_3 (M.1 74) (M.1 75) n3 n3)) Q) : G z mX12_copies (d) 0 0 3 [none, some (.ref 74), some (.ref 75), some (.int (nI n3)), some (.int (nI 0))] [] M Q := by
  refine G.mem (M' := mrow M 75 (M.1 75)) (by simp only [mrow_self]) ?_
  refine down (n := n3) (P := fun i4 => G z mX12_copies (d) 0 0 3 [none, some (.ref 74), some (.ref 75), some (.int (nI n3)), some (.int (nI i4))] [] (mrow M 75 (k_copies_L8_L8_3 (M.1 74) (M.1 75) n3 i4)) Q) ?_ ?_ 0 (Nat.zero_le _)
  · skip
    refine G.sl [(.iload 4, 2, 4, 0, 0, 0), (.iload_n 3, 1, 3, 0, 0, 0)] [] (pc2 := 6) (ls2 := [none, some (.ref 74), some (.ref 75), some (.int (nI n3)), some (.int (nI n3))]) (st2 := [.int (nI n3), .int (nI n3)]) (M2 := mrow M 75 (k_copies_L8_L8_3 (M.1 74) (M.1 75) n3 n3)) (Ps := []) (by decide +kernel) rfl rfl trivial ?_
    refine G.ic_ge (off := (17)) (tgt := 23) (by decide +kernel) rfl (fun _ => ?_) (fun h9 => absurd (nI_le (by omega) (by omega)) h9)
    refine G.loc (ls2 := [none, none, none, none, none]) (by simp [subL]) ?_
    exact hX
  · skip
    intro i4 hi ih
    have hk := hk i4 hi
    simp only [k_copies_L8_L8_3_ok] at hk
    show G z mX12_copies (d) 0 0 3 [none, some (.ref 74), some (.ref 75), some (.int (nI n3)), some (.int (nI i4))] [] (mrow M 75 (k_copies_L8_L8_3 (M.1 74) (M.1 75) n3 i4)) Q
    refine G.sl [(.iload 4, 2, 4, 0, 0, 0), (.iload_n 3, 1, 3, 0, 0, 0)] [] (pc2 := 6) (ls2 := [none, some (.ref 74), some (.ref 75), some (.int (nI n3)), some (.int (nI i4))]) (st2 := [.int (nI n3), .int (nI i4)]) (M2 := mrow M 75 (k_copies_L8_L8_3 (M.1 74) (M.1 75) n3 i4)) (Ps := []) (by decide +kernel) rfl rfl trivial ?_
    refine G.ic_ge (off := (17)) (tgt := 23) (by decide +kernel) rfl (fun h9 => absurd h9 (nI_ge (by omega) (by omega))) (fun _ => ?_)
    obtain ⟨k1, hk⟩ := hk
    refine G.sl [(.aload_n 2, 1, 2, 0, 0, 0), (.iload 4, 2, 4, 0, 0, 0), (.aload_n 1, 1, 1, 0, 0, 0), (.iload 4, 2, 4, 0, 0, 0), (.iaload, 1, 0, 0, 0, 0), (.iastore, 1, 0, 0, 0, 0), (.iinc 4 1, 3, 4, 0, 0, nI 1), (.goto (-17), 3, 3, 0, 0, 0)] [i4, i4] (pc2 := 3) (ls2 := [none, some (.ref 74), some (.ref 75), some (.int (nI n3)), some (.int ((nI i4) + nI 1))]) (st2 := []) (M2 := mput (mrow M 75 (k_copies_L8_L8_3 (M.1 74) (M.1 75) n3 i4)) 75 i4 (M.1 74 i4)) (Ps := [(nI i4) = nI i4 ∧ i4 < 8, (nI i4) = nI i4 ∧ i4 < 8]) (by decide +kernel) rfl rfl ⟨⟨rfl, k1⟩, ⟨rfl, k1⟩, trivial⟩ ?_
    refine G.mem (M' := mrow M 75 (upd (k_copies_L8_L8_3 (M.1 74) (M.1 75) n3 i4) i4 (M.1 74 i4))) (by first | rfl | (simp only [mput, mrow_same, mrow_hit, mrow_miss, mrow_sw, idr_eq, ne_eq, Nat.reduceEqDiff, not_false_eq_true, Nat.reduceLT, reduceCtorEq]; done)) ?_
    rw [nI_add i4 1]
    simp only [k_copies_L8_L8_3] at ih
    exact ih
set_option maxHeartbeats 4000000 in
set_option maxRecDepth 3000 in
theorem c_k_copies_L8_L8_54_74_75 (z : Zp) (d : Nat) (M : Mem) (n3 : Nat) (b3 : n3 < 3000) (hk : k_copies_L8_L8_ok (M.1 74) (M.1 75) n3) : GM z mX12_copies (d) [.ref 54, .ref 74, .ref 75, .int (nI n3)] M (fun rs => rs = .inl (none, mrow M 75 ((k_copies_L8_L8 (M.1 74) (M.1 75) n3).2))) := by
  simp only [k_copies_L8_L8_ok] at hk
  refine GM.of oX12_copies.1 (Nat.le_of_ble_eq_true rfl) ?_
  show G z mX12_copies (d) 0 0 0 [some (.ref 54), some (.ref 74), some (.ref 75), some (.int (nI n3)), none] [] M _
  obtain ⟨Q, hQ⟩ : ∃ Q : Rs → Prop, Q = (fun rs => rs = .inl (none, mrow M 75 ((k_copies_L8_L8 (M.1 74) (M.1 75) n3).2))) := ⟨_, rfl⟩
  rw [← hQ]
  refine G.sl [(.iconst 0, 1, 0, 0, 0, nI 0), (.istore 4, 2, 4, 0, 0, 0)] [] (pc2 := 3) (ls2 := [some (.ref 54), some (.ref 74), some (.ref 75), some (.int (nI n3)), some (.int (nI 0))]) (st2 := []) (M2 := M) (Ps := []) (by decide +kernel) rfl rfl trivial ?_
  refine G.loc (ls2 := [none, some (.ref 74), some (.ref 75), some (.int (nI n3)), some (.int (nI 0))]) (by simp [subL]) ?_
  obtain ⟨k2, hk⟩ := hk
  refine lp_k_copies_L8_L8_54_74_75_3 z d M Q n3 (by omega) (by first | (simp only [mput, mrow_same, mrow_hit, mrow_miss, mrow_sw, idr_eq, ne_eq, Nat.reduceEqDiff, not_false_eq_true, Nat.reduceLT, reduceCtorEq]; exact k2) | exact k2) ?_
  try simp only [mput, mrow_same, mrow_hit, mrow_miss, mrow_sw, idr_eq, ne_eq, Nat.reduceEqDiff, not_false_eq_true, Nat.reduceLT, reduceCtorEq]
  show G z mX12_copies (d) 0 0 23 [none, none, none, none, none] [] (mrow M 75 (k_copies_L8_L8_3 (M.1 74) (M.1 75) n3 n3)) Q
  exact G.retv (by decide +kernel) rfl (Nat.le_of_ble_eq_true rfl) (Nat.le_of_ble_eq_true rfl) ((by rw [hQ]; simp only [k_copies_L8_L8, mrow_self]))
set_option maxHeartbeats 4000000 in
set_option maxRecDepth 3000 in
theorem c_k_book_54 (z : Zp) (d : Nat) (M : Mem) (x1 : Int32) (hk : k_book_ok (M.1 54) (M.1 55) (M.1 56) (M.1 74) (M.1 75) x1) : GM z mX12_book (d + 2) [.ref 54, .int x1] M (fun rs => rs = .inl (some (.int ((k_book (M.1 54) (M.1 55) (M.1 56) (M.1 74) (M.1 75) x1).1)), mrow (mrow (mrow (mrow M 54 ((k_book (M.1 54) (M.1 55) (M.1 56) (M.1 74) (M.1 75) x1).2.1)) 55 ((k_book (M.1 54) (M.1 55) (M.1 56) (M.1 74) (M.1 75) x1).2.2.1)) 74 ((k_book (M.1 54) (M.1 55) (M.1 56) (M.1 74) (M.1 75) x1).2.2.2.1)) 75 ((k_book (M.1 54) (M.1 55) (M.1 56) (M.1 74) (M.1 75) x1).2.2.2.2))) := by
  simp only [k_book_ok] at hk
  refine GM.of oX12_book.1 (Nat.le_of_ble_eq_true rfl) ?_
  show G z mX12_book (d + 2) 0 0 0 [some (.ref 54), some (.int x1), none, none, none, none] [] M _
  obtain ⟨Q, hQ⟩ : ∃ Q : Rs → Prop, Q = (fun rs => rs = .inl (some (.int ((k_book (M.1 54) (M.1 55) (M.1 56) (M.1 74) (M.1 75) x1).1)), mrow (mrow (mrow (mrow M 54 ((k_book (M.1 54) (M.1 55) (M.1 56) (M.1 74) (M.1 75) x1).2.1)) 55 ((k_book (M.1 54) (M.1 55) (M.1 56) (M.1 74) (M.1 75) x1).2.2.1)) 74 ((k_book (M.1 54) (M.1 55) (M.1 56) (M.1 74) (M.1 75) x1).2.2.2.1)) 75 ((k_book (M.1 54) (M.1 55) (M.1 56) (M.1 74) (M.1 75) x1).2.2.2.2))) := ⟨_, rfl⟩
  rw [← hQ]
  refine G.sl [(.aload_n 0, 1, 0, 0, 0, 0), (.iconst 0, 1, 0, 0, 0, nI 0), (.putfield 3, 3, 11, 0, 123, 0), (.aload_n 0, 1, 0, 0, 0, 0), (.iload_n 1, 1, 1, 0, 0, 0)] [] (pc2 := 7) (ls2 := [some (.ref 54), some (.int x1), none, none, none, none]) (st2 := [.int x1, .ref 54]) (M2 := mput M 54 0 (nI 0)) (Ps := []) (by decide +kernel) rfl rfl trivial ?_
  refine G.mem (M' := mrow M 54 (upd (M.1 54) 0 (nI 0))) (by first | rfl | (simp only [mput, mrow_same, mrow_hit, mrow_miss, mrow_sw, idr_eq, ne_eq, Nat.reduceEqDiff, not_false_eq_true, Nat.reduceLT, reduceCtorEq]; done)) ?_
  refine G.if_lt (off := (21)) (tgt := 28) (by decide +kernel) rfl (fun c1 => ?_) (fun c1 => ?_)
  · skip
    rw [if_pos c1] at hk
    refine G.sl [(.iconst 0, 1, 0, 0, 0, nI 0), (.iconst 1, 1, 0, 0, 0, nI 1), (.iconst 1, 1, 0, 0, 0, nI 1)] [] (pc2 := 31) (ls2 := [some (.ref 54), some (.int x1), none, none, none, none]) (st2 := [.int (nI 1), .int (nI 1), .int (nI 0), .ref 54]) (M2 := mrow M 54 (upd (M.1 54) 0 (nI 0))) (Ps := []) (by decide +kernel) rfl rfl trivial ?_
    have t2 : GM z mX12_may (d + 1) [.ref 54, .int (nI 0), .int (nI 1), .int (nI 1)] (mrow M 54 (upd (M.1 54) 0 (nI 0))) (fun rs => rs = .inl (some (.int (nI 0)), mrow (mrow M 54 (upd (upd (M.1 54) 0 (nI 0)) 0 (nI 1))) 55 (upd (M.1 55) 1 ((M.1 55 1) + nI 1)))) := by
      have q9 := m_may_1_f z (d + 1) (mrow M 54 (upd (M.1 54) 0 (nI 0))) (nI 1) (by first | rfl | (simp only [mput, mrow_same, mrow_hit, mrow_miss, mrow_sw, idr_eq, ne_eq, Nat.reduceEqDiff, not_false_eq_true, Nat.reduceLT, reduceCtorEq, pk_us]; done)) (by decide)
      try simp only [mput, mrow_same, mrow_hit, mrow_miss, mrow_sw, idr_eq, ne_eq, Nat.reduceEqDiff, not_false_eq_true, Nat.reduceLT, reduceCtorEq] at q9
      exact q9
    refine G.callV (as := [.int (nI 0), .int (nI 1), .int (nI 1)]) (rest := []) (a := 54) oX12_may lk_EvenFindersModel_213 (by decide +kernel) rfl rfl ⟨rfl, rfl⟩ (Nat.le_of_ble_eq_true rfl) rfl ⟨Nat.le_of_ble_eq_true rfl, Nat.le_of_ble_eq_true rfl⟩ t2 (fun v9 N9 h3 => ?_) (fun E9 N9 h3 => by cases h3)
    cases h3
    show G z mX12_book (d + 2) 0 0 34 [some (.ref 54), some (.int x1), none, none, none, none] [.int (nI 0)] (mrow (mrow M 54 (upd (upd (M.1 54) 0 (nI 0)) 0 (nI 1))) 55 (upd (M.1 55) 1 ((M.1 55 1) + nI 1))) Q
    refine G.if_ne (off := (5)) (tgt := 39) (by decide +kernel) rfl (fun h9 => absurd (by decide) h9) (fun _ => ?_)
    refine G.sl [(.iconst 0, 1, 0, 0, 0, nI 0)] [] (pc2 := 38) (ls2 := [some (.ref 54), some (.int x1), none, none, none, none]) (st2 := [.int (nI 0)]) (M2 := mrow (mrow M 54 (upd (upd (M.1 54) 0 (nI 0)) 0 (nI 1))) 55 (upd (M.1 55) 1 ((M.1 55 1) + nI 1))) (Ps := []) (by decide +kernel) rfl rfl trivial ?_
    refine G.mem (M' := mrow (mrow (mrow (mrow M 54 (upd (upd (M.1 54) 0 (nI 0)) 0 (nI 1))) 55 (upd (M.1 55) 1 ((M.1 55 1) + nI 1))) 74 (M.1 74)) 75 (M.1 75)) ((((mrow_id (N := mrow (mrow M 54 (upd (upd (M.1 54) 0 (nI 0)) 0 (nI 1))) 55 (upd (M.1 55) 1 ((M.1 55 1) + nI 1))) (c := 74) (f := M.1 74) (by first | rfl | (simp only [mput, mrow_same, mrow_hit, mrow_miss, mrow_sw, idr_eq, ne_eq, Nat.reduceEqDiff, not_false_eq_true, Nat.reduceLT, reduceCtorEq]; done))).symm).trans (mrow_id (N := mrow (mrow (mrow M 54 (upd (upd (M.1 54) 0 (nI 0)) 0 (nI 1))) 55 (upd (M.1 55) 1 ((M.1 55 1) + nI 1))) 74 (M.1 74)) (c := 75) (f := M.1 75) (by first | rfl | (simp only [mput, mrow_same, mrow_hit, mrow_miss, mrow_sw, idr_eq, ne_eq, Nat.reduceEqDiff, not_false_eq_true, Nat.reduceLT, reduceCtorEq]; done))).symm).trans (by first | rfl | (simp only [mput, mrow_same, mrow_hit, mrow_miss, mrow_sw, idr_eq, ne_eq, Nat.reduceEqDiff, not_false_eq_true, Nat.reduceLT, reduceCtorEq]; done))) ?_
    exact G.reti (by decide +kernel) rfl rfl (Nat.le_of_ble_eq_true rfl) (Nat.le_of_ble_eq_true rfl) ((by rw [hQ]; simp only [k_book, if_pos c1, mrow_self]))
  · skip
    rw [if_neg c1] at hk
    refine G.sl [(.iload_n 1, 1, 1, 0, 0, 0), (.aload_n 0, 1, 0, 0, 0, 0), (.getfield 98, 3, 11, 2, 125, 0)] [] (pc2 := 15) (ls2 := [some (.ref 54), some (.int x1), none, none, none, none]) (st2 := [.int (M.1 54 2), .int x1, .ref 54]) (M2 := mrow M 54 (upd (M.1 54) 0 (nI 0))) (Ps := []) (by decide +kernel) rfl rfl trivial ?_
    refine G.ic_gt (off := (13)) (tgt := 28) (by decide +kernel) rfl (fun c4 => ?_) (fun c4 => ?_)
    · skip
      rw [if_pos c4] at hk
      refine G.sl [(.iconst 0, 1, 0, 0, 0, nI 0), (.iconst 1, 1, 0, 0, 0, nI 1), (.iconst 1, 1, 0, 0, 0, nI 1)] [] (pc2 := 31) (ls2 := [some (.ref 54), some (.int x1), none, none, none, none]) (st2 := [.int (nI 1), .int (nI 1), .int (nI 0), .ref 54]) (M2 := mrow M 54 (upd (M.1 54) 0 (nI 0))) (Ps := []) (by decide +kernel) rfl rfl trivial ?_
      have t5 : GM z mX12_may (d + 1) [.ref 54, .int (nI 0), .int (nI 1), .int (nI 1)] (mrow M 54 (upd (M.1 54) 0 (nI 0))) (fun rs => rs = .inl (some (.int (nI 0)), mrow (mrow M 54 (upd (upd (M.1 54) 0 (nI 0)) 0 (nI 1))) 55 (upd (M.1 55) 1 ((M.1 55 1) + nI 1)))) := by
        have q9 := m_may_1_f z (d + 1) (mrow M 54 (upd (M.1 54) 0 (nI 0))) (nI 1) (by first | rfl | (simp only [mput, mrow_same, mrow_hit, mrow_miss, mrow_sw, idr_eq, ne_eq, Nat.reduceEqDiff, not_false_eq_true, Nat.reduceLT, reduceCtorEq, pk_us]; done)) (by decide)
        try simp only [mput, mrow_same, mrow_hit, mrow_miss, mrow_sw, idr_eq, ne_eq, Nat.reduceEqDiff, not_false_eq_true, Nat.reduceLT, reduceCtorEq] at q9
        exact q9
      refine G.callV (as := [.int (nI 0), .int (nI 1), .int (nI 1)]) (rest := []) (a := 54) oX12_may lk_EvenFindersModel_213 (by decide +kernel) rfl rfl ⟨rfl, rfl⟩ (Nat.le_of_ble_eq_true rfl) rfl ⟨Nat.le_of_ble_eq_true rfl, Nat.le_of_ble_eq_true rfl⟩ t5 (fun v9 N9 h6 => ?_) (fun E9 N9 h6 => by cases h6)
      cases h6
      show G z mX12_book (d + 2) 0 0 34 [some (.ref 54), some (.int x1), none, none, none, none] [.int (nI 0)] (mrow (mrow M 54 (upd (upd (M.1 54) 0 (nI 0)) 0 (nI 1))) 55 (upd (M.1 55) 1 ((M.1 55 1) + nI 1))) Q
      refine G.if_ne (off := (5)) (tgt := 39) (by decide +kernel) rfl (fun h9 => absurd (by decide) h9) (fun _ => ?_)
      refine G.sl [(.iconst 0, 1, 0, 0, 0, nI 0)] [] (pc2 := 38) (ls2 := [some (.ref 54), some (.int x1), none, none, none, none]) (st2 := [.int (nI 0)]) (M2 := mrow (mrow M 54 (upd (upd (M.1 54) 0 (nI 0)) 0 (nI 1))) 55 (upd (M.1 55) 1 ((M.1 55 1) + nI 1))) (Ps := []) (by decide +kernel) rfl rfl trivial ?_
      refine G.mem (M' := mrow (mrow (mrow (mrow M 54 (upd (upd (M.1 54) 0 (nI 0)) 0 (nI 1))) 55 (upd (M.1 55) 1 ((M.1 55 1) + nI 1))) 74 (M.1 74)) 75 (M.1 75)) ((((mrow_id (N := mrow (mrow M 54 (upd (upd (M.1 54) 0 (nI 0)) 0 (nI 1))) 55 (upd (M.1 55) 1 ((M.1 55 1) + nI 1))) (c := 74) (f := M.1 74) (by first | rfl | (simp only [mput, mrow_same, mrow_hit, mrow_miss, mrow_sw, idr_eq, ne_eq, Nat.reduceEqDiff, not_false_eq_true, Nat.reduceLT, reduceCtorEq]; done))).symm).trans (mrow_id (N := mrow (mrow (mrow M 54 (upd (upd (M.1 54) 0 (nI 0)) 0 (nI 1))) 55 (upd (M.1 55) 1 ((M.1 55 1) + nI 1))) 74 (M.1 74)) (c := 75) (f := M.1 75) (by first | rfl | (simp only [mput, mrow_same, mrow_hit, mrow_miss, mrow_sw, idr_eq, ne_eq, Nat.reduceEqDiff, not_false_eq_true, Nat.reduceLT, reduceCtorEq]; done))).symm).trans (by first | rfl | (simp only [mput, mrow_same, mrow_hit, mrow_miss, mrow_sw, idr_eq, ne_eq, Nat.reduceEqDiff, not_false_eq_true, Nat.reduceLT, reduceCtorEq]; done))) ?_
      exact G.reti (by decide +kernel) rfl rfl (Nat.le_of_ble_eq_true rfl) (Nat.le_of_ble_eq_true rfl) ((by rw [hQ]; simp only [k_book, if_neg c1, if_pos c4, mrow_self]))
    · skip
      rw [if_neg c4] at hk
      refine G.sl [(.iload_n 1, 1, 1, 0, 0, 0), (.bipush 60, 2, 0, 0, 0, nI 60)] [] (pc2 := 21) (ls2 := [some (.ref 54), some (.int x1), none, none, none, none]) (st2 := [.int (nI 60), .int x1, .ref 54]) (M2 := mrow M 54 (upd (M.1 54) 0 (nI 0))) (Ps := []) (by decide +kernel) rfl rfl trivial ?_
      refine G.ic_gt (off := (7)) (tgt := 28) (by decide +kernel) rfl (fun c7 => ?_) (fun c7 => ?_)
      · skip
        rw [if_pos c7] at hk
        refine G.sl [(.iconst 0, 1, 0, 0, 0, nI 0), (.iconst 1, 1, 0, 0, 0, nI 1), (.iconst 1, 1, 0, 0, 0, nI 1)] [] (pc2 := 31) (ls2 := [some (.ref 54), some (.int x1), none, none, none, none]) (st2 := [.int (nI 1), .int (nI 1), .int (nI 0), .ref 54]) (M2 := mrow M 54 (upd (M.1 54) 0 (nI 0))) (Ps := []) (by decide +kernel) rfl rfl trivial ?_
        have t8 : GM z mX12_may (d + 1) [.ref 54, .int (nI 0), .int (nI 1), .int (nI 1)] (mrow M 54 (upd (M.1 54) 0 (nI 0))) (fun rs => rs = .inl (some (.int (nI 0)), mrow (mrow M 54 (upd (upd (M.1 54) 0 (nI 0)) 0 (nI 1))) 55 (upd (M.1 55) 1 ((M.1 55 1) + nI 1)))) := by
          have q9 := m_may_1_f z (d + 1) (mrow M 54 (upd (M.1 54) 0 (nI 0))) (nI 1) (by first | rfl | (simp only [mput, mrow_same, mrow_hit, mrow_miss, mrow_sw, idr_eq, ne_eq, Nat.reduceEqDiff, not_false_eq_true, Nat.reduceLT, reduceCtorEq, pk_us]; done)) (by decide)
          try simp only [mput, mrow_same, mrow_hit, mrow_miss, mrow_sw, idr_eq, ne_eq, Nat.reduceEqDiff, not_false_eq_true, Nat.reduceLT, reduceCtorEq] at q9
          exact q9
        refine G.callV (as := [.int (nI 0), .int (nI 1), .int (nI 1)]) (rest := []) (a := 54) oX12_may lk_EvenFindersModel_213 (by decide +kernel) rfl rfl ⟨rfl, rfl⟩ (Nat.le_of_ble_eq_true rfl) rfl ⟨Nat.le_of_ble_eq_true rfl, Nat.le_of_ble_eq_true rfl⟩ t8 (fun v9 N9 h9 => ?_) (fun E9 N9 h9 => by cases h9)
        cases h9
        show G z mX12_book (d + 2) 0 0 34 [some (.ref 54), some (.int x1), none, none, none, none] [.int (nI 0)] (mrow (mrow M 54 (upd (upd (M.1 54) 0 (nI 0)) 0 (nI 1))) 55 (upd (M.1 55) 1 ((M.1 55 1) + nI 1))) Q
        refine G.if_ne (off := (5)) (tgt := 39) (by decide +kernel) rfl (fun h9 => absurd (by decide) h9) (fun _ => ?_)
        refine G.sl [(.iconst 0, 1, 0, 0, 0, nI 0)] [] (pc2 := 38) (ls2 := [some (.ref 54), some (.int x1), none, none, none, none]) (st2 := [.int (nI 0)]) (M2 := mrow (mrow M 54 (upd (upd (M.1 54) 0 (nI 0)) 0 (nI 1))) 55 (upd (M.1 55) 1 ((M.1 55 1) + nI 1))) (Ps := []) (by decide +kernel) rfl rfl trivial ?_
        refine G.mem (M' := mrow (mrow (mrow (mrow M 54 (upd (upd (M.1 54) 0 (nI 0)) 0 (nI 1))) 55 (upd (M.1 55) 1 ((M.1 55 1) + nI 1))) 74 (M.1 74)) 75 (M.1 75)) ((((mrow_id (N := mrow (mrow M 54 (upd (upd (M.1 54) 0 (nI 0)) 0 (nI 1))) 55 (upd (M.1 55) 1 ((M.1 55 1) + nI 1))) (c := 74) (f := M.1 74) (by first | rfl | (simp only [mput, mrow_same, mrow_hit, mrow_miss, mrow_sw, idr_eq, ne_eq, Nat.reduceEqDiff, not_false_eq_true, Nat.reduceLT, reduceCtorEq]; done))).symm).trans (mrow_id (N := mrow (mrow (mrow M 54 (upd (upd (M.1 54) 0 (nI 0)) 0 (nI 1))) 55 (upd (M.1 55) 1 ((M.1 55 1) + nI 1))) 74 (M.1 74)) (c := 75) (f := M.1 75) (by first | rfl | (simp only [mput, mrow_same, mrow_hit, mrow_miss, mrow_sw, idr_eq, ne_eq, Nat.reduceEqDiff, not_false_eq_true, Nat.reduceLT, reduceCtorEq]; done))).symm).trans (by first | rfl | (simp only [mput, mrow_same, mrow_hit, mrow_miss, mrow_sw, idr_eq, ne_eq, Nat.reduceEqDiff, not_false_eq_true, Nat.reduceLT, reduceCtorEq]; done))) ?_
        exact G.reti (by decide +kernel) rfl rfl (Nat.le_of_ble_eq_true rfl) (Nat.le_of_ble_eq_true rfl) ((by rw [hQ]; simp only [k_book, if_neg c1, if_neg c4, if_pos c7, mrow_self]))
      · skip
        rw [if_neg c7] at hk
        refine G.sl [(.iconst 1, 1, 0, 0, 0, nI 1), (.goto 4, 3, 29, 0, 0, 0), (.iconst 1, 1, 0, 0, 0, nI 1), (.iconst 1, 1, 0, 0, 0, nI 1)] [] (pc2 := 31) (ls2 := [some (.ref 54), some (.int x1), none, none, none, none]) (st2 := [.int (nI 1), .int (nI 1), .int (nI 1), .ref 54]) (M2 := mrow M 54 (upd (M.1 54) 0 (nI 0))) (Ps := []) (by decide +kernel) rfl rfl trivial ?_
        have t10 : GM z mX12_may (d + 1) [.ref 54, .int (nI 1), .int (nI 1), .int (nI 1)] (mrow M 54 (upd (M.1 54) 0 (nI 0))) (fun rs => rs = .inl (some (.int (nI 1)), mrow M 54 (upd (M.1 54) 0 (nI 0)))) := by
          have q9 := m_may_1_t z (d + 1) (mrow M 54 (upd (M.1 54) 0 (nI 0))) (nI 1) (by first | rfl | (simp only [mput, mrow_same, mrow_hit, mrow_miss, mrow_sw, idr_eq, ne_eq, Nat.reduceEqDiff, not_false_eq_true, Nat.reduceLT, reduceCtorEq, pk_us]; done))
          try simp only [mput, mrow_same, mrow_hit, mrow_miss, mrow_sw, idr_eq, ne_eq, Nat.reduceEqDiff, not_false_eq_true, Nat.reduceLT, reduceCtorEq] at q9
          exact q9
        refine G.callV (as := [.int (nI 1), .int (nI 1), .int (nI 1)]) (rest := []) (a := 54) oX12_may lk_EvenFindersModel_213 (by decide +kernel) rfl rfl ⟨rfl, rfl⟩ (Nat.le_of_ble_eq_true rfl) rfl ⟨Nat.le_of_ble_eq_true rfl, Nat.le_of_ble_eq_true rfl⟩ t10 (fun v9 N9 h11 => ?_) (fun E9 N9 h11 => by cases h11)
        cases h11
        show G z mX12_book (d + 2) 0 0 34 [some (.ref 54), some (.int x1), none, none, none, none] [.int (nI 1)] (mrow M 54 (upd (M.1 54) 0 (nI 0))) Q
        refine G.if_ne (off := (5)) (tgt := 39) (by decide +kernel) rfl (fun _ => ?_) (fun h9 => absurd h9 (by decide))
        refine G.sl [(.aload_n 0, 1, 0, 0, 0, 0), (.iload_n 1, 1, 1, 0, 0, 0)] [] (pc2 := 41) (ls2 := [some (.ref 54), some (.int x1), none, none, none, none]) (st2 := [.int x1, .ref 54]) (M2 := mrow M 54 (upd (M.1 54) 0 (nI 0))) (Ps := []) (by decide +kernel) rfl rfl trivial ?_
        obtain ⟨k12, hk⟩ := hk
        rcases g13 : k_begins (upd (M.1 54) 0 (nI 0)) x1 with ⟨u14, r15⟩
        try simp only [g13] at hk
        have t16 : GM z mX12_begins (d + 1) [.ref 54, .int x1] (mrow M 54 (upd (M.1 54) 0 (nI 0))) (fun rs => rs = .inl (none, mrow M 54 r15)) := by
          have q9 := c_k_begins_54 z (d + 1) (mrow M 54 (upd (M.1 54) 0 (nI 0))) x1
          try simp only [mput, mrow_same, mrow_hit, mrow_miss, mrow_sw, idr_eq, ne_eq, Nat.reduceEqDiff, not_false_eq_true, Nat.reduceLT, reduceCtorEq, g13] at q9
          exact q9
        refine G.callV (as := [.int x1]) (rest := []) (a := 54) oX12_begins lk_EvenFindersModel_217 (by decide +kernel) rfl rfl ⟨rfl, rfl⟩ (Nat.le_of_ble_eq_true rfl) rfl ⟨Nat.le_of_ble_eq_true rfl, Nat.le_of_ble_eq_true rfl⟩ t16 (fun v9 N9 h17 => ?_) (fun E9 N9 h17 => by cases h17)
        cases h17
        show G z mX12_book (d + 2) 0 0 44 [some (.ref 54), some (.int x1), none, none, none, none] [] (mrow M 54 r15) Q
        refine G.sl [(.iconst 0, 1, 0, 0, 0, nI 0), (.istore_n 2, 1, 2, 0, 0, 0)] [] (pc2 := 46) (ls2 := [some (.ref 54), some (.int x1), some (.int (nI 0)), none, none, none]) (st2 := []) (M2 := mrow M 54 r15) (Ps := []) (by decide +kernel) rfl rfl trivial ?_
        refine G.loc (ls2 := [some (.ref 54), none, some (.int (nI 0)), none, none, none]) (by simp [subL]) ?_
        obtain ⟨k18, hk⟩ := hk
        refine lp_k_book_54_46 z d (mrow M 54 r15) Q (cN 8) (cN_eq 8) ?_
        try simp only [mput, mrow_same, mrow_hit, mrow_miss, mrow_sw, idr_eq, ne_eq, Nat.reduceEqDiff, not_false_eq_true, Nat.reduceLT, reduceCtorEq]
        show G z mX12_book (d + 2) 0 0 65 [some (.ref 54), none, none, none, none, none] [] (mrow (mrow M 54 r15) 74 (k_book_46 (M.1 74) (cN 8))) Q
        refine G.sl [(.iconst 0, 1, 0, 0, 0, nI 0), (.istore_n 2, 1, 2, 0, 0, 0)] [] (pc2 := 67) (ls2 := [some (.ref 54), none, some (.int (nI 0)), none, none, none]) (st2 := []) (M2 := mrow (mrow M 54 r15) 74 (k_book_46 (M.1 74) (cN 8))) (Ps := []) (by decide +kernel) rfl rfl trivial ?_
        obtain ⟨k105, hk⟩ := hk
        refine G.mem (M' := mrow (mrow (mrow (mrow M 54 r15) 74 (k_book_46 (M.1 74) (cN 8))) 54 ((mrow (mrow M 54 r15) 74 (k_book_46 (M.1 74) (cN 8))).1 54)) 74 ((mrow (mrow M 54 r15) 74 (k_book_46 (M.1 74) (cN 8))).1 74)) (by simp only [mrow_self]) ?_
        refine lp_k_book_54_67 z d (mrow (mrow M 54 r15) 74 (k_book_46 (M.1 74) (cN 8))) Q FU (nI 0) ((mrow (mrow M 54 r15) 74 (k_book_46 (M.1 74) (cN 8))).1 54) ((mrow (mrow M 54 r15) 74 (k_book_46 (M.1 74) (cN 8))).1 74) (by first | (simp only [mput, mrow_same, mrow_hit, mrow_miss, mrow_sw, idr_eq, ne_eq, Nat.reduceEqDiff, not_false_eq_true, Nat.reduceLT, reduceCtorEq]; exact k105) | exact k105) ?_
        try simp only [mput, mrow_same, mrow_hit, mrow_miss, mrow_sw, idr_eq, ne_eq, Nat.reduceEqDiff, not_false_eq_true, Nat.reduceLT, reduceCtorEq]
        rcases g106 : k_book_67 (M.1 56) FU (nI 0) r15 (k_book_46 (M.1 74) (cN 8)) with ⟨v107, r108, r109⟩
        try simp only [g106] at hk
        show G z mX12_book (d + 2) 0 0 169 [some (.ref 54), none, some (.int v107), none, none, none] [] (mrow (mrow M 54 r108) 74 r109) Q
        refine G.sl [(.aload_n 0, 1, 0, 0, 0, 0), (.iload_n 2, 1, 2, 0, 0, 0)] [] (pc2 := 171) (ls2 := [some (.ref 54), none, some (.int v107), none, none, none]) (st2 := [.int v107, .ref 54]) (M2 := mrow (mrow M 54 r108) 74 r109) (Ps := []) (by decide +kernel) rfl rfl trivial ?_
        obtain ⟨k110, hk⟩ := hk
        rcases g111 : k_result r108 v107 with ⟨v112, r113⟩
        try simp only [g111] at hk
        have t114 : GM z mX12_result (d + 1) [.ref 54, .int v107] (mrow (mrow M 54 r108) 74 r109) (fun rs => rs = .inl (some (.int v112), mrow (mrow M 54 r113) 74 r109)) := by
          have q9 := c_k_result_54 z d (mrow (mrow M 54 r108) 74 r109) v107
          try simp only [mput, mrow_same, mrow_hit, mrow_miss, mrow_sw, idr_eq, ne_eq, Nat.reduceEqDiff, not_false_eq_true, Nat.reduceLT, reduceCtorEq, g111] at q9
          exact q9
        refine G.callV (as := [.int v107]) (rest := []) (a := 54) oX12_result lk_EvenFindersModel_242 (by decide +kernel) rfl rfl ⟨rfl, rfl⟩ (Nat.le_of_ble_eq_true rfl) rfl ⟨Nat.le_of_ble_eq_true rfl, Nat.le_of_ble_eq_true rfl⟩ t114 (fun v9 N9 h115 => ?_) (fun E9 N9 h115 => by cases h115)
        cases h115
        show G z mX12_book (d + 2) 0 0 174 [some (.ref 54), none, some (.int v107), none, none, none] [.int v112] (mrow (mrow M 54 r113) 74 r109) Q
        refine G.sl [(.istore_n 3, 1, 3, 0, 0, 0), (.aload_n 0, 1, 0, 0, 0, 0), (.getfield 101, 3, 11, 5, 128, 0), (.iconst (-1), 1, 0, 0, 0, (-1))] [] (pc2 := 180) (ls2 := [some (.ref 54), none, some (.int v107), some (.int v112), none, none]) (st2 := [.int ((-1)), .int (r113 5)]) (M2 := mrow (mrow M 54 r113) 74 r109) (Ps := []) (by decide +kernel) rfl rfl trivial ?_
        refine G.ic_eq (off := (5)) (tgt := 185) (by decide +kernel) rfl (fun c116 => ?_) (fun c116 => ?_)
        · skip
          rw [if_pos c116] at hk
          refine G.sl [(.aload_n 0, 1, 0, 0, 0, 0), (.iload_n 2, 1, 2, 0, 0, 0), (.putfield 175, 3, 11, 45, 168, 0), (.aload_n 0, 1, 0, 0, 0, 0), (.aload_n 0, 1, 0, 0, 0, 0), (.getfield 74, 3, 11, 43, 166, 0), (.aload_n 0, 1, 0, 0, 0, 0), (.getfield 77, 3, 11, 44, 167, 0), (.bipush 8, 2, 0, 0, 0, nI 8)] [] (pc2 := 201) (ls2 := [some (.ref 54), none, some (.int v107), some (.int v112), none, none]) (st2 := [.int (nI 8), .ref 75, .ref 74, .ref 54]) (M2 := mput (mrow (mrow M 54 r113) 74 r109) 54 45 v107) (Ps := []) (by decide +kernel) rfl rfl trivial ?_
          refine G.mem (M' := mrow (mrow M 54 (upd r113 45 v107)) 74 r109) (by first | rfl | (simp only [mput, mrow_same, mrow_hit, mrow_miss, mrow_sw, idr_eq, ne_eq, Nat.reduceEqDiff, not_false_eq_true, Nat.reduceLT, reduceCtorEq]; done)) ?_
          obtain ⟨k117, hk⟩ := hk
          rcases g118 : k_copies_L8_L8 r109 (M.1 75) 8 with ⟨u119, r120⟩
          have t121 : GM z mX12_copies (d + 1) [.ref 54, .ref 74, .ref 75, .int (nI 8)] (mrow (mrow M 54 (upd r113 45 v107)) 74 r109) (fun rs => rs = .inl (none, mrow (mrow (mrow M 54 (upd r113 45 v107)) 74 r109) 75 r120)) := by
            have q9 := c_k_copies_L8_L8_54_74_75 z (d + 1) (mrow (mrow M 54 (upd r113 45 v107)) 74 r109) 8 (by omega) k117
            try simp only [mput, mrow_same, mrow_hit, mrow_miss, mrow_sw, idr_eq, ne_eq, Nat.reduceEqDiff, not_false_eq_true, Nat.reduceLT, reduceCtorEq, g118] at q9
            exact q9
          refine G.callV (as := [.ref 74, .ref 75, .int (nI 8)]) (rest := []) (a := 54) oX12_copies lk_EvenFindersModel_168 (by decide +kernel) rfl rfl ⟨rfl, rfl⟩ (Nat.le_of_ble_eq_true rfl) rfl ⟨Nat.le_of_ble_eq_true rfl, Nat.le_of_ble_eq_true rfl⟩ t121 (fun v9 N9 h122 => ?_) (fun E9 N9 h122 => by cases h122)
          cases h122
          show G z mX12_book (d + 2) 0 0 204 [some (.ref 54), none, some (.int v107), some (.int v112), none, none] [] (mrow (mrow (mrow M 54 (upd r113 45 v107)) 74 r109) 75 r120) Q
          refine G.sl [(.iload_n 3, 1, 3, 0, 0, 0)] [] (pc2 := 205) (ls2 := [some (.ref 54), none, some (.int v107), some (.int v112), none, none]) (st2 := [.int v112]) (M2 := mrow (mrow (mrow M 54 (upd r113 45 v107)) 74 r109) 75 r120) (Ps := []) (by decide +kernel) rfl rfl trivial ?_
          refine G.mem (M' := mrow (mrow (mrow (mrow M 54 (upd r113 45 v107)) 55 (M.1 55)) 74 r109) 75 r120) (((mrow_id (N := mrow (mrow (mrow M 54 (upd r113 45 v107)) 74 r109) 75 r120) (c := 55) (f := M.1 55) (by first | rfl | (simp only [mput, mrow_same, mrow_hit, mrow_miss, mrow_sw, idr_eq, ne_eq, Nat.reduceEqDiff, not_false_eq_true, Nat.reduceLT, reduceCtorEq]; done))).symm).trans (by first | rfl | (simp only [mput, mrow_same, mrow_hit, mrow_miss, mrow_sw, idr_eq, ne_eq, Nat.reduceEqDiff, not_false_eq_true, Nat.reduceLT, reduceCtorEq]; done))) ?_
          exact G.reti (by decide +kernel) rfl rfl (Nat.le_of_ble_eq_true rfl) (Nat.le_of_ble_eq_true rfl) ((by rw [hQ]; simp only [k_book, if_neg c1, if_neg c4, if_neg c7, g13, g106, g111, if_pos c116, g118, mrow_self]))
        · skip
          rw [if_neg c116] at hk
          refine G.sl [(.iload_n 3, 1, 3, 0, 0, 0)] [] (pc2 := 184) (ls2 := [some (.ref 54), none, some (.int v107), some (.int v112), none, none]) (st2 := [.int v112]) (M2 := mrow (mrow M 54 r113) 74 r109) (Ps := []) (by decide +kernel) rfl rfl trivial ?_
          refine G.mem (M' := mrow (mrow (mrow (mrow M 54 r113) 55 (M.1 55)) 74 r109) 75 (M.1 75)) ((((mrow_id (N := mrow (mrow M 54 r113) 74 r109) (c := 55) (f := M.1 55) (by first | rfl | (simp only [mput, mrow_same, mrow_hit, mrow_miss, mrow_sw, idr_eq, ne_eq, Nat.reduceEqDiff, not_false_eq_true, Nat.reduceLT, reduceCtorEq]; done))).symm).trans (mrow_id (N := mrow (mrow (mrow M 54 r113) 74 r109) 55 (M.1 55)) (c := 75) (f := M.1 75) (by first | rfl | (simp only [mput, mrow_same, mrow_hit, mrow_miss, mrow_sw, idr_eq, ne_eq, Nat.reduceEqDiff, not_false_eq_true, Nat.reduceLT, reduceCtorEq]; done))).symm).trans (by first | rfl | (simp only [mput, mrow_same, mrow_hit, mrow_miss, mrow_sw, idr_eq, ne_eq, Nat.reduceEqDiff, not_false_eq_true, Nat.reduceLT, reduceCtorEq]; done))) ?_
          exact G.reti (by decide +kernel) rfl rfl (Nat.le_of_ble_eq_true rfl) (Nat.le_of_ble_eq_true rfl) ((by rw [hQ]; simp only [k_book, if_neg c1, if_neg c4, if_neg c7, g13, g106, g111, if_neg c116, mrow_self]))
set_option maxHeartbeats 4000000 in
set_option maxRecDepth 3000 in
theorem lp_k_undo_54_26 (z : Zp) (d : Nat) (M : Mem) (Q : Rs → Prop) (nn : Nat) (hnn : nn = 51) (hk : ∀ i1, i1 < nn → k_undo_26_ok (M.1 54) (M.1 71) (M.1 73) i1) (hX : G z mX12_undo (d) 0 0 58 [some (.ref 54), none] [] (mrow M 71 (k_undo_26 (M.1 54) (M.1 71) (M.1 73) nn)) Q) : G z mX12_undo (d) 0 0 26 [some (.ref 54), some (.int (nI 0))] [] M Q := by
  refine G.mem (M' := mrow M 71 (M.1 71)) (by simp only [mrow_self]) ?_
  refine down (n := nn) (P := fun i1 => G z mX12_undo (d) 0 0 26 [some (.ref 54), some (.int (nI i1))] [] (mrow M 71 (k_undo_26 (M.1 54) (M.1 71) (M.1 73) i1)) Q) ?_ ?_ 0 (Nat.zero_le _)
  · skip
    refine G.sl [(.iload_n 1, 1, 1, 0, 0, 0), (.bipush 51, 2, 0, 0, 0, nI 51)] [] (pc2 := 29) (ls2 := [some (.ref 54), some (.int (nI nn))]) (st2 := [.int (nI 51), .int (nI nn)]) (M2 := mrow M 71 (k_undo_26 (M.1 54) (M.1 71) (M.1 73) nn)) (Ps := []) (by decide +kernel) rfl rfl trivial ?_
    refine G.ic_ge (off := (29)) (tgt := 58) (by decide +kernel) rfl (fun _ => ?_) (fun h9 => absurd (nI_le (by omega) (by omega)) h9)
    refine G.loc (ls2 := [some (.ref 54), none]) (by simp [subL]) ?_
    exact hX
  · skip
    intro i1 hi ih
    have hk := hk i1 hi
    simp only [k_undo_26_ok] at hk
    show G z mX12_undo (d) 0 0 26 [some (.ref 54), some (.int (nI i1))] [] (mrow M 71 (k_undo_26 (M.1 54) (M.1 71) (M.1 73) i1)) Q
    refine G.sl [(.iload_n 1, 1, 1, 0, 0, 0), (.bipush 51, 2, 0, 0, 0, nI 51)] [] (pc2 := 29) (ls2 := [some (.ref 54), some (.int (nI i1))]) (st2 := [.int (nI 51), .int (nI i1)]) (M2 := mrow M 71 (k_undo_26 (M.1 54) (M.1 71) (M.1 73) i1)) (Ps := []) (by decide +kernel) rfl rfl trivial ?_
    refine G.ic_ge (off := (29)) (tgt := 58) (by decide +kernel) rfl (fun h9 => absurd h9 (nI_ge (by omega) (by omega))) (fun _ => ?_)
    obtain ⟨k2, k3, hk⟩ := hk
    refine G.sl [(.aload_n 0, 1, 0, 0, 0, 0), (.getfield 65, 3, 11, 40, 163, 0), (.iload_n 1, 1, 1, 0, 0, 0), (.aload_n 0, 1, 0, 0, 0, 0), (.getfield 71, 3, 11, 42, 165, 0), (.bipush 51, 2, 0, 0, 0, nI 51), (.aload_n 0, 1, 0, 0, 0, 0), (.getfield 178, 3, 11, 35, 158, 0), (.imul, 1, 0, 0, 0, 0), (.iload_n 1, 1, 1, 0, 0, 0), (.iadd, 1, 0, 0, 0, 0), (.iaload, 1, 0, 0, 0, 0), (.iastore, 1, 0, 0, 0, 0), (.iinc 1 1, 3, 1, 0, 0, nI 1), (.goto (-29), 3, 26, 0, 0, 0)] [(51 * (ix (M.1 54 35))) + i1, i1] (pc2 := 26) (ls2 := [some (.ref 54), some (.int ((nI i1) + nI 1))]) (st2 := []) (M2 := mput (mrow M 71 (k_undo_26 (M.1 54) (M.1 71) (M.1 73) i1)) 71 i1 (M.1 73 ((51 * (ix (M.1 54 35))) + i1))) (Ps := [(((nI 51) * (M.1 54 35)) + (nI i1)) = nI ((51 * (ix (M.1 54 35))) + i1) ∧ ((51 * (ix (M.1 54 35))) + i1) < 816, (nI i1) = nI i1 ∧ i1 < 51]) (by decide +kernel) rfl rfl ⟨⟨(nAdd (nMul rfl (ixE k2)) rfl), k3⟩, ⟨rfl, (by omega)⟩, trivial⟩ ?_
    refine G.mem (M' := mrow M 71 (upd (k_undo_26 (M.1 54) (M.1 71) (M.1 73) i1) i1 (M.1 73 ((51 * (ix (M.1 54 35))) + i1)))) (by first | rfl | (simp only [mput, mrow_same, mrow_hit, mrow_miss, mrow_sw, idr_eq, ne_eq, Nat.reduceEqDiff, not_false_eq_true, Nat.reduceLT, reduceCtorEq]; done)) ?_
    rw [nI_add i1 1]
    simp only [k_undo_26] at ih
    exact ih
set_option maxHeartbeats 4000000 in
set_option maxRecDepth 3000 in
theorem c_k_undo_54 (z : Zp) (d : Nat) (M : Mem) (hk : k_undo_ok (M.1 54) (M.1 71) (M.1 73)) : GM z mX12_undo (d) [.ref 54] M (fun rs => rs = .inl (some (.int ((k_undo (M.1 54) (M.1 71) (M.1 73)).1)), mrow (mrow M 54 ((k_undo (M.1 54) (M.1 71) (M.1 73)).2.1)) 71 ((k_undo (M.1 54) (M.1 71) (M.1 73)).2.2))) := by
  simp only [k_undo_ok] at hk
  refine GM.of oX12_undo.1 (Nat.le_of_ble_eq_true rfl) ?_
  show G z mX12_undo (d) 0 0 0 [some (.ref 54), none] [] M _
  obtain ⟨Q, hQ⟩ : ∃ Q : Rs → Prop, Q = (fun rs => rs = .inl (some (.int ((k_undo (M.1 54) (M.1 71) (M.1 73)).1)), mrow (mrow M 54 ((k_undo (M.1 54) (M.1 71) (M.1 73)).2.1)) 71 ((k_undo (M.1 54) (M.1 71) (M.1 73)).2.2))) := ⟨_, rfl⟩
  rw [← hQ]
  refine G.sl [(.aload_n 0, 1, 0, 0, 0, 0), (.iconst 0, 1, 0, 0, 0, nI 0), (.putfield 3, 3, 11, 0, 123, 0), (.aload_n 0, 1, 0, 0, 0, 0), (.getfield 178, 3, 11, 35, 158, 0)] [] (pc2 := 9) (ls2 := [some (.ref 54), none]) (st2 := [.int (M.1 54 35)]) (M2 := mput M 54 0 (nI 0)) (Ps := []) (by decide +kernel) rfl rfl trivial ?_
  refine G.mem (M' := mrow M 54 (upd (M.1 54) 0 (nI 0))) (by first | rfl | (simp only [mput, mrow_same, mrow_hit, mrow_miss, mrow_sw, idr_eq, ne_eq, Nat.reduceEqDiff, not_false_eq_true, Nat.reduceLT, reduceCtorEq]; done)) ?_
  refine G.if_ne (off := (5)) (tgt := 14) (by decide +kernel) rfl (fun c1 => ?_) (fun c1 => ?_)
  · skip
    rw [if_neg c1] at hk
    refine G.sl [(.aload_n 0, 1, 0, 0, 0, 0), (.dup, 1, 0, 0, 0, 0), (.getfield 178, 3, 11, 35, 158, 0), (.iconst 1, 1, 0, 0, 0, nI 1), (.isub, 1, 0, 0, 0, 0), (.putfield 178, 3, 11, 35, 158, 0), (.iconst 0, 1, 0, 0, 0, nI 0), (.istore_n 1, 1, 1, 0, 0, 0)] [] (pc2 := 26) (ls2 := [some (.ref 54), some (.int (nI 0))]) (st2 := []) (M2 := mput (mrow M 54 (upd (M.1 54) 0 (nI 0))) 54 35 ((M.1 54 35) - (nI 1))) (Ps := []) (by decide +kernel) rfl rfl trivial ?_
    refine G.mem (M' := mrow M 54 (upd (upd (M.1 54) 0 (nI 0)) 35 ((M.1 54 35) - (nI 1)))) (by first | rfl | (simp only [mput, mrow_same, mrow_hit, mrow_miss, mrow_sw, idr_eq, ne_eq, Nat.reduceEqDiff, not_false_eq_true, Nat.reduceLT, reduceCtorEq]; done)) ?_
    obtain ⟨k4, hk⟩ := hk
    refine lp_k_undo_54_26 z d (mrow M 54 (upd (upd (M.1 54) 0 (nI 0)) 35 ((M.1 54 35) - (nI 1)))) Q (cN 51) (cN_eq 51) (by first | (simp only [mput, mrow_same, mrow_hit, mrow_miss, mrow_sw, idr_eq, ne_eq, Nat.reduceEqDiff, not_false_eq_true, Nat.reduceLT, reduceCtorEq]; exact k4) | exact k4) ?_
    try simp only [mput, mrow_same, mrow_hit, mrow_miss, mrow_sw, idr_eq, ne_eq, Nat.reduceEqDiff, not_false_eq_true, Nat.reduceLT, reduceCtorEq]
    show G z mX12_undo (d) 0 0 58 [some (.ref 54), none] [] (mrow (mrow M 54 (upd (upd (M.1 54) 0 (nI 0)) 35 ((M.1 54 35) - (nI 1)))) 71 (k_undo_26 (upd (upd (M.1 54) 0 (nI 0)) 35 ((M.1 54 35) - (nI 1))) (M.1 71) (M.1 73) (cN 51))) Q
    refine G.sl [(.aload_n 0, 1, 0, 0, 0, 0), (.iconst 0, 1, 0, 0, 0, nI 0), (.putfield 184, 3, 11, 36, 159, 0), (.aload_n 0, 1, 0, 0, 0, 0), (.getfield 178, 3, 11, 35, 158, 0)] [] (pc2 := 67) (ls2 := [some (.ref 54), none]) (st2 := [.int ((M.1 54 35) - (nI 1))]) (M2 := mput (mrow (mrow M 54 (upd (upd (M.1 54) 0 (nI 0)) 35 ((M.1 54 35) - (nI 1)))) 71 (k_undo_26 (upd (upd (M.1 54) 0 (nI 0)) 35 ((M.1 54 35) - (nI 1))) (M.1 71) (M.1 73) (cN 51))) 54 36 (nI 0)) (Ps := []) (by decide +kernel) rfl rfl trivial ?_
    refine G.mem (M' := mrow (mrow M 54 (upd (upd (upd (M.1 54) 0 (nI 0)) 35 ((M.1 54 35) - (nI 1))) 36 (nI 0))) 71 (k_undo_26 (upd (upd (M.1 54) 0 (nI 0)) 35 ((M.1 54 35) - (nI 1))) (M.1 71) (M.1 73) (cN 51))) (by first | rfl | (simp only [mput, mrow_same, mrow_hit, mrow_miss, mrow_sw, idr_eq, ne_eq, Nat.reduceEqDiff, not_false_eq_true, Nat.reduceLT, reduceCtorEq]; done)) ?_
    exact G.reti (by decide +kernel) rfl rfl (Nat.le_of_ble_eq_true rfl) (Nat.le_of_ble_eq_true rfl) ((by rw [hQ]; simp only [k_undo, if_neg c1, mrow_self]))
  · skip
    rw [if_pos c1] at hk
    refine G.sl [(.iconst (-1), 1, 0, 0, 0, (-1))] [] (pc2 := 13) (ls2 := [some (.ref 54), none]) (st2 := [.int ((-1))]) (M2 := mrow M 54 (upd (M.1 54) 0 (nI 0))) (Ps := []) (by decide +kernel) rfl rfl trivial ?_
    refine G.mem (M' := mrow (mrow M 54 (upd (M.1 54) 0 (nI 0))) 71 (M.1 71)) (((mrow_id (N := mrow M 54 (upd (M.1 54) 0 (nI 0))) (c := 71) (f := M.1 71) (by first | rfl | (simp only [mput, mrow_same, mrow_hit, mrow_miss, mrow_sw, idr_eq, ne_eq, Nat.reduceEqDiff, not_false_eq_true, Nat.reduceLT, reduceCtorEq]; done))).symm).trans (by first | rfl | (simp only [mput, mrow_same, mrow_hit, mrow_miss, mrow_sw, idr_eq, ne_eq, Nat.reduceEqDiff, not_false_eq_true, Nat.reduceLT, reduceCtorEq]; done))) ?_
    exact G.reti (by decide +kernel) rfl rfl (Nat.le_of_ble_eq_true rfl) (Nat.le_of_ble_eq_true rfl) ((by rw [hQ]; simp only [k_undo, if_pos c1, mrow_self]))
theorem k_within_01 (x0 : Int32) (x1 : Int32) (x2 : Int32) : k_within x0 x1 x2 = 0 ∨ k_within x0 x1 x2 = 1 := by
  unfold k_within
  repeat' split
  all_goals first | exact Or.inl rfl | exact Or.inr rfl
set_option maxHeartbeats 4000000 in
set_option maxRecDepth 3000 in
theorem c_k_within (z : Zp) (d : Nat) (M : Mem) (x0 : Int32) (x1 : Int32) (x2 : Int32) : GM z mX12_within (d) [.int x0, .int x1, .int x2] M (fun rs => rs = .inl (some (.int (k_within x0 x1 x2)), M)) := by
  refine GM.of oX12_within.1 (Nat.le_of_ble_eq_true rfl) ?_
  show G z mX12_within (d) 0 0 0 [some (.int x0), some (.int x1), some (.int x2)] [] M _
  obtain ⟨Q, hQ⟩ : ∃ Q : Rs → Prop, Q = (fun rs => rs = .inl (some (.int (k_within x0 x1 x2)), M)) := ⟨_, rfl⟩
  rw [← hQ]
  refine G.sl [(.iload_n 0, 1, 0, 0, 0, 0), (.iload_n 1, 1, 1, 0, 0, 0)] [] (pc2 := 2) (ls2 := [some (.int x0), some (.int x1), some (.int x2)]) (st2 := [.int x1, .int x0]) (M2 := M) (Ps := []) (by decide +kernel) rfl rfl trivial ?_
  refine G.ic_lt (off := (12)) (tgt := 14) (by decide +kernel) rfl (fun c1 => ?_) (fun c1 => ?_)
  · skip
    refine G.sl [(.iconst 0, 1, 0, 0, 0, nI 0)] [] (pc2 := 15) (ls2 := [some (.int x0), some (.int x1), some (.int x2)]) (st2 := [.int (nI 0)]) (M2 := M) (Ps := []) (by decide +kernel) rfl rfl trivial ?_
    exact G.reti (by decide +kernel) rfl rfl (Nat.le_of_ble_eq_true rfl) (Nat.le_of_ble_eq_true rfl) ((by rw [hQ]; simp only [k_within, if_pos c1, mrow_self]))
  · skip
    refine G.sl [(.iload_n 0, 1, 0, 0, 0, 0), (.iload_n 2, 1, 2, 0, 0, 0)] [] (pc2 := 7) (ls2 := [some (.int x0), some (.int x1), some (.int x2)]) (st2 := [.int x2, .int x0]) (M2 := M) (Ps := []) (by decide +kernel) rfl rfl trivial ?_
    refine G.ic_gt (off := (7)) (tgt := 14) (by decide +kernel) rfl (fun c2 => ?_) (fun c2 => ?_)
    · skip
      refine G.sl [(.iconst 0, 1, 0, 0, 0, nI 0)] [] (pc2 := 15) (ls2 := [some (.int x0), some (.int x1), some (.int x2)]) (st2 := [.int (nI 0)]) (M2 := M) (Ps := []) (by decide +kernel) rfl rfl trivial ?_
      exact G.reti (by decide +kernel) rfl rfl (Nat.le_of_ble_eq_true rfl) (Nat.le_of_ble_eq_true rfl) ((by rw [hQ]; simp only [k_within, if_neg c1, if_pos c2, mrow_self]))
    · skip
      refine G.sl [(.iconst 1, 1, 0, 0, 0, nI 1), (.goto 4, 3, 15, 0, 0, 0)] [] (pc2 := 15) (ls2 := [some (.int x0), some (.int x1), some (.int x2)]) (st2 := [.int (nI 1)]) (M2 := M) (Ps := []) (by decide +kernel) rfl rfl trivial ?_
      exact G.reti (by decide +kernel) rfl rfl (Nat.le_of_ble_eq_true rfl) (Nat.le_of_ble_eq_true rfl) ((by rw [hQ]; simp only [k_within, if_neg c1, if_neg c2, mrow_self]))
set_option maxHeartbeats 4000000 in
set_option maxRecDepth 3000 in
theorem lp_k_copies_L51_L51_54_71_72_3 (z : Zp) (d : Nat) (M : Mem) (Q : Rs → Prop) (n3 : Nat) (b3 : n3 < 3000) (hk : ∀ i4, i4 < n3 → k_copies_L51_L51_3_ok (M.1 71) (M.1 72) n3 i4) (hX : G z mX12_copies (d) 0 0 23 [none, none, none, none, none] [] (mrow M 72 (k_copies_L51_L51_3 (M.1 71) (M.1 72) n3 n3)) Q) : G z mX12_copies (d) 0 0 3 [none, some (.ref 71), some (.ref 72), some (.int (nI n3)), some (.int (nI 0))] [] M Q := by
  refine G.mem (M' := mrow M 72 (M.1 72)) (by simp only [mrow_self]) ?_
  refine down (n := n3) (P := fun i4 => G z mX12_copies (d) 0 0 3 [none, some (.ref 71), some (.ref 72), some (.int (nI n3)), some (.int (nI i4))] [] (mrow M 72 (k_copies_L51_L51_3 (M.1 71) (M.1 72) n3 i4)) Q) ?_ ?_ 0 (Nat.zero_le _)
  · skip
    refine G.sl [(.iload 4, 2, 4, 0, 0, 0), (.iload_n 3, 1, 3, 0, 0, 0)] [] (pc2 := 6) (ls2 := [none, some (.ref 71), some (.ref 72), some (.int (nI n3)), some (.int (nI n3))]) (st2 := [.int (nI n3), .int (nI n3)]) (M2 := mrow M 72 (k_copies_L51_L51_3 (M.1 71) (M.1 72) n3 n3)) (Ps := []) (by decide +kernel) rfl rfl trivial ?_
    refine G.ic_ge (off := (17)) (tgt := 23) (by decide +kernel) rfl (fun _ => ?_) (fun h9 => absurd (nI_le (by omega) (by omega)) h9)
    refine G.loc (ls2 := [none, none, none, none, none]) (by simp [subL]) ?_
    exact hX
  · skip
    intro i4 hi ih
    have hk := hk i4 hi
    simp only [k_copies_L51_L51_3_ok] at hk
    show G z mX12_copies (d) 0 0 3 [none, some (.ref 71), some (.ref 72), some (.int (nI n3)), some (.int (nI i4))] [] (mrow M 72 (k_copies_L51_L51_3 (M.1 71) (M.1 72) n3 i4)) Q
    refine G.sl [(.iload 4, 2, 4, 0, 0, 0), (.iload_n 3, 1, 3, 0, 0, 0)] [] (pc2 := 6) (ls2 := [none, some (.ref 71), some (.ref 72), some (.int (nI n3)), some (.int (nI i4))]) (st2 := [.int (nI n3), .int (nI i4)]) (M2 := mrow M 72 (k_copies_L51_L51_3 (M.1 71) (M.1 72) n3 i4)) (Ps := []) (by decide +kernel) rfl rfl trivial ?_
    refine G.ic_ge (off := (17)) (tgt := 23) (by decide +kernel) rfl (fun h9 => absurd h9 (nI_ge (by omega) (by omega))) (fun _ => ?_)
    obtain ⟨k1, hk⟩ := hk
    refine G.sl [(.aload_n 2, 1, 2, 0, 0, 0), (.iload 4, 2, 4, 0, 0, 0), (.aload_n 1, 1, 1, 0, 0, 0), (.iload 4, 2, 4, 0, 0, 0), (.iaload, 1, 0, 0, 0, 0), (.iastore, 1, 0, 0, 0, 0), (.iinc 4 1, 3, 4, 0, 0, nI 1), (.goto (-17), 3, 3, 0, 0, 0)] [i4, i4] (pc2 := 3) (ls2 := [none, some (.ref 71), some (.ref 72), some (.int (nI n3)), some (.int ((nI i4) + nI 1))]) (st2 := []) (M2 := mput (mrow M 72 (k_copies_L51_L51_3 (M.1 71) (M.1 72) n3 i4)) 72 i4 (M.1 71 i4)) (Ps := [(nI i4) = nI i4 ∧ i4 < 51, (nI i4) = nI i4 ∧ i4 < 51]) (by decide +kernel) rfl rfl ⟨⟨rfl, k1⟩, ⟨rfl, k1⟩, trivial⟩ ?_
    refine G.mem (M' := mrow M 72 (upd (k_copies_L51_L51_3 (M.1 71) (M.1 72) n3 i4) i4 (M.1 71 i4))) (by first | rfl | (simp only [mput, mrow_same, mrow_hit, mrow_miss, mrow_sw, idr_eq, ne_eq, Nat.reduceEqDiff, not_false_eq_true, Nat.reduceLT, reduceCtorEq]; done)) ?_
    rw [nI_add i4 1]
    simp only [k_copies_L51_L51_3] at ih
    exact ih
set_option maxHeartbeats 4000000 in
set_option maxRecDepth 3000 in
theorem c_k_copies_L51_L51_54_71_72 (z : Zp) (d : Nat) (M : Mem) (n3 : Nat) (b3 : n3 < 3000) (hk : k_copies_L51_L51_ok (M.1 71) (M.1 72) n3) : GM z mX12_copies (d) [.ref 54, .ref 71, .ref 72, .int (nI n3)] M (fun rs => rs = .inl (none, mrow M 72 ((k_copies_L51_L51 (M.1 71) (M.1 72) n3).2))) := by
  simp only [k_copies_L51_L51_ok] at hk
  refine GM.of oX12_copies.1 (Nat.le_of_ble_eq_true rfl) ?_
  show G z mX12_copies (d) 0 0 0 [some (.ref 54), some (.ref 71), some (.ref 72), some (.int (nI n3)), none] [] M _
  obtain ⟨Q, hQ⟩ : ∃ Q : Rs → Prop, Q = (fun rs => rs = .inl (none, mrow M 72 ((k_copies_L51_L51 (M.1 71) (M.1 72) n3).2))) := ⟨_, rfl⟩
  rw [← hQ]
  refine G.sl [(.iconst 0, 1, 0, 0, 0, nI 0), (.istore 4, 2, 4, 0, 0, 0)] [] (pc2 := 3) (ls2 := [some (.ref 54), some (.ref 71), some (.ref 72), some (.int (nI n3)), some (.int (nI 0))]) (st2 := []) (M2 := M) (Ps := []) (by decide +kernel) rfl rfl trivial ?_
  refine G.loc (ls2 := [none, some (.ref 71), some (.ref 72), some (.int (nI n3)), some (.int (nI 0))]) (by simp [subL]) ?_
  obtain ⟨k2, hk⟩ := hk
  refine lp_k_copies_L51_L51_54_71_72_3 z d M Q n3 (by omega) (by first | (simp only [mput, mrow_same, mrow_hit, mrow_miss, mrow_sw, idr_eq, ne_eq, Nat.reduceEqDiff, not_false_eq_true, Nat.reduceLT, reduceCtorEq]; exact k2) | exact k2) ?_
  try simp only [mput, mrow_same, mrow_hit, mrow_miss, mrow_sw, idr_eq, ne_eq, Nat.reduceEqDiff, not_false_eq_true, Nat.reduceLT, reduceCtorEq]
  show G z mX12_copies (d) 0 0 23 [none, none, none, none, none] [] (mrow M 72 (k_copies_L51_L51_3 (M.1 71) (M.1 72) n3 n3)) Q
  exact G.retv (by decide +kernel) rfl (Nat.le_of_ble_eq_true rfl) (Nat.le_of_ble_eq_true rfl) ((by rw [hQ]; simp only [k_copies_L51_L51, mrow_self]))
set_option maxHeartbeats 4000000 in
set_option maxRecDepth 3000 in
theorem c_k_take_54 (z : Zp) (d : Nat) (M : Mem) (hk : k_take_ok (M.1 71) (M.1 72)) : GM z mX12_take (d + 1) [.ref 54] M (fun rs => rs = .inl (none, mrow M 72 ((k_take (M.1 71) (M.1 72)).2))) := by
  simp only [k_take_ok] at hk
  refine GM.of oX12_take.1 (Nat.le_of_ble_eq_true rfl) ?_
  show G z mX12_take (d + 1) 0 0 0 [some (.ref 54)] [] M _
  obtain ⟨Q, hQ⟩ : ∃ Q : Rs → Prop, Q = (fun rs => rs = .inl (none, mrow M 72 ((k_take (M.1 71) (M.1 72)).2))) := ⟨_, rfl⟩
  rw [← hQ]
  refine G.sl [(.aload_n 0, 1, 0, 0, 0, 0), (.aload_n 0, 1, 0, 0, 0, 0), (.getfield 65, 3, 11, 40, 163, 0), (.aload_n 0, 1, 0, 0, 0, 0), (.getfield 68, 3, 11, 41, 164, 0), (.bipush 51, 2, 0, 0, 0, nI 51)] [] (pc2 := 11) (ls2 := [some (.ref 54)]) (st2 := [.int (nI 51), .ref 72, .ref 71, .ref 54]) (M2 := M) (Ps := []) (by decide +kernel) rfl rfl trivial ?_
  obtain ⟨k1, hk⟩ := hk
  refine G.eq (st' := [.int (nI (cN 51)), .ref 72, .ref 71, .ref 54]) ?_ rfl (by rw [← (show nI 51 = nI (cN 51) from (by rw [cN_eq]))]) rfl
  rcases g2 : k_copies_L51_L51 (M.1 71) (M.1 72) (cN 51) with ⟨u3, r4⟩
  have t5 : GM z mX12_copies (d) [.ref 54, .ref 71, .ref 72, .int (nI (cN 51))] M (fun rs => rs = .inl (none, mrow M 72 r4)) := by
    have q9 := c_k_copies_L51_L51_54_71_72 z d M (cN 51) (by rw [cN_eq]; omega) k1
    try simp only [mput, mrow_same, mrow_hit, mrow_miss, mrow_sw, idr_eq, ne_eq, Nat.reduceEqDiff, not_false_eq_true, Nat.reduceLT, reduceCtorEq, g2] at q9
    exact q9
  refine G.callV (as := [.ref 71, .ref 72, .int (nI (cN 51))]) (rest := []) (a := 54) oX12_copies lk_EvenFindersModel_168 (by decide +kernel) rfl rfl ⟨rfl, rfl⟩ (Nat.le_of_ble_eq_true rfl) rfl ⟨Nat.le_of_ble_eq_true rfl, Nat.le_of_ble_eq_true rfl⟩ t5 (fun v9 N9 h6 => ?_) (fun E9 N9 h6 => by cases h6)
  cases h6
  show G z mX12_take (d + 1) 0 0 14 [some (.ref 54)] [] (mrow M 72 r4) Q
  exact G.retv (by decide +kernel) rfl (Nat.le_of_ble_eq_true rfl) (Nat.le_of_ble_eq_true rfl) ((by rw [hQ]; simp only [k_take, g2, mrow_self]))
set_option maxHeartbeats 4000000 in
set_option maxRecDepth 3000 in
theorem lp_k_sumOf_44_54_4 (z : Zp) (d : Nat) (M : Mem) (Q : Rs → Prop) (nf : Nat) (hnf : nf ≤ 6) (cf : M.1 54 23 = nI nf) (hX : G z mX12_sumOf (d) 0 0 29 [none, none, some (.int (k_sumOf_44_4 (M.1 72) nf)), none] [] M Q) : G z mX12_sumOf (d) 0 0 4 [some (.ref 54), some (.int (nI 44)), some (.int (nI 0)), some (.int (nI 0))] [] M Q := by
  refine down (n := nf) (P := fun i3 => G z mX12_sumOf (d) 0 0 4 [some (.ref 54), some (.int (nI 44)), some (.int (k_sumOf_44_4 (M.1 72) i3)), some (.int (nI i3))] [] M Q) ?_ ?_ 0 (Nat.zero_le _)
  · skip
    refine G.sl [(.iload_n 3, 1, 3, 0, 0, 0), (.aload_n 0, 1, 0, 0, 0, 0), (.getfield 165, 3, 11, 23, 146, 0)] [] (pc2 := 9) (ls2 := [some (.ref 54), some (.int (nI 44)), some (.int (k_sumOf_44_4 (M.1 72) nf)), some (.int (nI nf))]) (st2 := [.int (M.1 54 23), .int (nI nf)]) (M2 := M) (Ps := []) (by decide +kernel) rfl rfl trivial ?_
    rw [cf]
    refine G.ic_ge (off := (20)) (tgt := 29) (by decide +kernel) rfl (fun _ => ?_) (fun h9 => absurd (nI_le (by omega) (by omega)) h9)
    refine G.loc (ls2 := [none, none, some (.int (k_sumOf_44_4 (M.1 72) nf)), none]) (by simp [subL]) ?_
    exact hX
  · skip
    intro i3 hi ih
    show G z mX12_sumOf (d) 0 0 4 [some (.ref 54), some (.int (nI 44)), some (.int (k_sumOf_44_4 (M.1 72) i3)), some (.int (nI i3))] [] M Q
    refine G.sl [(.iload_n 3, 1, 3, 0, 0, 0), (.aload_n 0, 1, 0, 0, 0, 0), (.getfield 165, 3, 11, 23, 146, 0)] [] (pc2 := 9) (ls2 := [some (.ref 54), some (.int (nI 44)), some (.int (k_sumOf_44_4 (M.1 72) i3)), some (.int (nI i3))]) (st2 := [.int (M.1 54 23), .int (nI i3)]) (M2 := M) (Ps := []) (by decide +kernel) rfl rfl trivial ?_
    rw [cf]
    refine G.ic_ge (off := (20)) (tgt := 29) (by decide +kernel) rfl (fun h9 => absurd h9 (nI_ge (by omega) (by omega))) (fun _ => ?_)
    refine G.sl [(.iload_n 2, 1, 2, 0, 0, 0), (.aload_n 0, 1, 0, 0, 0, 0), (.getfield 68, 3, 11, 41, 164, 0), (.iload_n 1, 1, 1, 0, 0, 0), (.iload_n 3, 1, 3, 0, 0, 0), (.iadd, 1, 0, 0, 0, 0), (.iaload, 1, 0, 0, 0, 0), (.iadd, 1, 0, 0, 0, 0), (.istore_n 2, 1, 2, 0, 0, 0), (.iinc 3 1, 3, 3, 0, 0, nI 1), (.goto (-22), 3, 4, 0, 0, 0)] [44 + i3] (pc2 := 4) (ls2 := [some (.ref 54), some (.int (nI 44)), some (.int ((k_sumOf_44_4 (M.1 72) i3) + (M.1 72 (44 + i3)))), some (.int ((nI i3) + nI 1))]) (st2 := []) (M2 := M) (Ps := [((nI 44) + (nI i3)) = nI (44 + i3) ∧ (44 + i3) < 51]) (by decide +kernel) rfl rfl ⟨⟨(nI_add _ _), (by omega)⟩, trivial⟩ ?_
    rw [nI_add i3 1]
    simp only [k_sumOf_44_4] at ih
    exact ih
set_option maxHeartbeats 4000000 in
set_option maxRecDepth 3000 in
theorem c_k_sumOf_44_54 (z : Zp) (d : Nat) (M : Mem) (nf : Nat) (hnf : nf ≤ 6) (cf : M.1 54 23 = nI nf) : GM z mX12_sumOf (d) [.ref 54, .int (nI 44)] M (fun rs => rs = .inl (some (.int (k_sumOf_44 (M.1 72) nf)), M)) := by
  refine GM.of oX12_sumOf.1 (Nat.le_of_ble_eq_true rfl) ?_
  show G z mX12_sumOf (d) 0 0 0 [some (.ref 54), some (.int (nI 44)), none, none] [] M _
  obtain ⟨Q, hQ⟩ : ∃ Q : Rs → Prop, Q = (fun rs => rs = .inl (some (.int (k_sumOf_44 (M.1 72) nf)), M)) := ⟨_, rfl⟩
  rw [← hQ]
  refine G.sl [(.iconst 0, 1, 0, 0, 0, nI 0), (.istore_n 2, 1, 2, 0, 0, 0), (.iconst 0, 1, 0, 0, 0, nI 0), (.istore_n 3, 1, 3, 0, 0, 0)] [] (pc2 := 4) (ls2 := [some (.ref 54), some (.int (nI 44)), some (.int (nI 0)), some (.int (nI 0))]) (st2 := []) (M2 := M) (Ps := []) (by decide +kernel) rfl rfl trivial ?_
  refine lp_k_sumOf_44_54_4 z d M Q nf hnf cf ?_
  show G z mX12_sumOf (d) 0 0 29 [none, none, some (.int (k_sumOf_44_4 (M.1 72) nf)), none] [] M Q
  refine G.sl [(.iload_n 2, 1, 2, 0, 0, 0)] [] (pc2 := 30) (ls2 := [none, none, some (.int (k_sumOf_44_4 (M.1 72) nf)), none]) (st2 := [.int (k_sumOf_44_4 (M.1 72) nf)]) (M2 := M) (Ps := []) (by decide +kernel) rfl rfl trivial ?_
  exact G.reti (by decide +kernel) rfl rfl (Nat.le_of_ble_eq_true rfl) (Nat.le_of_ble_eq_true rfl) ((by rw [hQ]; simp only [k_sumOf_44, mrow_self]))
set_option maxHeartbeats 4000000 in
set_option maxRecDepth 3000 in
theorem lp_k_allLying_54_4 (z : Zp) (d : Nat) (M : Mem) (Q : Rs → Prop) (nt : Nat) (hnt : nt ≤ 10) (ct : M.1 54 22 = nI nt) (hX : G z mX12_allLying (d) 0 0 41 [none, some (.int (k_allLying_4 (M.1 72) nt)), none] [] M Q) : G z mX12_allLying (d) 0 0 4 [some (.ref 54), some (.int (nI 0)), some (.int (nI 0))] [] M Q := by
  refine down (n := nt) (P := fun i2 => G z mX12_allLying (d) 0 0 4 [some (.ref 54), some (.int (k_allLying_4 (M.1 72) i2)), some (.int (nI i2))] [] M Q) ?_ ?_ 0 (Nat.zero_le _)
  · skip
    refine G.sl [(.iload_n 2, 1, 2, 0, 0, 0), (.aload_n 0, 1, 0, 0, 0, 0), (.getfield 162, 3, 11, 22, 145, 0)] [] (pc2 := 9) (ls2 := [some (.ref 54), some (.int (k_allLying_4 (M.1 72) nt)), some (.int (nI nt))]) (st2 := [.int (M.1 54 22), .int (nI nt)]) (M2 := M) (Ps := []) (by decide +kernel) rfl rfl trivial ?_
    rw [ct]
    refine G.ic_ge (off := (32)) (tgt := 41) (by decide +kernel) rfl (fun _ => ?_) (fun h9 => absurd (nI_le (by omega) (by omega)) h9)
    refine G.loc (ls2 := [none, some (.int (k_allLying_4 (M.1 72) nt)), none]) (by simp [subL]) ?_
    exact hX
  · skip
    intro i2 hi ih
    show G z mX12_allLying (d) 0 0 4 [some (.ref 54), some (.int (k_allLying_4 (M.1 72) i2)), some (.int (nI i2))] [] M Q
    refine G.sl [(.iload_n 2, 1, 2, 0, 0, 0), (.aload_n 0, 1, 0, 0, 0, 0), (.getfield 162, 3, 11, 22, 145, 0)] [] (pc2 := 9) (ls2 := [some (.ref 54), some (.int (k_allLying_4 (M.1 72) i2)), some (.int (nI i2))]) (st2 := [.int (M.1 54 22), .int (nI i2)]) (M2 := M) (Ps := []) (by decide +kernel) rfl rfl trivial ?_
    rw [ct]
    refine G.ic_ge (off := (32)) (tgt := 41) (by decide +kernel) rfl (fun h9 => absurd h9 (nI_ge (by omega) (by omega))) (fun _ => ?_)
    refine G.sl [(.iload_n 1, 1, 1, 0, 0, 0), (.aload_n 0, 1, 0, 0, 0, 0), (.getfield 68, 3, 11, 41, 164, 0), (.bipush 10, 2, 0, 0, 0, nI 10), (.iload_n 2, 1, 2, 0, 0, 0), (.iadd, 1, 0, 0, 0, 0), (.iaload, 1, 0, 0, 0, 0), (.iconst (-1), 1, 0, 0, 0, (-1))] [10 + i2] (pc2 := 23) (ls2 := [some (.ref 54), some (.int (k_allLying_4 (M.1 72) i2)), some (.int (nI i2))]) (st2 := [.int ((-1)), .int (M.1 72 (10 + i2)), .int (k_allLying_4 (M.1 72) i2)]) (M2 := M) (Ps := [((nI 10) + (nI i2)) = nI (10 + i2) ∧ (10 + i2) < 51]) (by decide +kernel) rfl rfl ⟨⟨(nI_add _ _), (by omega)⟩, trivial⟩ ?_
    refine G.ic_ne (off := (9)) (tgt := 32) (by decide +kernel) rfl (fun c1 => ?_) (fun c1 => ?_)
    · skip
      refine G.sl [(.iconst 0, 1, 0, 0, 0, nI 0), (.ior, 1, 0, 0, 0, 0), (.istore_n 1, 1, 1, 0, 0, 0), (.iinc 2 1, 3, 2, 0, 0, nI 1), (.goto (-34), 3, 4, 0, 0, 0)] [] (pc2 := 4) (ls2 := [some (.ref 54), some (.int ((k_allLying_4 (M.1 72) i2) ||| (nI 0))), some (.int ((nI i2) + nI 1))]) (st2 := []) (M2 := M) (Ps := []) (by decide +kernel) rfl rfl trivial ?_
      rw [nI_add i2 1]
      simp only [k_allLying_4, if_neg c1] at ih
      exact ih
    · skip
      refine G.sl [(.iconst 1, 1, 0, 0, 0, nI 1), (.iload_n 2, 1, 2, 0, 0, 0), (.ishl, 1, 0, 0, 0, 0), (.goto 4, 3, 33, 0, 0, 0), (.ior, 1, 0, 0, 0, 0), (.istore_n 1, 1, 1, 0, 0, 0), (.iinc 2 1, 3, 2, 0, 0, nI 1), (.goto (-34), 3, 4, 0, 0, 0)] [] (pc2 := 4) (ls2 := [some (.ref 54), some (.int ((k_allLying_4 (M.1 72) i2) ||| ((nI 1) <<< ((nI i2) &&& 31)))), some (.int ((nI i2) + nI 1))]) (st2 := []) (M2 := M) (Ps := []) (by decide +kernel) rfl rfl trivial ?_
      rw [nI_add i2 1]
      simp only [k_allLying_4, if_pos c1] at ih
      exact ih
set_option maxHeartbeats 4000000 in
set_option maxRecDepth 3000 in
theorem c_k_allLying_54 (z : Zp) (d : Nat) (M : Mem) (nt : Nat) (hnt : nt ≤ 10) (ct : M.1 54 22 = nI nt) : GM z mX12_allLying (d) [.ref 54] M (fun rs => rs = .inl (some (.int (k_allLying (M.1 72) nt)), M)) := by
  refine GM.of oX12_allLying.1 (Nat.le_of_ble_eq_true rfl) ?_
  show G z mX12_allLying (d) 0 0 0 [some (.ref 54), none, none] [] M _
  obtain ⟨Q, hQ⟩ : ∃ Q : Rs → Prop, Q = (fun rs => rs = .inl (some (.int (k_allLying (M.1 72) nt)), M)) := ⟨_, rfl⟩
  rw [← hQ]
  refine G.sl [(.iconst 0, 1, 0, 0, 0, nI 0), (.istore_n 1, 1, 1, 0, 0, 0), (.iconst 0, 1, 0, 0, 0, nI 0), (.istore_n 2, 1, 2, 0, 0, 0)] [] (pc2 := 4) (ls2 := [some (.ref 54), some (.int (nI 0)), some (.int (nI 0))]) (st2 := []) (M2 := M) (Ps := []) (by decide +kernel) rfl rfl trivial ?_
  refine lp_k_allLying_54_4 z d M Q nt hnt ct ?_
  show G z mX12_allLying (d) 0 0 41 [none, some (.int (k_allLying_4 (M.1 72) nt)), none] [] M Q
  refine G.sl [(.iload_n 1, 1, 1, 0, 0, 0)] [] (pc2 := 42) (ls2 := [none, some (.int (k_allLying_4 (M.1 72) nt)), none]) (st2 := [.int (k_allLying_4 (M.1 72) nt)]) (M2 := M) (Ps := []) (by decide +kernel) rfl rfl trivial ?_
  exact G.reti (by decide +kernel) rfl rfl (Nat.le_of_ble_eq_true rfl) (Nat.le_of_ble_eq_true rfl) ((by rw [hQ]; simp only [k_allLying, mrow_self]))
set_option maxHeartbeats 4000000 in
set_option maxRecDepth 3000 in
theorem lp_k_worthOf_54_4 (z : Zp) (d : Nat) (M : Mem) (Q : Rs → Prop) (x1 : Int32) (nt : Nat) (hnt : nt ≤ 10) (ct : M.1 54 22 = nI nt) (hX : G z mX12_worthOf (d) 0 0 37 [none, none, some (.int (k_worthOf_4 (M.1 61) x1 nt)), none] [] M Q) : G z mX12_worthOf (d) 0 0 4 [some (.ref 54), some (.int x1), some (.int (nI 0)), some (.int (nI 0))] [] M Q := by
  refine down (n := nt) (P := fun i3 => G z mX12_worthOf (d) 0 0 4 [some (.ref 54), some (.int x1), some (.int (k_worthOf_4 (M.1 61) x1 i3)), some (.int (nI i3))] [] M Q) ?_ ?_ 0 (Nat.zero_le _)
  · skip
    refine G.sl [(.iload_n 3, 1, 3, 0, 0, 0), (.aload_n 0, 1, 0, 0, 0, 0), (.getfield 162, 3, 11, 22, 145, 0)] [] (pc2 := 9) (ls2 := [some (.ref 54), some (.int x1), some (.int (k_worthOf_4 (M.1 61) x1 nt)), some (.int (nI nt))]) (st2 := [.int (M.1 54 22), .int (nI nt)]) (M2 := M) (Ps := []) (by decide +kernel) rfl rfl trivial ?_
    rw [ct]
    refine G.ic_ge (off := (28)) (tgt := 37) (by decide +kernel) rfl (fun _ => ?_) (fun h9 => absurd (nI_le (by omega) (by omega)) h9)
    refine G.loc (ls2 := [none, none, some (.int (k_worthOf_4 (M.1 61) x1 nt)), none]) (by simp [subL]) ?_
    exact hX
  · skip
    intro i3 hi ih
    show G z mX12_worthOf (d) 0 0 4 [some (.ref 54), some (.int x1), some (.int (k_worthOf_4 (M.1 61) x1 i3)), some (.int (nI i3))] [] M Q
    refine G.sl [(.iload_n 3, 1, 3, 0, 0, 0), (.aload_n 0, 1, 0, 0, 0, 0), (.getfield 162, 3, 11, 22, 145, 0)] [] (pc2 := 9) (ls2 := [some (.ref 54), some (.int x1), some (.int (k_worthOf_4 (M.1 61) x1 i3)), some (.int (nI i3))]) (st2 := [.int (M.1 54 22), .int (nI i3)]) (M2 := M) (Ps := []) (by decide +kernel) rfl rfl trivial ?_
    rw [ct]
    refine G.ic_ge (off := (28)) (tgt := 37) (by decide +kernel) rfl (fun h9 => absurd h9 (nI_ge (by omega) (by omega))) (fun _ => ?_)
    refine G.sl [(.iload_n 2, 1, 2, 0, 0, 0), (.iload_n 1, 1, 1, 0, 0, 0), (.iload_n 3, 1, 3, 0, 0, 0), (.ishr, 1, 0, 0, 0, 0), (.iconst 1, 1, 0, 0, 0, nI 1), (.iand, 1, 0, 0, 0, 0), (.aload_n 0, 1, 0, 0, 0, 0), (.getfield 35, 3, 11, 14, 137, 0), (.iconst 3, 1, 0, 0, 0, nI 3), (.iload_n 3, 1, 3, 0, 0, 0), (.imul, 1, 0, 0, 0, 0), (.iconst 2, 1, 0, 0, 0, nI 2), (.iadd, 1, 0, 0, 0, 0), (.iaload, 1, 0, 0, 0, 0), (.imul, 1, 0, 0, 0, 0), (.iadd, 1, 0, 0, 0, 0), (.istore_n 2, 1, 2, 0, 0, 0), (.iinc 3 1, 3, 3, 0, 0, nI 1), (.goto (-30), 3, 4, 0, 0, 0)] [(3 * i3) + 2] (pc2 := 4) (ls2 := [some (.ref 54), some (.int x1), some (.int ((k_worthOf_4 (M.1 61) x1 i3) + (((x1 >>> ((nI i3) &&& 31)) &&& (nI 1)) * (M.1 61 ((3 * i3) + 2))))), some (.int ((nI i3) + nI 1))]) (st2 := []) (M2 := M) (Ps := [(((nI 3) * (nI i3)) + (nI 2)) = nI ((3 * i3) + 2) ∧ ((3 * i3) + 2) < 30]) (by decide +kernel) rfl rfl ⟨⟨(nAdd (pk_mul _ _) rfl), (by omega)⟩, trivial⟩ ?_
    rw [nI_add i3 1]
    simp only [k_worthOf_4] at ih
    exact ih
set_option maxHeartbeats 4000000 in
set_option maxRecDepth 3000 in
theorem c_k_worthOf_54 (z : Zp) (d : Nat) (M : Mem) (x1 : Int32) (nt : Nat) (hnt : nt ≤ 10) (ct : M.1 54 22 = nI nt) : GM z mX12_worthOf (d) [.ref 54, .int x1] M (fun rs => rs = .inl (some (.int (k_worthOf (M.1 61) nt x1)), M)) := by
  refine GM.of oX12_worthOf.1 (Nat.le_of_ble_eq_true rfl) ?_
  show G z mX12_worthOf (d) 0 0 0 [some (.ref 54), some (.int x1), none, none] [] M _
  obtain ⟨Q, hQ⟩ : ∃ Q : Rs → Prop, Q = (fun rs => rs = .inl (some (.int (k_worthOf (M.1 61) nt x1)), M)) := ⟨_, rfl⟩
  rw [← hQ]
  refine G.sl [(.iconst 0, 1, 0, 0, 0, nI 0), (.istore_n 2, 1, 2, 0, 0, 0), (.iconst 0, 1, 0, 0, 0, nI 0), (.istore_n 3, 1, 3, 0, 0, 0)] [] (pc2 := 4) (ls2 := [some (.ref 54), some (.int x1), some (.int (nI 0)), some (.int (nI 0))]) (st2 := []) (M2 := M) (Ps := []) (by decide +kernel) rfl rfl trivial ?_
  refine lp_k_worthOf_54_4 z d M Q x1 nt hnt ct ?_
  show G z mX12_worthOf (d) 0 0 37 [none, none, some (.int (k_worthOf_4 (M.1 61) x1 nt)), none] [] M Q
  refine G.sl [(.iload_n 2, 1, 2, 0, 0, 0)] [] (pc2 := 38) (ls2 := [none, none, some (.int (k_worthOf_4 (M.1 61) x1 nt)), none]) (st2 := [.int (k_worthOf_4 (M.1 61) x1 nt)]) (M2 := M) (Ps := []) (by decide +kernel) rfl rfl trivial ?_
  exact G.reti (by decide +kernel) rfl rfl (Nat.le_of_ble_eq_true rfl) (Nat.le_of_ble_eq_true rfl) ((by rw [hQ]; simp only [k_worthOf, mrow_self]))
set_option maxHeartbeats 4000000 in
set_option maxRecDepth 3000 in
theorem lp_k_owing_54_4 (z : Zp) (d : Nat) (M : Mem) (Q : Rs → Prop) (x1 : Int32) (nf : Nat) (hnf : nf ≤ 6) (cf : M.1 54 23 = nI nf) (hX : G z mX12_owing (d) 0 0 59 [none, none, some (.int (k_owing_4 (M.1 72) x1 nf)), none] [] M Q) : G z mX12_owing (d) 0 0 4 [some (.ref 54), some (.int x1), some (.int (nI 0)), some (.int (nI 0))] [] M Q := by
  refine down (n := nf) (P := fun i3 => G z mX12_owing (d) 0 0 4 [some (.ref 54), some (.int x1), some (.int (k_owing_4 (M.1 72) x1 i3)), some (.int (nI i3))] [] M Q) ?_ ?_ 0 (Nat.zero_le _)
  · skip
    refine G.sl [(.iload_n 3, 1, 3, 0, 0, 0), (.aload_n 0, 1, 0, 0, 0, 0), (.getfield 165, 3, 11, 23, 146, 0)] [] (pc2 := 9) (ls2 := [some (.ref 54), some (.int x1), some (.int (k_owing_4 (M.1 72) x1 nf)), some (.int (nI nf))]) (st2 := [.int (M.1 54 23), .int (nI nf)]) (M2 := M) (Ps := []) (by decide +kernel) rfl rfl trivial ?_
    rw [cf]
    refine G.ic_ge (off := (50)) (tgt := 59) (by decide +kernel) rfl (fun _ => ?_) (fun h9 => absurd (nI_le (by omega) (by omega)) h9)
    refine G.loc (ls2 := [none, none, some (.int (k_owing_4 (M.1 72) x1 nf)), none]) (by simp [subL]) ?_
    exact hX
  · skip
    intro i3 hi ih
    show G z mX12_owing (d) 0 0 4 [some (.ref 54), some (.int x1), some (.int (k_owing_4 (M.1 72) x1 i3)), some (.int (nI i3))] [] M Q
    refine G.sl [(.iload_n 3, 1, 3, 0, 0, 0), (.aload_n 0, 1, 0, 0, 0, 0), (.getfield 165, 3, 11, 23, 146, 0)] [] (pc2 := 9) (ls2 := [some (.ref 54), some (.int x1), some (.int (k_owing_4 (M.1 72) x1 i3)), some (.int (nI i3))]) (st2 := [.int (M.1 54 23), .int (nI i3)]) (M2 := M) (Ps := []) (by decide +kernel) rfl rfl trivial ?_
    rw [cf]
    refine G.ic_ge (off := (50)) (tgt := 59) (by decide +kernel) rfl (fun h9 => absurd h9 (nI_ge (by omega) (by omega))) (fun _ => ?_)
    refine G.sl [(.iload_n 2, 1, 2, 0, 0, 0), (.iload_n 1, 1, 1, 0, 0, 0)] [] (pc2 := 14) (ls2 := [some (.ref 54), some (.int x1), some (.int (k_owing_4 (M.1 72) x1 i3)), some (.int (nI i3))]) (st2 := [.int x1, .int (k_owing_4 (M.1 72) x1 i3)]) (M2 := M) (Ps := []) (by decide +kernel) rfl rfl trivial ?_
    refine G.if_ne (off := (18)) (tgt := 32) (by decide +kernel) rfl (fun c1 => ?_) (fun c1 => ?_)
    · skip
      refine G.sl [(.aload_n 0, 1, 0, 0, 0, 0), (.getfield 68, 3, 11, 41, 164, 0), (.bipush 26, 2, 0, 0, 0, nI 26), (.iload_n 3, 1, 3, 0, 0, 0), (.iadd, 1, 0, 0, 0, 0), (.iaload, 1, 0, 0, 0, 0)] [26 + i3] (pc2 := 41) (ls2 := [some (.ref 54), some (.int x1), some (.int (k_owing_4 (M.1 72) x1 i3)), some (.int (nI i3))]) (st2 := [.int (M.1 72 (26 + i3)), .int (k_owing_4 (M.1 72) x1 i3)]) (M2 := M) (Ps := [((nI 26) + (nI i3)) = nI (26 + i3) ∧ (26 + i3) < 51]) (by decide +kernel) rfl rfl ⟨⟨(nI_add _ _), (by omega)⟩, trivial⟩ ?_
      refine G.if_le (off := (9)) (tgt := 50) (by decide +kernel) rfl (fun c2 => ?_) (fun c2 => ?_)
      · skip
        refine G.sl [(.iconst 0, 1, 0, 0, 0, nI 0), (.ior, 1, 0, 0, 0, 0), (.istore_n 2, 1, 2, 0, 0, 0), (.iinc 3 1, 3, 3, 0, 0, nI 1), (.goto (-52), 3, 4, 0, 0, 0)] [] (pc2 := 4) (ls2 := [some (.ref 54), some (.int x1), some (.int ((k_owing_4 (M.1 72) x1 i3) ||| (nI 0))), some (.int ((nI i3) + nI 1))]) (st2 := []) (M2 := M) (Ps := []) (by decide +kernel) rfl rfl trivial ?_
        rw [nI_add i3 1]
        simp only [k_owing_4, if_neg c1, if_pos c2] at ih
        exact ih
      · skip
        refine G.sl [(.iconst 1, 1, 0, 0, 0, nI 1), (.iload_n 3, 1, 3, 0, 0, 0), (.ishl, 1, 0, 0, 0, 0), (.goto 4, 3, 51, 0, 0, 0), (.ior, 1, 0, 0, 0, 0), (.istore_n 2, 1, 2, 0, 0, 0), (.iinc 3 1, 3, 3, 0, 0, nI 1), (.goto (-52), 3, 4, 0, 0, 0)] [] (pc2 := 4) (ls2 := [some (.ref 54), some (.int x1), some (.int ((k_owing_4 (M.1 72) x1 i3) ||| ((nI 1) <<< ((nI i3) &&& 31)))), some (.int ((nI i3) + nI 1))]) (st2 := []) (M2 := M) (Ps := []) (by decide +kernel) rfl rfl trivial ?_
        rw [nI_add i3 1]
        simp only [k_owing_4, if_neg c1, if_neg c2] at ih
        exact ih
    · skip
      refine G.sl [(.aload_n 0, 1, 0, 0, 0, 0), (.getfield 68, 3, 11, 41, 164, 0), (.bipush 26, 2, 0, 0, 0, nI 26), (.iload_n 3, 1, 3, 0, 0, 0), (.iadd, 1, 0, 0, 0, 0), (.iaload, 1, 0, 0, 0, 0)] [26 + i3] (pc2 := 26) (ls2 := [some (.ref 54), some (.int x1), some (.int (k_owing_4 (M.1 72) x1 i3)), some (.int (nI i3))]) (st2 := [.int (M.1 72 (26 + i3)), .int (k_owing_4 (M.1 72) x1 i3)]) (M2 := M) (Ps := [((nI 26) + (nI i3)) = nI (26 + i3) ∧ (26 + i3) < 51]) (by decide +kernel) rfl rfl ⟨⟨(nI_add _ _), (by omega)⟩, trivial⟩ ?_
      refine G.if_ne (off := (24)) (tgt := 50) (by decide +kernel) rfl (fun c3 => ?_) (fun c3 => ?_)
      · skip
        refine G.sl [(.iconst 0, 1, 0, 0, 0, nI 0), (.ior, 1, 0, 0, 0, 0), (.istore_n 2, 1, 2, 0, 0, 0), (.iinc 3 1, 3, 3, 0, 0, nI 1), (.goto (-52), 3, 4, 0, 0, 0)] [] (pc2 := 4) (ls2 := [some (.ref 54), some (.int x1), some (.int ((k_owing_4 (M.1 72) x1 i3) ||| (nI 0))), some (.int ((nI i3) + nI 1))]) (st2 := []) (M2 := M) (Ps := []) (by decide +kernel) rfl rfl trivial ?_
        rw [nI_add i3 1]
        simp only [k_owing_4, if_pos c1, if_neg c3] at ih
        exact ih
      · skip
        refine G.sl [(.goto 15, 3, 44, 0, 0, 0), (.iconst 1, 1, 0, 0, 0, nI 1), (.iload_n 3, 1, 3, 0, 0, 0), (.ishl, 1, 0, 0, 0, 0), (.goto 4, 3, 51, 0, 0, 0), (.ior, 1, 0, 0, 0, 0), (.istore_n 2, 1, 2, 0, 0, 0), (.iinc 3 1, 3, 3, 0, 0, nI 1), (.goto (-52), 3, 4, 0, 0, 0)] [] (pc2 := 4) (ls2 := [some (.ref 54), some (.int x1), some (.int ((k_owing_4 (M.1 72) x1 i3) ||| ((nI 1) <<< ((nI i3) &&& 31)))), some (.int ((nI i3) + nI 1))]) (st2 := []) (M2 := M) (Ps := []) (by decide +kernel) rfl rfl trivial ?_
        rw [nI_add i3 1]
        simp only [k_owing_4, if_pos c1, if_pos c3] at ih
        exact ih
set_option maxHeartbeats 4000000 in
set_option maxRecDepth 3000 in
theorem c_k_owing_54 (z : Zp) (d : Nat) (M : Mem) (x1 : Int32) (nf : Nat) (hnf : nf ≤ 6) (cf : M.1 54 23 = nI nf) : GM z mX12_owing (d) [.ref 54, .int x1] M (fun rs => rs = .inl (some (.int (k_owing (M.1 72) nf x1)), M)) := by
  refine GM.of oX12_owing.1 (Nat.le_of_ble_eq_true rfl) ?_
  show G z mX12_owing (d) 0 0 0 [some (.ref 54), some (.int x1), none, none] [] M _
  obtain ⟨Q, hQ⟩ : ∃ Q : Rs → Prop, Q = (fun rs => rs = .inl (some (.int (k_owing (M.1 72) nf x1)), M)) := ⟨_, rfl⟩
  rw [← hQ]
  refine G.sl [(.iconst 0, 1, 0, 0, 0, nI 0), (.istore_n 2, 1, 2, 0, 0, 0), (.iconst 0, 1, 0, 0, 0, nI 0), (.istore_n 3, 1, 3, 0, 0, 0)] [] (pc2 := 4) (ls2 := [some (.ref 54), some (.int x1), some (.int (nI 0)), some (.int (nI 0))]) (st2 := []) (M2 := M) (Ps := []) (by decide +kernel) rfl rfl trivial ?_
  refine lp_k_owing_54_4 z d M Q x1 nf hnf cf ?_
  show G z mX12_owing (d) 0 0 59 [none, none, some (.int (k_owing_4 (M.1 72) x1 nf)), none] [] M Q
  refine G.sl [(.iload_n 2, 1, 2, 0, 0, 0)] [] (pc2 := 60) (ls2 := [none, none, some (.int (k_owing_4 (M.1 72) x1 nf)), none]) (st2 := [.int (k_owing_4 (M.1 72) x1 nf)]) (M2 := M) (Ps := []) (by decide +kernel) rfl rfl trivial ?_
  exact G.reti (by decide +kernel) rfl rfl (Nat.le_of_ble_eq_true rfl) (Nat.le_of_ble_eq_true rfl) ((by rw [hQ]; simp only [k_owing, mrow_self]))
set_option maxHeartbeats 4000000 in
set_option maxRecDepth 3000 in
theorem c_k_allHeld_54 (z : Zp) (d : Nat) (M : Mem) (nt : Nat) (hnt : nt ≤ 10) (ct : M.1 54 22 = nI nt) : GM z mX12_allHeld (d + 1) [.ref 54] M (fun rs => rs = .inl (some (.int (k_allHeld (M.1 72) nt)), M)) := by
  refine GM.of oX12_allHeld.1 (Nat.le_of_ble_eq_true rfl) ?_
  show G z mX12_allHeld (d + 1) 0 0 0 [some (.ref 54)] [] M _
  obtain ⟨Q, hQ⟩ : ∃ Q : Rs → Prop, Q = (fun rs => rs = .inl (some (.int (k_allHeld (M.1 72) nt)), M)) := ⟨_, rfl⟩
  rw [← hQ]
  refine G.sl [(.iconst 1, 1, 0, 0, 0, nI 1), (.aload_n 0, 1, 0, 0, 0, 0), (.getfield 162, 3, 11, 22, 145, 0), (.ishl, 1, 0, 0, 0, 0), (.iconst 1, 1, 0, 0, 0, nI 1), (.isub, 1, 0, 0, 0, 0), (.aload_n 0, 1, 0, 0, 0, 0)] [] (pc2 := 9) (ls2 := [some (.ref 54)]) (st2 := [.ref 54, .int (((nI 1) <<< ((M.1 54 22) &&& 31)) - (nI 1))]) (M2 := M) (Ps := []) (by decide +kernel) rfl rfl trivial ?_
  rw [ct]
  have t2 : GM z mX12_allLying (d) [.ref 54] M (fun rs => rs = .inl (some (.int (k_allLying (M.1 72) nt)), M)) := by
    have q9 := c_k_allLying_54 z d M nt hnt ct
    try simp only [mput, mrow_same, mrow_hit, mrow_miss, mrow_sw, idr_eq, ne_eq, Nat.reduceEqDiff, not_false_eq_true, Nat.reduceLT, reduceCtorEq] at q9
    exact q9
  refine G.callV (as := []) (rest := [.int (((nI 1) <<< ((nI nt) &&& 31)) - (nI 1))]) (a := 54) oX12_allLying lk_EvenFindersModel_376 (by decide +kernel) rfl rfl ⟨rfl, rfl⟩ (Nat.le_of_ble_eq_true rfl) rfl ⟨Nat.le_of_ble_eq_true rfl, Nat.le_of_ble_eq_true rfl⟩ t2 (fun v9 N9 h3 => ?_) (fun E9 N9 h3 => by cases h3)
  cases h3
  show G z mX12_allHeld (d + 1) 0 0 12 [some (.ref 54)] [.int (k_allLying (M.1 72) nt), .int (((nI 1) <<< ((nI nt) &&& 31)) - (nI 1))] M Q
  refine G.sl [(.iconst (-1), 1, 0, 0, 0, (-1)), (.ixor, 1, 0, 0, 0, 0), (.iand, 1, 0, 0, 0, 0)] [] (pc2 := 15) (ls2 := [some (.ref 54)]) (st2 := [.int ((((nI 1) <<< ((nI nt) &&& 31)) - (nI 1)) &&& ((k_allLying (M.1 72) nt) ^^^ ((-1))))]) (M2 := M) (Ps := []) (by decide +kernel) rfl rfl trivial ?_
  exact G.reti (by decide +kernel) rfl rfl (Nat.le_of_ble_eq_true rfl) (Nat.le_of_ble_eq_true rfl) ((by rw [hQ]; simp only [k_allHeld, mrow_self]))
set_option maxHeartbeats 4000000 in
set_option maxRecDepth 3000 in
theorem c_k_told_54 (z : Zp) (d : Nat) (M : Mem) (x1 : Int32) (hk : k_told_ok (M.1 54) (M.1 55) (M.1 61) (M.1 71) (M.1 72) x1) : GM z mX12_told (d + 2) [.ref 54, .int x1] M (fun rs => rs = .inl (some (.int ((k_told (M.1 54) (M.1 55) (M.1 61) (M.1 71) (M.1 72) x1).1)), mrow (mrow (mrow M 54 ((k_told (M.1 54) (M.1 55) (M.1 61) (M.1 71) (M.1 72) x1).2.1)) 55 ((k_told (M.1 54) (M.1 55) (M.1 61) (M.1 71) (M.1 72) x1).2.2.1)) 72 ((k_told (M.1 54) (M.1 55) (M.1 61) (M.1 71) (M.1 72) x1).2.2.2))) := by
  simp only [k_told_ok] at hk
  refine GM.of oX12_told.1 (Nat.le_of_ble_eq_true rfl) ?_
  show G z mX12_told (d + 2) 0 0 0 [some (.ref 54), some (.int x1)] [] M _
  obtain ⟨Q, hQ⟩ : ∃ Q : Rs → Prop, Q = (fun rs => rs = .inl (some (.int ((k_told (M.1 54) (M.1 55) (M.1 61) (M.1 71) (M.1 72) x1).1)), mrow (mrow (mrow M 54 ((k_told (M.1 54) (M.1 55) (M.1 61) (M.1 71) (M.1 72) x1).2.1)) 55 ((k_told (M.1 54) (M.1 55) (M.1 61) (M.1 71) (M.1 72) x1).2.2.1)) 72 ((k_told (M.1 54) (M.1 55) (M.1 61) (M.1 71) (M.1 72) x1).2.2.2))) := ⟨_, rfl⟩
  rw [← hQ]
  refine G.sl [(.aload_n 0, 1, 0, 0, 0, 0), (.iconst 0, 1, 0, 0, 0, nI 0), (.putfield 3, 3, 11, 0, 123, 0), (.aload_n 0, 1, 0, 0, 0, 0), (.iload_n 1, 1, 1, 0, 0, 0), (.iconst 0, 1, 0, 0, 0, nI 0), (.bipush 11, 2, 0, 0, 0, nI 11)] [] (pc2 := 10) (ls2 := [some (.ref 54), some (.int x1)]) (st2 := [.int (nI 11), .int (nI 0), .int x1, .ref 54]) (M2 := mput M 54 0 (nI 0)) (Ps := []) (by decide +kernel) rfl rfl trivial ?_
  refine G.mem (M' := mrow M 54 (upd (M.1 54) 0 (nI 0))) (by first | rfl | (simp only [mput, mrow_same, mrow_hit, mrow_miss, mrow_sw, idr_eq, ne_eq, Nat.reduceEqDiff, not_false_eq_true, Nat.reduceLT, reduceCtorEq]; done)) ?_
  obtain ⟨k1, hk⟩ := hk
  have t2 : GM z mX12_within (d + 1) [.int x1, .int (nI 0), .int (nI 11)] (mrow M 54 (upd (M.1 54) 0 (nI 0))) (fun rs => rs = .inl (some (.int (k_within x1 (nI 0) (nI 11))), mrow M 54 (upd (M.1 54) 0 (nI 0)))) := by
    have q9 := c_k_within z (d + 1) (mrow M 54 (upd (M.1 54) 0 (nI 0))) x1 (nI 0) (nI 11)
    try simp only [mput, mrow_same, mrow_hit, mrow_miss, mrow_sw, idr_eq, ne_eq, Nat.reduceEqDiff, not_false_eq_true, Nat.reduceLT, reduceCtorEq] at q9
    exact q9
  refine G.callS (as := [.int x1, .int (nI 0), .int (nI 11)]) (rest := [.ref 54]) oX12_within lk_EvenFindersModel_379 (by decide +kernel) rfl (Nat.le_of_ble_eq_true rfl) rfl ⟨Nat.le_of_ble_eq_true rfl, Nat.le_of_ble_eq_true rfl⟩ t2 (fun v9 N9 h3 => ?_) (fun E9 N9 h3 => by cases h3)
  cases h3
  show G z mX12_told (d + 2) 0 0 13 [some (.ref 54), some (.int x1)] [.int (k_within x1 (nI 0) (nI 11)), .ref 54] (mrow M 54 (upd (M.1 54) 0 (nI 0))) Q
  refine G.sl [(.iconst 1, 1, 0, 0, 0, nI 1), (.iconst 1, 1, 0, 0, 0, nI 1)] [] (pc2 := 15) (ls2 := [some (.ref 54), some (.int x1)]) (st2 := [.int (nI 1), .int (nI 1), .int (k_within x1 (nI 0) (nI 11)), .ref 54]) (M2 := mrow M 54 (upd (M.1 54) 0 (nI 0))) (Ps := []) (by decide +kernel) rfl rfl trivial ?_
  obtain ⟨k4, hk⟩ := hk
  rcases g5 : k_may_1 (upd (M.1 54) 0 (nI 0)) (M.1 55) (k_within x1 (nI 0) (nI 11)) (nI 1) with ⟨v6, r7, r8⟩
  try simp only [g5] at hk
  have ev6 : v6 = 0 ∨ v6 = 1 := by
    have q9 := k_may_1_01 (upd (M.1 54) 0 (nI 0)) (M.1 55) (k_within x1 (nI 0) (nI 11)) (nI 1)
    rw [g5] at q9
    exact q9
  have t9 : GM z mX12_may (d + 1) [.ref 54, .int (k_within x1 (nI 0) (nI 11)), .int (nI 1), .int (nI 1)] (mrow M 54 (upd (M.1 54) 0 (nI 0))) (fun rs => rs = .inl (some (.int v6), mrow (mrow M 54 r7) 55 r8)) := by
    have q9 := c_k_may_1_54 z (d + 1) (mrow M 54 (upd (M.1 54) 0 (nI 0))) (k_within x1 (nI 0) (nI 11)) (nI 1)
    try simp only [mput, mrow_same, mrow_hit, mrow_miss, mrow_sw, idr_eq, ne_eq, Nat.reduceEqDiff, not_false_eq_true, Nat.reduceLT, reduceCtorEq, g5] at q9
    exact q9
  refine G.callV (as := [.int (k_within x1 (nI 0) (nI 11)), .int (nI 1), .int (nI 1)]) (rest := []) (a := 54) oX12_may lk_EvenFindersModel_213 (by decide +kernel) rfl rfl ⟨rfl, rfl⟩ (Nat.le_of_ble_eq_true rfl) rfl ⟨Nat.le_of_ble_eq_true rfl, Nat.le_of_ble_eq_true rfl⟩ t9 (fun v9 N9 h10 => ?_) (fun E9 N9 h10 => by cases h10)
  cases h10
  show G z mX12_told (d + 2) 0 0 18 [some (.ref 54), some (.int x1)] [.int v6] (mrow (mrow M 54 r7) 55 r8) Q
  refine G.if_ne (off := (5)) (tgt := 23) (by decide +kernel) rfl (fun c11 => ?_) (fun c11 => ?_)
  · skip
    rw [if_neg c11] at hk
    refine G.sl [(.aload_n 0, 1, 0, 0, 0, 0)] [] (pc2 := 24) (ls2 := [some (.ref 54), some (.int x1)]) (st2 := [.ref 54]) (M2 := mrow (mrow M 54 r7) 55 r8) (Ps := []) (by decide +kernel) rfl rfl trivial ?_
    obtain ⟨k12, hk⟩ := hk
    rcases g13 : k_take (M.1 71) (M.1 72) with ⟨u14, r15⟩
    try simp only [g13] at hk
    have t16 : GM z mX12_take (d + 1) [.ref 54] (mrow (mrow M 54 r7) 55 r8) (fun rs => rs = .inl (none, mrow (mrow (mrow M 54 r7) 55 r8) 72 r15)) := by
      have q9 := c_k_take_54 z d (mrow (mrow M 54 r7) 55 r8) k12
      try simp only [mput, mrow_same, mrow_hit, mrow_miss, mrow_sw, idr_eq, ne_eq, Nat.reduceEqDiff, not_false_eq_true, Nat.reduceLT, reduceCtorEq, g13] at q9
      exact q9
    refine G.callV (as := []) (rest := []) (a := 54) oX12_take lk_EvenFindersModel_320 (by decide +kernel) rfl rfl ⟨rfl, rfl⟩ (Nat.le_of_ble_eq_true rfl) rfl ⟨Nat.le_of_ble_eq_true rfl, Nat.le_of_ble_eq_true rfl⟩ t16 (fun v9 N9 h17 => ?_) (fun E9 N9 h17 => by cases h17)
    cases h17
    show G z mX12_told (d + 2) 0 0 27 [some (.ref 54), some (.int x1)] [] (mrow (mrow (mrow M 54 r7) 55 r8) 72 r15) Q
    refine G.sl [(.iload_n 1, 1, 1, 0, 0, 0), (.iconst 4, 1, 0, 0, 0, nI 4)] [] (pc2 := 29) (ls2 := [some (.ref 54), some (.int x1)]) (st2 := [.int (nI 4), .int x1]) (M2 := mrow (mrow (mrow M 54 r7) 55 r8) 72 r15) (Ps := []) (by decide +kernel) rfl rfl trivial ?_
    refine G.ic_ge (off := (43)) (tgt := 72) (by decide +kernel) rfl (fun c18 => ?_) (fun c18 => ?_)
    · skip
      rw [if_pos c18] at hk
      refine G.sl [(.iload_n 1, 1, 1, 0, 0, 0), (.bipush 8, 2, 0, 0, 0, nI 8)] [] (pc2 := 75) (ls2 := [some (.ref 54), some (.int x1)]) (st2 := [.int (nI 8), .int x1]) (M2 := mrow (mrow (mrow M 54 r7) 55 r8) 72 r15) (Ps := []) (by decide +kernel) rfl rfl trivial ?_
      refine G.ic_ge (off := (39)) (tgt := 114) (by decide +kernel) rfl (fun c19 => ?_) (fun c19 => ?_)
      · skip
        rw [if_pos c19] at hk
        refine G.sl [(.iload_n 1, 1, 1, 0, 0, 0), (.bipush 8, 2, 0, 0, 0, nI 8)] [] (pc2 := 117) (ls2 := [some (.ref 54), some (.int x1)]) (st2 := [.int (nI 8), .int x1]) (M2 := mrow (mrow (mrow M 54 r7) 55 r8) 72 r15) (Ps := []) (by decide +kernel) rfl rfl trivial ?_
        refine G.ic_ne (off := (14)) (tgt := 131) (by decide +kernel) rfl (fun c20 => ?_) (fun c20 => ?_)
        · skip
          rw [if_neg c20] at hk
          refine G.sl [(.iload_n 1, 1, 1, 0, 0, 0), (.bipush 9, 2, 0, 0, 0, nI 9)] [] (pc2 := 134) (ls2 := [some (.ref 54), some (.int x1)]) (st2 := [.int (nI 9), .int x1]) (M2 := mrow (mrow (mrow M 54 r7) 55 r8) 72 r15) (Ps := []) (by decide +kernel) rfl rfl trivial ?_
          refine G.ic_ne (off := (10)) (tgt := 144) (by decide +kernel) rfl (fun c21 => ?_) (fun c21 => ?_)
          · skip
            rw [if_neg c21] at hk
            refine G.sl [(.iload_n 1, 1, 1, 0, 0, 0), (.bipush 10, 2, 0, 0, 0, nI 10)] [] (pc2 := 147) (ls2 := [some (.ref 54), some (.int x1)]) (st2 := [.int (nI 10), .int x1]) (M2 := mrow (mrow (mrow M 54 r7) 55 r8) 72 r15) (Ps := []) (by decide +kernel) rfl rfl trivial ?_
            refine G.ic_ne (off := (10)) (tgt := 157) (by decide +kernel) rfl (fun c22 => ?_) (fun c22 => ?_)
            · skip
              rw [if_neg c22] at hk
              refine G.sl [(.aload_n 0, 1, 0, 0, 0, 0), (.bipush 44, 2, 0, 0, 0, nI 44)] [] (pc2 := 160) (ls2 := [some (.ref 54), some (.int x1)]) (st2 := [.int (nI 44), .ref 54]) (M2 := mrow (mrow (mrow M 54 r7) 55 r8) 72 r15) (Ps := []) (by decide +kernel) rfl rfl trivial ?_
              obtain ⟨k23, k24, hk⟩ := hk
              have t26 : GM z mX12_sumOf (d + 1) [.ref 54, .int (nI 44)] (mrow (mrow (mrow M 54 r7) 55 r8) 72 r15) (fun rs => rs = .inl (some (.int (k_sumOf_44 r15 (ix (r7 23)))), mrow (mrow (mrow M 54 r7) 55 r8) 72 r15)) := by
                have q9 := c_k_sumOf_44_54 z (d + 1) (mrow (mrow (mrow M 54 r7) 55 r8) 72 r15) (ix (r7 23)) k24 (ixE k23)
                try simp only [mput, mrow_same, mrow_hit, mrow_miss, mrow_sw, idr_eq, ne_eq, Nat.reduceEqDiff, not_false_eq_true, Nat.reduceLT, reduceCtorEq] at q9
                exact q9
              refine G.callV (as := [.int (nI 44)]) (rest := []) (a := 54) oX12_sumOf lk_EvenFindersModel_391 (by decide +kernel) rfl rfl ⟨rfl, rfl⟩ (Nat.le_of_ble_eq_true rfl) rfl ⟨Nat.le_of_ble_eq_true rfl, Nat.le_of_ble_eq_true rfl⟩ t26 (fun v9 N9 h27 => ?_) (fun E9 N9 h27 => by cases h27)
              cases h27
              show G z mX12_told (d + 2) 0 0 163 [some (.ref 54), some (.int x1)] [.int (k_sumOf_44 r15 (ix (r7 23)))] (mrow (mrow (mrow M 54 r7) 55 r8) 72 r15) Q
              exact G.reti (by decide +kernel) rfl rfl (Nat.le_of_ble_eq_true rfl) (Nat.le_of_ble_eq_true rfl) ((by rw [hQ]; simp only [k_told, g5, if_neg c11, g13, if_pos c18, if_pos c19, if_neg c20, if_neg c21, if_neg c22, mrow_self]))
            · skip
              rw [if_pos c22] at hk
              refine G.sl [(.aload_n 0, 1, 0, 0, 0, 0), (.getfield 184, 3, 11, 36, 159, 0), (.goto 9, 3, 163, 0, 0, 0)] [] (pc2 := 163) (ls2 := [some (.ref 54), some (.int x1)]) (st2 := [.int (r7 36)]) (M2 := mrow (mrow (mrow M 54 r7) 55 r8) 72 r15) (Ps := []) (by decide +kernel) rfl rfl trivial ?_
              exact G.reti (by decide +kernel) rfl rfl (Nat.le_of_ble_eq_true rfl) (Nat.le_of_ble_eq_true rfl) ((by rw [hQ]; simp only [k_told, g5, if_neg c11, g13, if_pos c18, if_pos c19, if_neg c20, if_neg c21, if_pos c22, mrow_self]))
          · skip
            rw [if_pos c21] at hk
            refine G.sl [(.aload_n 0, 1, 0, 0, 0, 0), (.getfield 175, 3, 11, 45, 168, 0), (.goto 22, 3, 163, 0, 0, 0)] [] (pc2 := 163) (ls2 := [some (.ref 54), some (.int x1)]) (st2 := [.int (r7 45)]) (M2 := mrow (mrow (mrow M 54 r7) 55 r8) 72 r15) (Ps := []) (by decide +kernel) rfl rfl trivial ?_
            exact G.reti (by decide +kernel) rfl rfl (Nat.le_of_ble_eq_true rfl) (Nat.le_of_ble_eq_true rfl) ((by rw [hQ]; simp only [k_told, g5, if_neg c11, g13, if_pos c18, if_pos c19, if_neg c20, if_pos c21, mrow_self]))
        · skip
          rw [if_pos c20] at hk
          refine G.sl [(.aload_n 0, 1, 0, 0, 0, 0), (.aload_n 0, 1, 0, 0, 0, 0)] [] (pc2 := 122) (ls2 := [some (.ref 54), some (.int x1)]) (st2 := [.ref 54, .ref 54]) (M2 := mrow (mrow (mrow M 54 r7) 55 r8) 72 r15) (Ps := []) (by decide +kernel) rfl rfl trivial ?_
          obtain ⟨k28, k29, hk⟩ := hk
          have t31 : GM z mX12_allLying (d + 1) [.ref 54] (mrow (mrow (mrow M 54 r7) 55 r8) 72 r15) (fun rs => rs = .inl (some (.int (k_allLying r15 (ix (r7 22)))), mrow (mrow (mrow M 54 r7) 55 r8) 72 r15)) := by
            have q9 := c_k_allLying_54 z (d + 1) (mrow (mrow (mrow M 54 r7) 55 r8) 72 r15) (ix (r7 22)) k29 (ixE k28)
            try simp only [mput, mrow_same, mrow_hit, mrow_miss, mrow_sw, idr_eq, ne_eq, Nat.reduceEqDiff, not_false_eq_true, Nat.reduceLT, reduceCtorEq] at q9
            exact q9
          refine G.callV (as := []) (rest := [.ref 54]) (a := 54) oX12_allLying lk_EvenFindersModel_376 (by decide +kernel) rfl rfl ⟨rfl, rfl⟩ (Nat.le_of_ble_eq_true rfl) rfl ⟨Nat.le_of_ble_eq_true rfl, Nat.le_of_ble_eq_true rfl⟩ t31 (fun v9 N9 h32 => ?_) (fun E9 N9 h32 => by cases h32)
          cases h32
          show G z mX12_told (d + 2) 0 0 125 [some (.ref 54), some (.int x1)] [.int (k_allLying r15 (ix (r7 22))), .ref 54] (mrow (mrow (mrow M 54 r7) 55 r8) 72 r15) Q
          have t34 : GM z mX12_worthOf (d + 1) [.ref 54, .int (k_allLying r15 (ix (r7 22)))] (mrow (mrow (mrow M 54 r7) 55 r8) 72 r15) (fun rs => rs = .inl (some (.int (k_worthOf (M.1 61) (ix (r7 22)) (k_allLying r15 (ix (r7 22))))), mrow (mrow (mrow M 54 r7) 55 r8) 72 r15)) := by
            have q9 := c_k_worthOf_54 z (d + 1) (mrow (mrow (mrow M 54 r7) 55 r8) 72 r15) (k_allLying r15 (ix (r7 22))) (ix (r7 22)) (by omega) (ixE k28)
            try simp only [mput, mrow_same, mrow_hit, mrow_miss, mrow_sw, idr_eq, ne_eq, Nat.reduceEqDiff, not_false_eq_true, Nat.reduceLT, reduceCtorEq] at q9
            exact q9
          refine G.callV (as := [.int (k_allLying r15 (ix (r7 22)))]) (rest := []) (a := 54) oX12_worthOf lk_EvenFindersModel_388 (by decide +kernel) rfl rfl ⟨rfl, rfl⟩ (Nat.le_of_ble_eq_true rfl) rfl ⟨Nat.le_of_ble_eq_true rfl, Nat.le_of_ble_eq_true rfl⟩ t34 (fun v9 N9 h35 => ?_) (fun E9 N9 h35 => by cases h35)
          cases h35
          show G z mX12_told (d + 2) 0 0 128 [some (.ref 54), some (.int x1)] [.int (k_worthOf (M.1 61) (ix (r7 22)) (k_allLying r15 (ix (r7 22))))] (mrow (mrow (mrow M 54 r7) 55 r8) 72 r15) Q
          refine G.sl [(.goto 35, 3, 163, 0, 0, 0)] [] (pc2 := 163) (ls2 := [some (.ref 54), some (.int x1)]) (st2 := [.int (k_worthOf (M.1 61) (ix (r7 22)) (k_allLying r15 (ix (r7 22))))]) (M2 := mrow (mrow (mrow M 54 r7) 55 r8) 72 r15) (Ps := []) (by decide +kernel) rfl rfl trivial ?_
          exact G.reti (by decide +kernel) rfl rfl (Nat.le_of_ble_eq_true rfl) (Nat.le_of_ble_eq_true rfl) ((by rw [hQ]; simp only [k_told, g5, if_neg c11, g13, if_pos c18, if_pos c19, if_pos c20, mrow_self]))
      · skip
        rw [if_neg c19] at hk
        refine G.sl [(.iload_n 1, 1, 1, 0, 0, 0), (.iconst 4, 1, 0, 0, 0, nI 4)] [] (pc2 := 80) (ls2 := [some (.ref 54), some (.int x1)]) (st2 := [.int (nI 4), .int x1]) (M2 := mrow (mrow (mrow M 54 r7) 55 r8) 72 r15) (Ps := []) (by decide +kernel) rfl rfl trivial ?_
        refine G.ic_ne (off := (13)) (tgt := 93) (by decide +kernel) rfl (fun c36 => ?_) (fun c36 => ?_)
        · skip
          rw [if_neg c36] at hk
          refine G.sl [(.iload_n 1, 1, 1, 0, 0, 0), (.iconst 5, 1, 0, 0, 0, nI 5)] [] (pc2 := 95) (ls2 := [some (.ref 54), some (.int x1)]) (st2 := [.int (nI 5), .int x1]) (M2 := mrow (mrow (mrow M 54 r7) 55 r8) 72 r15) (Ps := []) (by decide +kernel) rfl rfl trivial ?_
          refine G.ic_ne (off := (10)) (tgt := 105) (by decide +kernel) rfl (fun c37 => ?_) (fun c37 => ?_)
          · skip
            rw [if_neg c37] at hk
            refine G.sl [(.aload_n 0, 1, 0, 0, 0, 0), (.iload_n 1, 1, 1, 0, 0, 0), (.bipush 6, 2, 0, 0, 0, nI 6), (.isub, 1, 0, 0, 0, 0)] [] (pc2 := 110) (ls2 := [some (.ref 54), some (.int x1)]) (st2 := [.int (x1 - (nI 6)), .ref 54]) (M2 := mrow (mrow (mrow M 54 r7) 55 r8) 72 r15) (Ps := []) (by decide +kernel) rfl rfl trivial ?_
            obtain ⟨k38, k39, hk⟩ := hk
            have t41 : GM z mX12_owing (d + 1) [.ref 54, .int (x1 - (nI 6))] (mrow (mrow (mrow M 54 r7) 55 r8) 72 r15) (fun rs => rs = .inl (some (.int (k_owing r15 (ix (r7 23)) (x1 - (nI 6)))), mrow (mrow (mrow M 54 r7) 55 r8) 72 r15)) := by
              have q9 := c_k_owing_54 z (d + 1) (mrow (mrow (mrow M 54 r7) 55 r8) 72 r15) (x1 - (nI 6)) (ix (r7 23)) k39 (ixE k38)
              try simp only [mput, mrow_same, mrow_hit, mrow_miss, mrow_sw, idr_eq, ne_eq, Nat.reduceEqDiff, not_false_eq_true, Nat.reduceLT, reduceCtorEq] at q9
              exact q9
            refine G.callV (as := [.int (x1 - (nI 6))]) (rest := []) (a := 54) oX12_owing lk_EvenFindersModel_385 (by decide +kernel) rfl rfl ⟨rfl, rfl⟩ (Nat.le_of_ble_eq_true rfl) rfl ⟨Nat.le_of_ble_eq_true rfl, Nat.le_of_ble_eq_true rfl⟩ t41 (fun v9 N9 h42 => ?_) (fun E9 N9 h42 => by cases h42)
            cases h42
            show G z mX12_told (d + 2) 0 0 113 [some (.ref 54), some (.int x1)] [.int (k_owing r15 (ix (r7 23)) (x1 - (nI 6)))] (mrow (mrow (mrow M 54 r7) 55 r8) 72 r15) Q
            exact G.reti (by decide +kernel) rfl rfl (Nat.le_of_ble_eq_true rfl) (Nat.le_of_ble_eq_true rfl) ((by rw [hQ]; simp only [k_told, g5, if_neg c11, g13, if_pos c18, if_neg c19, if_neg c36, if_neg c37, mrow_self]))
          · skip
            rw [if_pos c37] at hk
            refine G.sl [(.aload_n 0, 1, 0, 0, 0, 0)] [] (pc2 := 99) (ls2 := [some (.ref 54), some (.int x1)]) (st2 := [.ref 54]) (M2 := mrow (mrow (mrow M 54 r7) 55 r8) 72 r15) (Ps := []) (by decide +kernel) rfl rfl trivial ?_
            obtain ⟨k43, k44, hk⟩ := hk
            have t46 : GM z mX12_allHeld (d + 1) [.ref 54] (mrow (mrow (mrow M 54 r7) 55 r8) 72 r15) (fun rs => rs = .inl (some (.int (k_allHeld r15 (ix (r7 22)))), mrow (mrow (mrow M 54 r7) 55 r8) 72 r15)) := by
              have q9 := c_k_allHeld_54 z d (mrow (mrow (mrow M 54 r7) 55 r8) 72 r15) (ix (r7 22)) k44 (ixE k43)
              try simp only [mput, mrow_same, mrow_hit, mrow_miss, mrow_sw, idr_eq, ne_eq, Nat.reduceEqDiff, not_false_eq_true, Nat.reduceLT, reduceCtorEq] at q9
              exact q9
            refine G.callV (as := []) (rest := []) (a := 54) oX12_allHeld lk_EvenFindersModel_382 (by decide +kernel) rfl rfl ⟨rfl, rfl⟩ (Nat.le_of_ble_eq_true rfl) rfl ⟨Nat.le_of_ble_eq_true rfl, Nat.le_of_ble_eq_true rfl⟩ t46 (fun v9 N9 h47 => ?_) (fun E9 N9 h47 => by cases h47)
            cases h47
            show G z mX12_told (d + 2) 0 0 102 [some (.ref 54), some (.int x1)] [.int (k_allHeld r15 (ix (r7 22)))] (mrow (mrow (mrow M 54 r7) 55 r8) 72 r15) Q
            refine G.sl [(.goto 11, 3, 113, 0, 0, 0)] [] (pc2 := 113) (ls2 := [some (.ref 54), some (.int x1)]) (st2 := [.int (k_allHeld r15 (ix (r7 22)))]) (M2 := mrow (mrow (mrow M 54 r7) 55 r8) 72 r15) (Ps := []) (by decide +kernel) rfl rfl trivial ?_
            exact G.reti (by decide +kernel) rfl rfl (Nat.le_of_ble_eq_true rfl) (Nat.le_of_ble_eq_true rfl) ((by rw [hQ]; simp only [k_told, g5, if_neg c11, g13, if_pos c18, if_neg c19, if_neg c36, if_pos c37, mrow_self]))
        · skip
          rw [if_pos c36] at hk
          refine G.sl [(.aload_n 0, 1, 0, 0, 0, 0), (.getfield 68, 3, 11, 41, 164, 0), (.bipush 50, 2, 0, 0, 0, nI 50), (.iaload, 1, 0, 0, 0, 0), (.goto 23, 3, 113, 0, 0, 0)] [50] (pc2 := 113) (ls2 := [some (.ref 54), some (.int x1)]) (st2 := [.int (r15 50)]) (M2 := mrow (mrow (mrow M 54 r7) 55 r8) 72 r15) (Ps := [(nI 50) = nI 50 ∧ 50 < 51]) (by decide +kernel) rfl rfl ⟨⟨rfl, (by omega)⟩, trivial⟩ ?_
          exact G.reti (by decide +kernel) rfl rfl (Nat.le_of_ble_eq_true rfl) (Nat.le_of_ble_eq_true rfl) ((by rw [hQ]; simp only [k_told, g5, if_neg c11, g13, if_pos c18, if_neg c19, if_pos c36, mrow_self]))
    · skip
      rw [if_neg c18] at hk
      refine G.sl [(.iload_n 1, 1, 1, 0, 0, 0)] [] (pc2 := 33) (ls2 := [some (.ref 54), some (.int x1)]) (st2 := [.int x1]) (M2 := mrow (mrow (mrow M 54 r7) 55 r8) 72 r15) (Ps := []) (by decide +kernel) rfl rfl trivial ?_
      refine G.if_ne (off := (10)) (tgt := 43) (by decide +kernel) rfl (fun c48 => ?_) (fun c48 => ?_)
      · skip
        refine G.sl [(.iload_n 1, 1, 1, 0, 0, 0), (.iconst 1, 1, 0, 0, 0, nI 1)] [] (pc2 := 45) (ls2 := [some (.ref 54), some (.int x1)]) (st2 := [.int (nI 1), .int x1]) (M2 := mrow (mrow (mrow M 54 r7) 55 r8) 72 r15) (Ps := []) (by decide +kernel) rfl rfl trivial ?_
        refine G.ic_ne (off := (10)) (tgt := 55) (by decide +kernel) rfl (fun c49 => ?_) (fun c49 => ?_)
        · skip
          refine G.sl [(.iload_n 1, 1, 1, 0, 0, 0), (.iconst 2, 1, 0, 0, 0, nI 2)] [] (pc2 := 57) (ls2 := [some (.ref 54), some (.int x1)]) (st2 := [.int (nI 2), .int x1]) (M2 := mrow (mrow (mrow M 54 r7) 55 r8) 72 r15) (Ps := []) (by decide +kernel) rfl rfl trivial ?_
          refine G.ic_ne (off := (10)) (tgt := 67) (by decide +kernel) rfl (fun c50 => ?_) (fun c50 => ?_)
          · skip
            refine G.sl [(.aload_n 0, 1, 0, 0, 0, 0), (.getfield 165, 3, 11, 23, 146, 0)] [] (pc2 := 71) (ls2 := [some (.ref 54), some (.int x1)]) (st2 := [.int (r7 23)]) (M2 := mrow (mrow (mrow M 54 r7) 55 r8) 72 r15) (Ps := []) (by decide +kernel) rfl rfl trivial ?_
            exact G.reti (by decide +kernel) rfl rfl (Nat.le_of_ble_eq_true rfl) (Nat.le_of_ble_eq_true rfl) ((by rw [hQ]; simp only [k_told, g5, if_neg c11, g13, if_neg c18, if_neg c48, if_neg c49, if_neg c50, mrow_self]))
          · skip
            refine G.sl [(.aload_n 0, 1, 0, 0, 0, 0), (.getfield 162, 3, 11, 22, 145, 0), (.goto 7, 3, 71, 0, 0, 0)] [] (pc2 := 71) (ls2 := [some (.ref 54), some (.int x1)]) (st2 := [.int (r7 22)]) (M2 := mrow (mrow (mrow M 54 r7) 55 r8) 72 r15) (Ps := []) (by decide +kernel) rfl rfl trivial ?_
            exact G.reti (by decide +kernel) rfl rfl (Nat.le_of_ble_eq_true rfl) (Nat.le_of_ble_eq_true rfl) ((by rw [hQ]; simp only [k_told, g5, if_neg c11, g13, if_neg c18, if_neg c48, if_neg c49, if_pos c50, mrow_self]))
        · skip
          refine G.sl [(.aload_n 0, 1, 0, 0, 0, 0), (.getfield 159, 3, 11, 21, 144, 0), (.goto 19, 3, 71, 0, 0, 0)] [] (pc2 := 71) (ls2 := [some (.ref 54), some (.int x1)]) (st2 := [.int (r7 21)]) (M2 := mrow (mrow (mrow M 54 r7) 55 r8) 72 r15) (Ps := []) (by decide +kernel) rfl rfl trivial ?_
          exact G.reti (by decide +kernel) rfl rfl (Nat.le_of_ble_eq_true rfl) (Nat.le_of_ble_eq_true rfl) ((by rw [hQ]; simp only [k_told, g5, if_neg c11, g13, if_neg c18, if_neg c48, if_pos c49, mrow_self]))
      · skip
        refine G.sl [(.aload_n 0, 1, 0, 0, 0, 0), (.getfield 156, 3, 11, 20, 143, 0), (.goto 31, 3, 71, 0, 0, 0)] [] (pc2 := 71) (ls2 := [some (.ref 54), some (.int x1)]) (st2 := [.int (r7 20)]) (M2 := mrow (mrow (mrow M 54 r7) 55 r8) 72 r15) (Ps := []) (by decide +kernel) rfl rfl trivial ?_
        exact G.reti (by decide +kernel) rfl rfl (Nat.le_of_ble_eq_true rfl) (Nat.le_of_ble_eq_true rfl) ((by rw [hQ]; simp only [k_told, g5, if_neg c11, g13, if_neg c18, if_pos c48, mrow_self]))
  · skip
    rw [if_pos c11] at hk
    refine G.sl [(.iconst 0, 1, 0, 0, 0, nI 0)] [] (pc2 := 22) (ls2 := [some (.ref 54), some (.int x1)]) (st2 := [.int (nI 0)]) (M2 := mrow (mrow M 54 r7) 55 r8) (Ps := []) (by decide +kernel) rfl rfl trivial ?_
    refine G.mem (M' := mrow (mrow (mrow M 54 r7) 55 r8) 72 (M.1 72)) (((mrow_id (N := mrow (mrow M 54 r7) 55 r8) (c := 72) (f := M.1 72) (by first | rfl | (simp only [mput, mrow_same, mrow_hit, mrow_miss, mrow_sw, idr_eq, ne_eq, Nat.reduceEqDiff, not_false_eq_true, Nat.reduceLT, reduceCtorEq]; done))).symm).trans (by first | rfl | (simp only [mput, mrow_same, mrow_hit, mrow_miss, mrow_sw, idr_eq, ne_eq, Nat.reduceEqDiff, not_false_eq_true, Nat.reduceLT, reduceCtorEq]; done))) ?_
    exact G.reti (by decide +kernel) rfl rfl (Nat.le_of_ble_eq_true rfl) (Nat.le_of_ble_eq_true rfl) ((by rw [hQ]; simp only [k_told, g5, if_pos c11, mrow_self]))
theorem k_may_0_01 (Rmd Rrefused : Nat → Int32) (x1 : Int32) (x2 : Int32) : (k_may_0 Rmd Rrefused x1 x2).1 = 0 ∨ (k_may_0 Rmd Rrefused x1 x2).1 = 1 := by
  unfold k_may_0
  repeat' split
  all_goals first | exact Or.inl rfl | exact Or.inr rfl
set_option maxHeartbeats 4000000 in
set_option maxRecDepth 3000 in
theorem c_k_may_0_54 (z : Zp) (d : Nat) (M : Mem) (x1 : Int32) (x2 : Int32) : GM z mX12_may (d) [.ref 54, .int x1, .int x2, .int (nI 0)] M (fun rs => rs = .inl (some (.int ((k_may_0 (M.1 54) (M.1 55) x1 x2).1)), mrow (mrow M 54 ((k_may_0 (M.1 54) (M.1 55) x1 x2).2.1)) 55 ((k_may_0 (M.1 54) (M.1 55) x1 x2).2.2))) := by
  refine GM.of oX12_may.1 (Nat.le_of_ble_eq_true rfl) ?_
  show G z mX12_may (d) 0 0 0 [some (.ref 54), some (.int x1), some (.int x2), some (.int (nI 0))] [] M _
  obtain ⟨Q, hQ⟩ : ∃ Q : Rs → Prop, Q = (fun rs => rs = .inl (some (.int ((k_may_0 (M.1 54) (M.1 55) x1 x2).1)), mrow (mrow M 54 ((k_may_0 (M.1 54) (M.1 55) x1 x2).2.1)) 55 ((k_may_0 (M.1 54) (M.1 55) x1 x2).2.2))) := ⟨_, rfl⟩
  rw [← hQ]
  refine G.sl [(.iload_n 1, 1, 1, 0, 0, 0)] [] (pc2 := 1) (ls2 := [some (.ref 54), some (.int x1), some (.int x2), some (.int (nI 0))]) (st2 := [.int x1]) (M2 := M) (Ps := []) (by decide +kernel) rfl rfl trivial ?_
  refine G.if_ne (off := (25)) (tgt := 26) (by decide +kernel) rfl (fun c1 => ?_) (fun c1 => ?_)
  · skip
    refine G.sl [(.aload_n 0, 1, 0, 0, 0, 0), (.getfield 3, 3, 11, 0, 123, 0)] [] (pc2 := 30) (ls2 := [some (.ref 54), some (.int x1), some (.int x2), some (.int (nI 0))]) (st2 := [.int (M.1 54 0)]) (M2 := M) (Ps := []) (by decide +kernel) rfl rfl trivial ?_
    refine G.if_ne (off := (7)) (tgt := 37) (by decide +kernel) rfl (fun c2 => ?_) (fun c2 => ?_)
    · skip
      refine G.sl [(.iconst 0, 1, 0, 0, 0, nI 0)] [] (pc2 := 38) (ls2 := [some (.ref 54), some (.int x1), some (.int x2), some (.int (nI 0))]) (st2 := [.int (nI 0)]) (M2 := M) (Ps := []) (by decide +kernel) rfl rfl trivial ?_
      refine G.mem (M' := mrow (mrow M 54 (M.1 54)) 55 (M.1 55)) ((((mrow_id (N := M) (c := 54) (f := M.1 54) (by first | rfl | (simp only [mput, mrow_same, mrow_hit, mrow_miss, mrow_sw, idr_eq, ne_eq, Nat.reduceEqDiff, not_false_eq_true, Nat.reduceLT, reduceCtorEq]; done))).symm).trans (mrow_id (N := mrow M 54 (M.1 54)) (c := 55) (f := M.1 55) (by first | rfl | (simp only [mput, mrow_same, mrow_hit, mrow_miss, mrow_sw, idr_eq, ne_eq, Nat.reduceEqDiff, not_false_eq_true, Nat.reduceLT, reduceCtorEq]; done))).symm).trans (by first | rfl | (simp only [mput, mrow_same, mrow_hit, mrow_miss, mrow_sw, idr_eq, ne_eq, Nat.reduceEqDiff, not_false_eq_true, Nat.reduceLT, reduceCtorEq]; done))) ?_
      exact G.reti (by decide +kernel) rfl rfl (Nat.le_of_ble_eq_true rfl) (Nat.le_of_ble_eq_true rfl) ((by rw [hQ]; simp only [k_may_0, if_neg c1, if_neg c2, mrow_self]))
    · skip
      refine G.sl [(.iconst 1, 1, 0, 0, 0, nI 1), (.goto 4, 3, 38, 0, 0, 0)] [] (pc2 := 38) (ls2 := [some (.ref 54), some (.int x1), some (.int x2), some (.int (nI 0))]) (st2 := [.int (nI 1)]) (M2 := M) (Ps := []) (by decide +kernel) rfl rfl trivial ?_
      refine G.mem (M' := mrow (mrow M 54 (M.1 54)) 55 (M.1 55)) ((((mrow_id (N := M) (c := 54) (f := M.1 54) (by first | rfl | (simp only [mput, mrow_same, mrow_hit, mrow_miss, mrow_sw, idr_eq, ne_eq, Nat.reduceEqDiff, not_false_eq_true, Nat.reduceLT, reduceCtorEq]; done))).symm).trans (mrow_id (N := mrow M 54 (M.1 54)) (c := 55) (f := M.1 55) (by first | rfl | (simp only [mput, mrow_same, mrow_hit, mrow_miss, mrow_sw, idr_eq, ne_eq, Nat.reduceEqDiff, not_false_eq_true, Nat.reduceLT, reduceCtorEq]; done))).symm).trans (by first | rfl | (simp only [mput, mrow_same, mrow_hit, mrow_miss, mrow_sw, idr_eq, ne_eq, Nat.reduceEqDiff, not_false_eq_true, Nat.reduceLT, reduceCtorEq]; done))) ?_
      exact G.reti (by decide +kernel) rfl rfl (Nat.le_of_ble_eq_true rfl) (Nat.le_of_ble_eq_true rfl) ((by rw [hQ]; simp only [k_may_0, if_neg c1, if_pos c2, mrow_self]))
  · skip
    refine G.sl [(.aload_n 0, 1, 0, 0, 0, 0), (.getfield 3, 3, 11, 0, 123, 0)] [] (pc2 := 8) (ls2 := [some (.ref 54), some (.int x1), some (.int x2), some (.int (nI 0))]) (st2 := [.int (M.1 54 0)]) (M2 := M) (Ps := []) (by decide +kernel) rfl rfl trivial ?_
    refine G.if_ne (off := (18)) (tgt := 26) (by decide +kernel) rfl (fun c3 => ?_) (fun c3 => ?_)
    · skip
      refine G.sl [(.aload_n 0, 1, 0, 0, 0, 0), (.getfield 3, 3, 11, 0, 123, 0)] [] (pc2 := 30) (ls2 := [some (.ref 54), some (.int x1), some (.int x2), some (.int (nI 0))]) (st2 := [.int (M.1 54 0)]) (M2 := M) (Ps := []) (by decide +kernel) rfl rfl trivial ?_
      refine G.if_ne (off := (7)) (tgt := 37) (by decide +kernel) rfl (fun _ => ?_) (fun h9 => absurd h9 c3)
      refine G.sl [(.iconst 0, 1, 0, 0, 0, nI 0)] [] (pc2 := 38) (ls2 := [some (.ref 54), some (.int x1), some (.int x2), some (.int (nI 0))]) (st2 := [.int (nI 0)]) (M2 := M) (Ps := []) (by decide +kernel) rfl rfl trivial ?_
      refine G.mem (M' := mrow (mrow M 54 (M.1 54)) 55 (M.1 55)) ((((mrow_id (N := M) (c := 54) (f := M.1 54) (by first | rfl | (simp only [mput, mrow_same, mrow_hit, mrow_miss, mrow_sw, idr_eq, ne_eq, Nat.reduceEqDiff, not_false_eq_true, Nat.reduceLT, reduceCtorEq]; done))).symm).trans (mrow_id (N := mrow M 54 (M.1 54)) (c := 55) (f := M.1 55) (by first | rfl | (simp only [mput, mrow_same, mrow_hit, mrow_miss, mrow_sw, idr_eq, ne_eq, Nat.reduceEqDiff, not_false_eq_true, Nat.reduceLT, reduceCtorEq]; done))).symm).trans (by first | rfl | (simp only [mput, mrow_same, mrow_hit, mrow_miss, mrow_sw, idr_eq, ne_eq, Nat.reduceEqDiff, not_false_eq_true, Nat.reduceLT, reduceCtorEq]; done))) ?_
      exact G.reti (by decide +kernel) rfl rfl (Nat.le_of_ble_eq_true rfl) (Nat.le_of_ble_eq_true rfl) ((by rw [hQ]; simp only [k_may_0, if_pos c1, if_neg c3, mrow_self]))
    · skip
      refine G.sl [(.aload_n 0, 1, 0, 0, 0, 0), (.iload_n 2, 1, 2, 0, 0, 0), (.putfield 3, 3, 11, 0, 123, 0), (.aload_n 0, 1, 0, 0, 0, 0), (.getfield 7, 3, 11, 1, 124, 0), (.iload_n 3, 1, 3, 0, 0, 0), (.dup2, 1, 0, 0, 0, 0), (.iaload, 1, 0, 0, 0, 0), (.iconst 1, 1, 0, 0, 0, nI 1), (.iadd, 1, 0, 0, 0, 0), (.iastore, 1, 0, 0, 0, 0), (.aload_n 0, 1, 0, 0, 0, 0), (.getfield 3, 3, 11, 0, 123, 0)] [0, 0] (pc2 := 30) (ls2 := [some (.ref 54), some (.int x1), some (.int x2), some (.int (nI 0))]) (st2 := [.int x2]) (M2 := mput (mput M 54 0 x2) 55 0 ((M.1 55 0) + (nI 1))) (Ps := [(nI 0) = nI 0 ∧ 0 < 2, (nI 0) = nI 0 ∧ 0 < 2]) (by decide +kernel) rfl rfl ⟨⟨rfl, (by omega)⟩, ⟨rfl, (by omega)⟩, trivial⟩ ?_
      refine G.mem (M' := mrow (mrow M 54 (upd (M.1 54) 0 x2)) 55 (upd (M.1 55) 0 ((M.1 55 0) + (nI 1)))) (by first | rfl | (simp only [mput, mrow_same, mrow_hit, mrow_miss, mrow_sw, idr_eq, ne_eq, Nat.reduceEqDiff, not_false_eq_true, Nat.reduceLT, reduceCtorEq]; done)) ?_
      refine G.if_ne (off := (7)) (tgt := 37) (by decide +kernel) rfl (fun c4 => ?_) (fun c4 => ?_)
      · skip
        refine G.sl [(.iconst 0, 1, 0, 0, 0, nI 0)] [] (pc2 := 38) (ls2 := [some (.ref 54), some (.int x1), some (.int x2), some (.int (nI 0))]) (st2 := [.int (nI 0)]) (M2 := mrow (mrow M 54 (upd (M.1 54) 0 x2)) 55 (upd (M.1 55) 0 ((M.1 55 0) + (nI 1)))) (Ps := []) (by decide +kernel) rfl rfl trivial ?_
        exact G.reti (by decide +kernel) rfl rfl (Nat.le_of_ble_eq_true rfl) (Nat.le_of_ble_eq_true rfl) ((by rw [hQ]; simp only [k_may_0, if_pos c1, if_pos c3, if_neg c4, mrow_self]))
      · skip
        refine G.sl [(.iconst 1, 1, 0, 0, 0, nI 1), (.goto 4, 3, 38, 0, 0, 0)] [] (pc2 := 38) (ls2 := [some (.ref 54), some (.int x1), some (.int x2), some (.int (nI 0))]) (st2 := [.int (nI 1)]) (M2 := mrow (mrow M 54 (upd (M.1 54) 0 x2)) 55 (upd (M.1 55) 0 ((M.1 55 0) + (nI 1)))) (Ps := []) (by decide +kernel) rfl rfl trivial ?_
        exact G.reti (by decide +kernel) rfl rfl (Nat.le_of_ble_eq_true rfl) (Nat.le_of_ble_eq_true rfl) ((by rw [hQ]; simp only [k_may_0, if_pos c1, if_pos c3, if_pos c4, mrow_self]))
