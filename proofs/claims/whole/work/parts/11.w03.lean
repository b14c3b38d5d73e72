set_option maxHeartbeats 4000000 in
set_option maxRecDepth 3000 in
theorem c_d_drop_37 (z : Zp) (d : Nat) (M : Mem) (n1 : Nat) (n2 : Nat) (b1 : n1 < 6) (b2 : n2 < 10) : GM z mX1_drop (d) [.ref 37, .int (nI n1), .int (nI n2)] M (fun rs => rs = .inl (none, mrow M 38 ((d_drop (M.1 38) n1 n2).2))) := by
  refine GM.of oX1_drop.1 (Nat.le_of_ble_eq_true rfl) ?_
  show G z mX1_drop (d) 0 0 0 [some (.ref 37), some (.int (nI n1)), some (.int (nI n2))] [] M _
  obtain ⟨Q, hQ⟩ : ∃ Q : Rs → Prop, Q = (fun rs => rs = .inl (none, mrow M 38 ((d_drop (M.1 38) n1 n2).2))) := ⟨_, rfl⟩
  rw [← hQ]
  refine G.sl [(.aload_n 0, 1, 0, 0, 0, 0), (.getfield 9, 3, 1, 0, 73, 0), (.bipush 31, 2, 0, 0, 0, nI 31), (.iload_n 2, 1, 2, 0, 0, 0), (.iadd, 1, 0, 0, 0, 0), (.aload_n 0, 1, 0, 0, 0, 0), (.getfield 9, 3, 1, 0, 73, 0), (.iconst 1, 1, 0, 0, 0, nI 1), (.iload_n 1, 1, 1, 0, 0, 0), (.iadd, 1, 0, 0, 0, 0), (.iaload, 1, 0, 0, 0, 0), (.iastore, 1, 0, 0, 0, 0), (.aload_n 0, 1, 0, 0, 0, 0), (.getfield 9, 3, 1, 0, 73, 0), (.bipush 41, 2, 0, 0, 0, nI 41), (.iload_n 2, 1, 2, 0, 0, 0), (.iadd, 1, 0, 0, 0, 0), (.iconst (-1), 1, 0, 0, 0, (-1)), (.iastore, 1, 0, 0, 0, 0)] [1 + n1, 31 + n2, 41 + n2] (pc2 := 27) (ls2 := [some (.ref 37), some (.int (nI n1)), some (.int (nI n2))]) (st2 := []) (M2 := mput (mput M 38 (31 + n2) (M.1 38 (1 + n1))) 38 (41 + n2) ((-1))) (Ps := [((nI 1) + (nI n1)) = nI (1 + n1) ∧ (1 + n1) < 51, ((nI 31) + (nI n2)) = nI (31 + n2) ∧ (31 + n2) < 51, ((nI 41) + (nI n2)) = nI (41 + n2) ∧ (41 + n2) < 51]) (by decide +kernel) rfl rfl ⟨⟨(nI_add _ _), (by omega)⟩, ⟨(nI_add _ _), (by omega)⟩, ⟨(nI_add _ _), (by omega)⟩, trivial⟩ ?_
  refine G.mem (M' := mrow M 38 (upd (upd (M.1 38) (31 + n2) (M.1 38 (1 + n1))) (41 + n2) ((-1)))) (by first | rfl | (simp only [mput, mrow_same, mrow_hit, mrow_miss, mrow_sw, idr_eq, ne_eq, Nat.reduceEqDiff, not_false_eq_true, Nat.reduceLT, reduceCtorEq]; done)) ?_
  exact G.retv (by decide +kernel) rfl (Nat.le_of_ble_eq_true rfl) (Nat.le_of_ble_eq_true rfl) ((by rw [hQ]; simp only [d_drop, mrow_self]))
theorem d_loses_01 (Rworth Rrow : Nat → Int32) (n1 : Nat) (n2 : Nat) : (d_loses Rworth Rrow n1 n2).1 = 0 ∨ (d_loses Rworth Rrow n1 n2).1 = 1 := by
  unfold d_loses
  repeat' split
  all_goals first | exact Or.inl rfl | exact Or.inr rfl
set_option maxHeartbeats 4000000 in
set_option maxRecDepth 3000 in
theorem c_d_loses_37 (z : Zp) (d : Nat) (M : Mem) (n1 : Nat) (n2 : Nat) (b1 : n1 < 6) (b2 : n2 < 10) : GM z mX1_loses (d + 1) [.ref 37, .int (nI n1), .int (nI n2)] M (fun rs => rs = .inl (some (.int ((d_loses (M.1 7) (M.1 38) n1 n2).1)), mrow M 38 ((d_loses (M.1 7) (M.1 38) n1 n2).2))) := by
  refine GM.of oX1_loses.1 (Nat.le_of_ble_eq_true rfl) ?_
  show G z mX1_loses (d + 1) 0 0 0 [some (.ref 37), some (.int (nI n1)), some (.int (nI n2))] [] M _
  obtain ⟨Q, hQ⟩ : ∃ Q : Rs → Prop, Q = (fun rs => rs = .inl (some (.int ((d_loses (M.1 7) (M.1 38) n1 n2).1)), mrow M 38 ((d_loses (M.1 7) (M.1 38) n1 n2).2))) := ⟨_, rfl⟩
  rw [← hQ]
  refine G.sl [(.aload_n 0, 1, 0, 0, 0, 0), (.getfield 9, 3, 1, 0, 73, 0), (.bipush 41, 2, 0, 0, 0, nI 41), (.iload_n 2, 1, 2, 0, 0, 0), (.iadd, 1, 0, 0, 0, 0), (.iaload, 1, 0, 0, 0, 0), (.iload_n 1, 1, 1, 0, 0, 0)] [41 + n2] (pc2 := 10) (ls2 := [some (.ref 37), some (.int (nI n1)), some (.int (nI n2))]) (st2 := [.int (nI n1), .int (M.1 38 (41 + n2))]) (M2 := M) (Ps := [((nI 41) + (nI n2)) = nI (41 + n2) ∧ (41 + n2) < 51]) (by decide +kernel) rfl rfl ⟨⟨(nI_add _ _), (by omega)⟩, trivial⟩ ?_
  refine G.ic_ne (off := (15)) (tgt := 25) (by decide +kernel) rfl (fun c1 => ?_) (fun c1 => ?_)
  · skip
    refine G.sl [(.iconst 0, 1, 0, 0, 0, nI 0)] [] (pc2 := 26) (ls2 := [some (.ref 37), some (.int (nI n1)), some (.int (nI n2))]) (st2 := [.int (nI 0)]) (M2 := M) (Ps := []) (by decide +kernel) rfl rfl trivial ?_
    refine G.mem (M' := mrow M 38 (M.1 38)) (((mrow_id (N := M) (c := 38) (f := M.1 38) (by first | rfl | (simp only [mput, mrow_same, mrow_hit, mrow_miss, mrow_sw, idr_eq, ne_eq, Nat.reduceEqDiff, not_false_eq_true, Nat.reduceLT, reduceCtorEq]; done))).symm).trans (by first | rfl | (simp only [mput, mrow_same, mrow_hit, mrow_miss, mrow_sw, idr_eq, ne_eq, Nat.reduceEqDiff, not_false_eq_true, Nat.reduceLT, reduceCtorEq]; done))) ?_
    exact G.reti (by decide +kernel) rfl rfl (Nat.le_of_ble_eq_true rfl) (Nat.le_of_ble_eq_true rfl) ((by rw [hQ]; simp only [d_loses, if_neg c1, mrow_self]))
  · skip
    refine G.sl [(.aload_n 0, 1, 0, 0, 0, 0), (.getfield 9, 3, 1, 0, 73, 0), (.bipush 7, 2, 0, 0, 0, nI 7), (.iload_n 1, 1, 1, 0, 0, 0), (.iadd, 1, 0, 0, 0, 0), (.iaload, 1, 0, 0, 0, 0)] [7 + n1] (pc2 := 22) (ls2 := [some (.ref 37), some (.int (nI n1)), some (.int (nI n2))]) (st2 := [.int (M.1 38 (7 + n1))]) (M2 := M) (Ps := [((nI 7) + (nI n1)) = nI (7 + n1) ∧ (7 + n1) < 51]) (by decide +kernel) rfl rfl ⟨⟨(nI_add _ _), (by omega)⟩, trivial⟩ ?_
    refine G.if_gt (off := (5)) (tgt := 27) (by decide +kernel) rfl (fun c2 => ?_) (fun c2 => ?_)
    · skip
      refine G.sl [(.aload_n 0, 1, 0, 0, 0, 0), (.getfield 9, 3, 1, 0, 73, 0), (.bipush 7, 2, 0, 0, 0, nI 7), (.iload_n 1, 1, 1, 0, 0, 0), (.iadd, 1, 0, 0, 0, 0), (.iconst 0, 1, 0, 0, 0, nI 0), (.aload_n 0, 1, 0, 0, 0, 0), (.getfield 9, 3, 1, 0, 73, 0), (.bipush 7, 2, 0, 0, 0, nI 7), (.iload_n 1, 1, 1, 0, 0, 0), (.iadd, 1, 0, 0, 0, 0), (.iaload, 1, 0, 0, 0, 0), (.aload_n 0, 1, 0, 0, 0, 0), (.getfield 18, 3, 1, 2, 79, 0), (.getfield 63, 3, 6, 7, 44, 0), (.iload_n 2, 1, 2, 0, 0, 0), (.iaload, 1, 0, 0, 0, 0), (.isub, 1, 0, 0, 0, 0)] [7 + n1, n2] (pc2 := 55) (ls2 := [some (.ref 37), some (.int (nI n1)), some (.int (nI n2))]) (st2 := [.int ((M.1 38 (7 + n1)) - (M.1 7 n2)), .int (nI 0), .int ((nI 7) + (nI n1)), .ref 38]) (M2 := M) (Ps := [((nI 7) + (nI n1)) = nI (7 + n1) ∧ (7 + n1) < 51, (nI n2) = nI n2 ∧ n2 < 10]) (by decide +kernel) rfl rfl ⟨⟨(nI_add _ _), (by omega)⟩, ⟨rfl, (by omega)⟩, trivial⟩ ?_
      refine G.mmax lm_EvenFinders_Days_66 (by decide +kernel) (Nat.le_of_ble_eq_true rfl) (Nat.le_of_ble_eq_true rfl) (Nat.le_of_ble_eq_true rfl) ?_
      refine G.sl [(.iastore, 1, 0, 0, 0, 0), (.aload_n 0, 1, 0, 0, 0, 0), (.iload_n 1, 1, 1, 0, 0, 0), (.iload_n 2, 1, 2, 0, 0, 0)] [7 + n1] (pc2 := 62) (ls2 := [some (.ref 37), some (.int (nI n1)), some (.int (nI n2))]) (st2 := [.int (nI n2), .int (nI n1), .ref 37]) (M2 := mput M 38 (7 + n1) (if (nI 0) < ((M.1 38 (7 + n1)) - (M.1 7 n2)) then ((M.1 38 (7 + n1)) - (M.1 7 n2)) else (nI 0))) (Ps := [((nI 7) + (nI n1)) = nI (7 + n1) ∧ (7 + n1) < 51]) (by decide +kernel) rfl rfl ⟨⟨(nI_add _ _), (by omega)⟩, trivial⟩ ?_
      refine G.mem (M' := mrow M 38 (upd (M.1 38) (7 + n1) (if (nI 0) < ((M.1 38 (7 + n1)) - (M.1 7 n2)) then ((M.1 38 (7 + n1)) - (M.1 7 n2)) else (nI 0)))) (by first | rfl | (simp only [mput, mrow_same, mrow_hit, mrow_miss, mrow_sw, idr_eq, ne_eq, Nat.reduceEqDiff, not_false_eq_true, Nat.reduceLT, reduceCtorEq]; done)) ?_
      rcases g4 : d_drop (upd (M.1 38) (7 + n1) (if (nI 0) < ((M.1 38 (7 + n1)) - (M.1 7 n2)) then ((M.1 38 (7 + n1)) - (M.1 7 n2)) else (nI 0))) n1 n2 with ⟨u5, r6⟩
      have t7 : GM z mX1_drop (d) [.ref 37, .int (nI n1), .int (nI n2)] (mrow M 38 (upd (M.1 38) (7 + n1) (if (nI 0) < ((M.1 38 (7 + n1)) - (M.1 7 n2)) then ((M.1 38 (7 + n1)) - (M.1 7 n2)) else (nI 0)))) (fun rs => rs = .inl (none, mrow M 38 r6)) := by
        have q9 := c_d_drop_37 z d (mrow M 38 (upd (M.1 38) (7 + n1) (if (nI 0) < ((M.1 38 (7 + n1)) - (M.1 7 n2)) then ((M.1 38 (7 + n1)) - (M.1 7 n2)) else (nI 0)))) n1 n2 (by omega) (by omega)
        try simp only [mput, mrow_same, mrow_hit, mrow_miss, mrow_sw, idr_eq, ne_eq, Nat.reduceEqDiff, not_false_eq_true, Nat.reduceLT, reduceCtorEq, g4] at q9
        exact q9
      refine G.callV (as := [.int (nI n1), .int (nI n2)]) (rest := []) (a := 37) oX1_drop lk_EvenFinders_Days_71 (by decide +kernel) rfl rfl ⟨rfl, rfl⟩ (Nat.le_of_ble_eq_true rfl) rfl ⟨Nat.le_of_ble_eq_true rfl, Nat.le_of_ble_eq_true rfl⟩ t7 (fun v9 N9 h8 => ?_) (fun E9 N9 h8 => by cases h8)
      cases h8
      show G z mX1_loses (d + 1) 0 0 65 [some (.ref 37), some (.int (nI n1)), some (.int (nI n2))] [] (mrow M 38 r6) Q
      refine G.sl [(.iconst 1, 1, 0, 0, 0, nI 1)] [] (pc2 := 66) (ls2 := [some (.ref 37), some (.int (nI n1)), some (.int (nI n2))]) (st2 := [.int (nI 1)]) (M2 := mrow M 38 r6) (Ps := []) (by decide +kernel) rfl rfl trivial ?_
      exact G.reti (by decide +kernel) rfl rfl (Nat.le_of_ble_eq_true rfl) (Nat.le_of_ble_eq_true rfl) ((by rw [hQ]; simp only [d_loses, if_pos c1, if_pos c2, g4, mrow_self]))
    · skip
      refine G.sl [(.iconst 0, 1, 0, 0, 0, nI 0)] [] (pc2 := 26) (ls2 := [some (.ref 37), some (.int (nI n1)), some (.int (nI n2))]) (st2 := [.int (nI 0)]) (M2 := M) (Ps := []) (by decide +kernel) rfl rfl trivial ?_
      refine G.mem (M' := mrow M 38 (M.1 38)) (((mrow_id (N := M) (c := 38) (f := M.1 38) (by first | rfl | (simp only [mput, mrow_same, mrow_hit, mrow_miss, mrow_sw, idr_eq, ne_eq, Nat.reduceEqDiff, not_false_eq_true, Nat.reduceLT, reduceCtorEq]; done))).symm).trans (by first | rfl | (simp only [mput, mrow_same, mrow_hit, mrow_miss, mrow_sw, idr_eq, ne_eq, Nat.reduceEqDiff, not_false_eq_true, Nat.reduceLT, reduceCtorEq]; done))) ?_
      exact G.reti (by decide +kernel) rfl rfl (Nat.le_of_ble_eq_true rfl) (Nat.le_of_ble_eq_true rfl) ((by rw [hQ]; simp only [d_loses, if_pos c1, if_neg c2, mrow_self]))
theorem d_slips_01 (Rworth Rrow : Nat → Int32) (n1 : Nat) (n2 : Nat) : (d_slips Rworth Rrow n1 n2).1 = 0 ∨ (d_slips Rworth Rrow n1 n2).1 = 1 := by
  unfold d_slips
  repeat' split
  all_goals first | exact Or.inl rfl | exact Or.inr rfl
set_option maxHeartbeats 4000000 in
set_option maxRecDepth 3000 in
theorem c_d_slips_37 (z : Zp) (d : Nat) (M : Mem) (n1 : Nat) (n2 : Nat) (b1 : n1 < 6) (b2 : n2 < 10) : GM z mX1_slips (d + 1) [.ref 37, .int (nI n1), .int (nI n2)] M (fun rs => rs = .inl (some (.int ((d_slips (M.1 7) (M.1 38) n1 n2).1)), mrow M 38 ((d_slips (M.1 7) (M.1 38) n1 n2).2))) := by
  refine GM.of oX1_slips.1 (Nat.le_of_ble_eq_true rfl) ?_
  show G z mX1_slips (d + 1) 0 0 0 [some (.ref 37), some (.int (nI n1)), some (.int (nI n2))] [] M _
  obtain ⟨Q, hQ⟩ : ∃ Q : Rs → Prop, Q = (fun rs => rs = .inl (some (.int ((d_slips (M.1 7) (M.1 38) n1 n2).1)), mrow M 38 ((d_slips (M.1 7) (M.1 38) n1 n2).2))) := ⟨_, rfl⟩
  rw [← hQ]
  refine G.sl [(.aload_n 0, 1, 0, 0, 0, 0), (.getfield 9, 3, 1, 0, 73, 0), (.bipush 41, 2, 0, 0, 0, nI 41), (.iload_n 2, 1, 2, 0, 0, 0), (.iadd, 1, 0, 0, 0, 0), (.iaload, 1, 0, 0, 0, 0), (.iload_n 1, 1, 1, 0, 0, 0)] [41 + n2] (pc2 := 10) (ls2 := [some (.ref 37), some (.int (nI n1)), some (.int (nI n2))]) (st2 := [.int (nI n1), .int (M.1 38 (41 + n2))]) (M2 := M) (Ps := [((nI 41) + (nI n2)) = nI (41 + n2) ∧ (41 + n2) < 51]) (by decide +kernel) rfl rfl ⟨⟨(nI_add _ _), (by omega)⟩, trivial⟩ ?_
  refine G.ic_eq (off := (5)) (tgt := 15) (by decide +kernel) rfl (fun c1 => ?_) (fun c1 => ?_)
  · skip
    refine G.sl [(.aload_n 0, 1, 0, 0, 0, 0), (.getfield 9, 3, 1, 0, 73, 0), (.bipush 7, 2, 0, 0, 0, nI 7), (.iload_n 1, 1, 1, 0, 0, 0), (.iadd, 1, 0, 0, 0, 0), (.bipush (-99), 2, 0, 0, 0, (-99)), (.aload_n 0, 1, 0, 0, 0, 0), (.getfield 9, 3, 1, 0, 73, 0), (.bipush 7, 2, 0, 0, 0, nI 7), (.iload_n 1, 1, 1, 0, 0, 0), (.iadd, 1, 0, 0, 0, 0), (.iaload, 1, 0, 0, 0, 0), (.aload_n 0, 1, 0, 0, 0, 0), (.getfield 18, 3, 1, 2, 79, 0), (.getfield 63, 3, 6, 7, 44, 0), (.iload_n 2, 1, 2, 0, 0, 0), (.iaload, 1, 0, 0, 0, 0), (.isub, 1, 0, 0, 0, 0)] [7 + n1, n2] (pc2 := 44) (ls2 := [some (.ref 37), some (.int (nI n1)), some (.int (nI n2))]) (st2 := [.int ((M.1 38 (7 + n1)) - (M.1 7 n2)), .int ((-99)), .int ((nI 7) + (nI n1)), .ref 38]) (M2 := M) (Ps := [((nI 7) + (nI n1)) = nI (7 + n1) ∧ (7 + n1) < 51, (nI n2) = nI n2 ∧ n2 < 10]) (by decide +kernel) rfl rfl ⟨⟨(nI_add _ _), (by omega)⟩, ⟨rfl, (by omega)⟩, trivial⟩ ?_
    refine G.mmax lm_EvenFinders_Days_66 (by decide +kernel) (Nat.le_of_ble_eq_true rfl) (Nat.le_of_ble_eq_true rfl) (Nat.le_of_ble_eq_true rfl) ?_
    refine G.sl [(.iastore, 1, 0, 0, 0, 0), (.aload_n 0, 1, 0, 0, 0, 0), (.iload_n 1, 1, 1, 0, 0, 0), (.iload_n 2, 1, 2, 0, 0, 0)] [7 + n1] (pc2 := 51) (ls2 := [some (.ref 37), some (.int (nI n1)), some (.int (nI n2))]) (st2 := [.int (nI n2), .int (nI n1), .ref 37]) (M2 := mput M 38 (7 + n1) (if ((-99)) < ((M.1 38 (7 + n1)) - (M.1 7 n2)) then ((M.1 38 (7 + n1)) - (M.1 7 n2)) else ((-99)))) (Ps := [((nI 7) + (nI n1)) = nI (7 + n1) ∧ (7 + n1) < 51]) (by decide +kernel) rfl rfl ⟨⟨(nI_add _ _), (by omega)⟩, trivial⟩ ?_
    refine G.mem (M' := mrow M 38 (upd (M.1 38) (7 + n1) (if ((-99)) < ((M.1 38 (7 + n1)) - (M.1 7 n2)) then ((M.1 38 (7 + n1)) - (M.1 7 n2)) else ((-99))))) (by first | rfl | (simp only [mput, mrow_same, mrow_hit, mrow_miss, mrow_sw, idr_eq, ne_eq, Nat.reduceEqDiff, not_false_eq_true, Nat.reduceLT, reduceCtorEq]; done)) ?_
    rcases g3 : d_drop (upd (M.1 38) (7 + n1) (if ((-99)) < ((M.1 38 (7 + n1)) - (M.1 7 n2)) then ((M.1 38 (7 + n1)) - (M.1 7 n2)) else ((-99)))) n1 n2 with ⟨u4, r5⟩
    have t6 : GM z mX1_drop (d) [.ref 37, .int (nI n1), .int (nI n2)] (mrow M 38 (upd (M.1 38) (7 + n1) (if ((-99)) < ((M.1 38 (7 + n1)) - (M.1 7 n2)) then ((M.1 38 (7 + n1)) - (M.1 7 n2)) else ((-99))))) (fun rs => rs = .inl (none, mrow M 38 r5)) := by
      have q9 := c_d_drop_37 z d (mrow M 38 (upd (M.1 38) (7 + n1) (if ((-99)) < ((M.1 38 (7 + n1)) - (M.1 7 n2)) then ((M.1 38 (7 + n1)) - (M.1 7 n2)) else ((-99))))) n1 n2 (by omega) (by omega)
      try simp only [mput, mrow_same, mrow_hit, mrow_miss, mrow_sw, idr_eq, ne_eq, Nat.reduceEqDiff, not_false_eq_true, Nat.reduceLT, reduceCtorEq, g3] at q9
      exact q9
    refine G.callV (as := [.int (nI n1), .int (nI n2)]) (rest := []) (a := 37) oX1_drop lk_EvenFinders_Days_71 (by decide +kernel) rfl rfl ⟨rfl, rfl⟩ (Nat.le_of_ble_eq_true rfl) rfl ⟨Nat.le_of_ble_eq_true rfl, Nat.le_of_ble_eq_true rfl⟩ t6 (fun v9 N9 h7 => ?_) (fun E9 N9 h7 => by cases h7)
    cases h7
    show G z mX1_slips (d + 1) 0 0 54 [some (.ref 37), some (.int (nI n1)), some (.int (nI n2))] [] (mrow M 38 r5) Q
    refine G.sl [(.iconst 1, 1, 0, 0, 0, nI 1)] [] (pc2 := 55) (ls2 := [some (.ref 37), some (.int (nI n1)), some (.int (nI n2))]) (st2 := [.int (nI 1)]) (M2 := mrow M 38 r5) (Ps := []) (by decide +kernel) rfl rfl trivial ?_
    exact G.reti (by decide +kernel) rfl rfl (Nat.le_of_ble_eq_true rfl) (Nat.le_of_ble_eq_true rfl) ((by rw [hQ]; simp only [d_slips, if_pos c1, g3, mrow_self]))
  · skip
    refine G.sl [(.iconst 0, 1, 0, 0, 0, nI 0)] [] (pc2 := 14) (ls2 := [some (.ref 37), some (.int (nI n1)), some (.int (nI n2))]) (st2 := [.int (nI 0)]) (M2 := M) (Ps := []) (by decide +kernel) rfl rfl trivial ?_
    refine G.mem (M' := mrow M 38 (M.1 38)) (((mrow_id (N := M) (c := 38) (f := M.1 38) (by first | rfl | (simp only [mput, mrow_same, mrow_hit, mrow_miss, mrow_sw, idr_eq, ne_eq, Nat.reduceEqDiff, not_false_eq_true, Nat.reduceLT, reduceCtorEq]; done))).symm).trans (by first | rfl | (simp only [mput, mrow_same, mrow_hit, mrow_miss, mrow_sw, idr_eq, ne_eq, Nat.reduceEqDiff, not_false_eq_true, Nat.reduceLT, reduceCtorEq]; done))) ?_
    exact G.reti (by decide +kernel) rfl rfl (Nat.le_of_ble_eq_true rfl) (Nat.le_of_ble_eq_true rfl) ((by rw [hQ]; simp only [d_slips, if_neg c1, mrow_self]))
set_option maxHeartbeats 4000000 in
set_option maxRecDepth 3000 in
theorem lp_d_leastHeld_37_4 (z : Zp) (d : Nat) (M : Mem) (Q : Rs → Prop) (x1 : Int32) (nt : Nat) (hnt : nt ≤ 10) (ht : M.1 3 2 = nI nt) (hk : ∀ i3, i3 < nt → d_leastHeld_4_ok (M.1 7) (M.1 38) x1 i3) (hX : G z mX1_leastHeld (d) 0 0 62 [none, none, some (.int (d_leastHeld_4 (M.1 7) (M.1 38) x1 nt)), none] [] M Q) : G z mX1_leastHeld (d) 0 0 4 [some (.ref 37), some (.int x1), some (.int ((-1))), some (.int (nI 0))] [] M Q := by
  refine down (n := nt) (P := fun i3 => G z mX1_leastHeld (d) 0 0 4 [some (.ref 37), some (.int x1), some (.int (d_leastHeld_4 (M.1 7) (M.1 38) x1 i3)), some (.int (nI i3))] [] M Q) ?_ ?_ 0 (Nat.zero_le _)
  · skip
    refine G.sl [(.iload_n 3, 1, 3, 0, 0, 0), (.aload_n 0, 1, 0, 0, 0, 0), (.getfield 18, 3, 1, 2, 79, 0), (.getfield 86, 3, 6, 2, 28, 0)] [] (pc2 := 12) (ls2 := [some (.ref 37), some (.int x1), some (.int (d_leastHeld_4 (M.1 7) (M.1 38) x1 nt)), some (.int (nI nt))]) (st2 := [.int (M.1 3 2), .int (nI nt)]) (M2 := M) (Ps := []) (by decide +kernel) rfl rfl trivial ?_
    rw [ht]
    refine G.ic_ge (off := (50)) (tgt := 62) (by decide +kernel) rfl (fun _ => ?_) (fun h9 => absurd (nI_le (by omega) (by omega)) h9)
    refine G.loc (ls2 := [none, none, some (.int (d_leastHeld_4 (M.1 7) (M.1 38) x1 nt)), none]) (by simp [subL]) ?_
    exact hX
  · skip
    intro i3 hi ih
    have hk := hk i3 hi
    simp only [d_leastHeld_4_ok] at hk
    show G z mX1_leastHeld (d) 0 0 4 [some (.ref 37), some (.int x1), some (.int (d_leastHeld_4 (M.1 7) (M.1 38) x1 i3)), some (.int (nI i3))] [] M Q
    refine G.sl [(.iload_n 3, 1, 3, 0, 0, 0), (.aload_n 0, 1, 0, 0, 0, 0), (.getfield 18, 3, 1, 2, 79, 0), (.getfield 86, 3, 6, 2, 28, 0)] [] (pc2 := 12) (ls2 := [some (.ref 37), some (.int x1), some (.int (d_leastHeld_4 (M.1 7) (M.1 38) x1 i3)), some (.int (nI i3))]) (st2 := [.int (M.1 3 2), .int (nI i3)]) (M2 := M) (Ps := []) (by decide +kernel) rfl rfl trivial ?_
    rw [ht]
    refine G.ic_ge (off := (50)) (tgt := 62) (by decide +kernel) rfl (fun h9 => absurd h9 (nI_ge (by omega) (by omega))) (fun _ => ?_)
    refine G.sl [(.aload_n 0, 1, 0, 0, 0, 0), (.getfield 9, 3, 1, 0, 73, 0), (.bipush 41, 2, 0, 0, 0, nI 41), (.iload_n 3, 1, 3, 0, 0, 0), (.iadd, 1, 0, 0, 0, 0), (.iaload, 1, 0, 0, 0, 0), (.iload_n 1, 1, 1, 0, 0, 0)] [41 + i3] (pc2 := 25) (ls2 := [some (.ref 37), some (.int x1), some (.int (d_leastHeld_4 (M.1 7) (M.1 38) x1 i3)), some (.int (nI i3))]) (st2 := [.int x1, .int (M.1 38 (41 + i3))]) (M2 := M) (Ps := [((nI 41) + (nI i3)) = nI (41 + i3) ∧ (41 + i3) < 51]) (by decide +kernel) rfl rfl ⟨⟨(nI_add _ _), (by omega)⟩, trivial⟩ ?_
    refine G.ic_ne (off := (31)) (tgt := 56) (by decide +kernel) rfl (fun c1 => ?_) (fun c1 => ?_)
    · skip
      rw [if_neg c1] at hk
      refine G.sl [(.iinc 3 1, 3, 3, 0, 0, nI 1), (.goto (-55), 3, 4, 0, 0, 0)] [] (pc2 := 4) (ls2 := [some (.ref 37), some (.int x1), some (.int (d_leastHeld_4 (M.1 7) (M.1 38) x1 i3)), some (.int ((nI i3) + nI 1))]) (st2 := []) (M2 := M) (Ps := []) (by decide +kernel) rfl rfl trivial ?_
      rw [nI_add i3 1]
      simp only [d_leastHeld_4, if_neg c1] at ih
      exact ih
    · skip
      rw [if_pos c1] at hk
      refine G.sl [(.iload_n 2, 1, 2, 0, 0, 0), (.iconst (-1), 1, 0, 0, 0, (-1))] [] (pc2 := 30) (ls2 := [some (.ref 37), some (.int x1), some (.int (d_leastHeld_4 (M.1 7) (M.1 38) x1 i3)), some (.int (nI i3))]) (st2 := [.int ((-1)), .int (d_leastHeld_4 (M.1 7) (M.1 38) x1 i3)]) (M2 := M) (Ps := []) (by decide +kernel) rfl rfl trivial ?_
      refine G.ic_eq (off := (24)) (tgt := 54) (by decide +kernel) rfl (fun c2 => ?_) (fun c2 => ?_)
      · skip
        rw [if_pos c2] at hk
        refine G.sl [(.iload_n 3, 1, 3, 0, 0, 0), (.istore_n 2, 1, 2, 0, 0, 0), (.iinc 3 1, 3, 3, 0, 0, nI 1), (.goto (-55), 3, 4, 0, 0, 0)] [] (pc2 := 4) (ls2 := [some (.ref 37), some (.int x1), some (.int (nI i3)), some (.int ((nI i3) + nI 1))]) (st2 := []) (M2 := M) (Ps := []) (by decide +kernel) rfl rfl trivial ?_
        rw [nI_add i3 1]
        simp only [d_leastHeld_4, if_pos c1, if_pos c2] at ih
        exact ih
      · skip
        rw [if_neg c2] at hk
        obtain ⟨k3, k4, hk⟩ := hk
        refine G.sl [(.aload_n 0, 1, 0, 0, 0, 0), (.getfield 18, 3, 1, 2, 79, 0), (.getfield 63, 3, 6, 7, 44, 0), (.iload_n 3, 1, 3, 0, 0, 0), (.iaload, 1, 0, 0, 0, 0), (.aload_n 0, 1, 0, 0, 0, 0), (.getfield 18, 3, 1, 2, 79, 0), (.getfield 63, 3, 6, 7, 44, 0), (.iload_n 2, 1, 2, 0, 0, 0), (.iaload, 1, 0, 0, 0, 0)] [i3, ix (d_leastHeld_4 (M.1 7) (M.1 38) x1 i3)] (pc2 := 51) (ls2 := [some (.ref 37), some (.int x1), some (.int (d_leastHeld_4 (M.1 7) (M.1 38) x1 i3)), some (.int (nI i3))]) (st2 := [.int (M.1 7 (ix (d_leastHeld_4 (M.1 7) (M.1 38) x1 i3))), .int (M.1 7 i3)]) (M2 := M) (Ps := [(nI i3) = nI i3 ∧ i3 < 10, (d_leastHeld_4 (M.1 7) (M.1 38) x1 i3) = nI (ix (d_leastHeld_4 (M.1 7) (M.1 38) x1 i3)) ∧ (ix (d_leastHeld_4 (M.1 7) (M.1 38) x1 i3)) < 10]) (by decide +kernel) rfl rfl ⟨⟨rfl, (by omega)⟩, ⟨(ixE k3), k4⟩, trivial⟩ ?_
        refine G.ic_ge (off := (5)) (tgt := 56) (by decide +kernel) rfl (fun c5 => ?_) (fun c5 => ?_)
        · skip
          refine G.sl [(.iinc 3 1, 3, 3, 0, 0, nI 1), (.goto (-55), 3, 4, 0, 0, 0)] [] (pc2 := 4) (ls2 := [some (.ref 37), some (.int x1), some (.int (d_leastHeld_4 (M.1 7) (M.1 38) x1 i3)), some (.int ((nI i3) + nI 1))]) (st2 := []) (M2 := M) (Ps := []) (by decide +kernel) rfl rfl trivial ?_
          rw [nI_add i3 1]
          simp only [d_leastHeld_4, if_pos c1, if_neg c2, if_pos c5] at ih
          exact ih
        · skip
          refine G.sl [(.iload_n 3, 1, 3, 0, 0, 0), (.istore_n 2, 1, 2, 0, 0, 0), (.iinc 3 1, 3, 3, 0, 0, nI 1), (.goto (-55), 3, 4, 0, 0, 0)] [] (pc2 := 4) (ls2 := [some (.ref 37), some (.int x1), some (.int (nI i3)), some (.int ((nI i3) + nI 1))]) (st2 := []) (M2 := M) (Ps := []) (by decide +kernel) rfl rfl trivial ?_
          rw [nI_add i3 1]
          simp only [d_leastHeld_4, if_pos c1, if_neg c2, if_neg c5] at ih
          exact ih
set_option maxHeartbeats 4000000 in
set_option maxRecDepth 3000 in
theorem c_d_leastHeld_37 (z : Zp) (d : Nat) (M : Mem) (x1 : Int32) (nt : Nat) (hnt : nt ≤ 10) (ht : M.1 3 2 = nI nt) (hk : d_leastHeld_ok (M.1 7) (M.1 38) nt x1) : GM z mX1_leastHeld (d) [.ref 37, .int x1] M (fun rs => rs = .inl (some (.int (d_leastHeld (M.1 7) (M.1 38) nt x1)), M)) := by
  simp only [d_leastHeld_ok] at hk
  refine GM.of oX1_leastHeld.1 (Nat.le_of_ble_eq_true rfl) ?_
  show G z mX1_leastHeld (d) 0 0 0 [some (.ref 37), some (.int x1), none, none] [] M _
  obtain ⟨Q, hQ⟩ : ∃ Q : Rs → Prop, Q = (fun rs => rs = .inl (some (.int (d_leastHeld (M.1 7) (M.1 38) nt x1)), M)) := ⟨_, rfl⟩
  rw [← hQ]
  refine G.sl [(.iconst (-1), 1, 0, 0, 0, (-1)), (.istore_n 2, 1, 2, 0, 0, 0), (.iconst 0, 1, 0, 0, 0, nI 0), (.istore_n 3, 1, 3, 0, 0, 0)] [] (pc2 := 4) (ls2 := [some (.ref 37), some (.int x1), some (.int ((-1))), some (.int (nI 0))]) (st2 := []) (M2 := M) (Ps := []) (by decide +kernel) rfl rfl trivial ?_
  obtain ⟨k6, hk⟩ := hk
  refine lp_d_leastHeld_37_4 z d M Q x1 nt hnt ht (by first | (simp only [mput, mrow_same, mrow_hit, mrow_miss, mrow_sw, idr_eq, ne_eq, Nat.reduceEqDiff, not_false_eq_true, Nat.reduceLT, reduceCtorEq]; exact k6) | exact k6) ?_
  show G z mX1_leastHeld (d) 0 0 62 [none, none, some (.int (d_leastHeld_4 (M.1 7) (M.1 38) x1 nt)), none] [] M Q
  refine G.sl [(.iload_n 2, 1, 2, 0, 0, 0)] [] (pc2 := 63) (ls2 := [none, none, some (.int (d_leastHeld_4 (M.1 7) (M.1 38) x1 nt)), none]) (st2 := [.int (d_leastHeld_4 (M.1 7) (M.1 38) x1 nt)]) (M2 := M) (Ps := []) (by decide +kernel) rfl rfl trivial ?_
  exact G.reti (by decide +kernel) rfl rfl (Nat.le_of_ble_eq_true rfl) (Nat.le_of_ble_eq_true rfl) ((by rw [hQ]; simp only [d_leastHeld, mrow_self]))
set_option maxHeartbeats 4000000 in
set_option maxRecDepth 3000 in
theorem lp_d_nightFalls_37_2 (z : Zp) (d : Nat) (M : Mem) (Q : Rs → Prop) (nt : Nat) (hnt : nt ≤ 10) (ht : M.1 3 2 = nI nt) (nf : Nat) (hnf : nf ≤ 6) (hf : M.1 3 3 = nI nf) (hk : ∀ i1, i1 < nf → d_nightFalls_2_ok (M.1 7) (M.1 38) nt i1) (hX : G z mX1_nightFalls (d + 1) 0 0 71 [some (.ref 37), none, none] [] (mrow M 38 (d_nightFalls_2 (M.1 7) (M.1 38) nt nf)) Q) : G z mX1_nightFalls (d + 1) 0 0 2 [some (.ref 37), some (.int (nI 0)), none] [] M Q := by
  refine G.mem (M' := mrow M 38 (M.1 38)) (by simp only [mrow_self]) ?_
  refine down (n := nf) (P := fun i1 => G z mX1_nightFalls (d + 1) 0 0 2 [some (.ref 37), some (.int (nI i1)), none] [] (mrow M 38 (d_nightFalls_2 (M.1 7) (M.1 38) nt i1)) Q) ?_ ?_ 0 (Nat.zero_le _)
  · skip
    refine G.sl [(.iload_n 1, 1, 1, 0, 0, 0), (.aload_n 0, 1, 0, 0, 0, 0), (.getfield 18, 3, 1, 2, 79, 0), (.getfield 78, 3, 6, 3, 34, 0)] [] (pc2 := 10) (ls2 := [some (.ref 37), some (.int (nI nf)), none]) (st2 := [.int (M.1 3 3), .int (nI nf)]) (M2 := mrow M 38 (d_nightFalls_2 (M.1 7) (M.1 38) nt nf)) (Ps := []) (by decide +kernel) rfl rfl trivial ?_
    rw [hf]
    refine G.ic_ge (off := (61)) (tgt := 71) (by decide +kernel) rfl (fun _ => ?_) (fun h9 => absurd (nI_le (by omega) (by omega)) h9)
    refine G.loc (ls2 := [some (.ref 37), none, none]) (by simp [subL]) ?_
    exact hX
  · skip
    intro i1 hi ih
    have hk := hk i1 hi
    simp only [d_nightFalls_2_ok] at hk
    show G z mX1_nightFalls (d + 1) 0 0 2 [some (.ref 37), some (.int (nI i1)), none] [] (mrow M 38 (d_nightFalls_2 (M.1 7) (M.1 38) nt i1)) Q
    refine G.sl [(.iload_n 1, 1, 1, 0, 0, 0), (.aload_n 0, 1, 0, 0, 0, 0), (.getfield 18, 3, 1, 2, 79, 0), (.getfield 78, 3, 6, 3, 34, 0)] [] (pc2 := 10) (ls2 := [some (.ref 37), some (.int (nI i1)), none]) (st2 := [.int (M.1 3 3), .int (nI i1)]) (M2 := mrow M 38 (d_nightFalls_2 (M.1 7) (M.1 38) nt i1)) (Ps := []) (by decide +kernel) rfl rfl trivial ?_
    rw [hf]
    refine G.ic_ge (off := (61)) (tgt := 71) (by decide +kernel) rfl (fun h9 => absurd h9 (nI_ge (by omega) (by omega))) (fun _ => ?_)
    refine G.sl [(.aload_n 0, 1, 0, 0, 0, 0), (.getfield 9, 3, 1, 0, 73, 0), (.bipush 13, 2, 0, 0, 0, nI 13), (.iload_n 1, 1, 1, 0, 0, 0), (.iadd, 1, 0, 0, 0, 0), (.iconst 0, 1, 0, 0, 0, nI 0), (.iastore, 1, 0, 0, 0, 0), (.aload_n 0, 1, 0, 0, 0, 0), (.getfield 9, 3, 1, 0, 73, 0), (.bipush 7, 2, 0, 0, 0, nI 7), (.iload_n 1, 1, 1, 0, 0, 0), (.iadd, 1, 0, 0, 0, 0), (.iaload, 1, 0, 0, 0, 0)] [13 + i1, 7 + i1] (pc2 := 32) (ls2 := [some (.ref 37), some (.int (nI i1)), none]) (st2 := [.int ((upd (d_nightFalls_2 (M.1 7) (M.1 38) nt i1) (13 + i1) (nI 0)) (7 + i1))]) (M2 := mput (mrow M 38 (d_nightFalls_2 (M.1 7) (M.1 38) nt i1)) 38 (13 + i1) (nI 0)) (Ps := [((nI 13) + (nI i1)) = nI (13 + i1) ∧ (13 + i1) < 51, ((nI 7) + (nI i1)) = nI (7 + i1) ∧ (7 + i1) < 51]) (by decide +kernel) rfl rfl ⟨⟨(nI_add _ _), (by omega)⟩, ⟨(nI_add _ _), (by omega)⟩, trivial⟩ ?_
    refine G.mem (M' := mrow M 38 (upd (d_nightFalls_2 (M.1 7) (M.1 38) nt i1) (13 + i1) (nI 0))) (by first | rfl | (simp only [mput, mrow_same, mrow_hit, mrow_miss, mrow_sw, idr_eq, ne_eq, Nat.reduceEqDiff, not_false_eq_true, Nat.reduceLT, reduceCtorEq]; done)) ?_
    refine G.if_le (off := (33)) (tgt := 65) (by decide +kernel) rfl (fun c1 => ?_) (fun c1 => ?_)
    · skip
      rw [if_pos c1] at hk
      refine G.sl [(.iinc 1 1, 3, 1, 0, 0, nI 1), (.goto (-66), 3, 2, 0, 0, 0)] [] (pc2 := 2) (ls2 := [some (.ref 37), some (.int ((nI i1) + nI 1)), none]) (st2 := []) (M2 := mrow M 38 (upd (d_nightFalls_2 (M.1 7) (M.1 38) nt i1) (13 + i1) (nI 0))) (Ps := []) (by decide +kernel) rfl rfl trivial ?_
      rw [nI_add i1 1]
      simp only [d_nightFalls_2, if_pos c1] at ih
      exact ih
    · skip
      rw [if_neg c1] at hk
      refine G.sl [(.aload_n 0, 1, 0, 0, 0, 0), (.getfield 9, 3, 1, 0, 73, 0), (.bipush 25, 2, 0, 0, 0, nI 25), (.iload_n 1, 1, 1, 0, 0, 0), (.iadd, 1, 0, 0, 0, 0), (.dup2, 1, 0, 0, 0, 0), (.iaload, 1, 0, 0, 0, 0), (.iconst 1, 1, 0, 0, 0, nI 1), (.iadd, 1, 0, 0, 0, 0), (.iastore, 1, 0, 0, 0, 0), (.aload_n 0, 1, 0, 0, 0, 0), (.iload_n 1, 1, 1, 0, 0, 0)] [25 + i1, 25 + i1] (pc2 := 50) (ls2 := [some (.ref 37), some (.int (nI i1)), none]) (st2 := [.int (nI i1), .ref 37]) (M2 := mput (mrow M 38 (upd (d_nightFalls_2 (M.1 7) (M.1 38) nt i1) (13 + i1) (nI 0))) 38 (25 + i1) (((upd (d_nightFalls_2 (M.1 7) (M.1 38) nt i1) (13 + i1) (nI 0)) (25 + i1)) + (nI 1))) (Ps := [((nI 25) + (nI i1)) = nI (25 + i1) ∧ (25 + i1) < 51, ((nI 25) + (nI i1)) = nI (25 + i1) ∧ (25 + i1) < 51]) (by decide +kernel) rfl rfl ⟨⟨(nI_add _ _), (by omega)⟩, ⟨(nI_add _ _), (by omega)⟩, trivial⟩ ?_
      refine G.mem (M' := mrow M 38 (upd (upd (d_nightFalls_2 (M.1 7) (M.1 38) nt i1) (13 + i1) (nI 0)) (25 + i1) (((upd (d_nightFalls_2 (M.1 7) (M.1 38) nt i1) (13 + i1) (nI 0)) (25 + i1)) + (nI 1)))) (by first | rfl | (simp only [mput, mrow_same, mrow_hit, mrow_miss, mrow_sw, idr_eq, ne_eq, Nat.reduceEqDiff, not_false_eq_true, Nat.reduceLT, reduceCtorEq]; done)) ?_
      obtain ⟨k2, hk⟩ := hk
      have t3 : GM z mX1_leastHeld (d) [.ref 37, .int (nI i1)] (mrow M 38 (upd (upd (d_nightFalls_2 (M.1 7) (M.1 38) nt i1) (13 + i1) (nI 0)) (25 + i1) (((upd (d_nightFalls_2 (M.1 7) (M.1 38) nt i1) (13 + i1) (nI 0)) (25 + i1)) + (nI 1)))) (fun rs => rs = .inl (some (.int (d_leastHeld (M.1 7) (upd (upd (d_nightFalls_2 (M.1 7) (M.1 38) nt i1) (13 + i1) (nI 0)) (25 + i1) (((upd (d_nightFalls_2 (M.1 7) (M.1 38) nt i1) (13 + i1) (nI 0)) (25 + i1)) + (nI 1))) nt (nI i1))), mrow M 38 (upd (upd (d_nightFalls_2 (M.1 7) (M.1 38) nt i1) (13 + i1) (nI 0)) (25 + i1) (((upd (d_nightFalls_2 (M.1 7) (M.1 38) nt i1) (13 + i1) (nI 0)) (25 + i1)) + (nI 1))))) := by
        have q9 := c_d_leastHeld_37 z d (mrow M 38 (upd (upd (d_nightFalls_2 (M.1 7) (M.1 38) nt i1) (13 + i1) (nI 0)) (25 + i1) (((upd (d_nightFalls_2 (M.1 7) (M.1 38) nt i1) (13 + i1) (nI 0)) (25 + i1)) + (nI 1)))) (nI i1) nt hnt ht k2
        try simp only [mput, mrow_same, mrow_hit, mrow_miss, mrow_sw, idr_eq, ne_eq, Nat.reduceEqDiff, not_false_eq_true, Nat.reduceLT, reduceCtorEq] at q9
        exact q9
      refine G.callV (as := [.int (nI i1)]) (rest := []) (a := 37) oX1_leastHeld lk_EvenFinders_Days_82 (by decide +kernel) rfl rfl ⟨rfl, rfl⟩ (Nat.le_of_ble_eq_true rfl) rfl ⟨Nat.le_of_ble_eq_true rfl, Nat.le_of_ble_eq_true rfl⟩ t3 (fun v9 N9 h4 => ?_) (fun E9 N9 h4 => by cases h4)
      cases h4
      show G z mX1_nightFalls (d + 1) 0 0 53 [some (.ref 37), some (.int (nI i1)), none] [.int (d_leastHeld (M.1 7) (upd (upd (d_nightFalls_2 (M.1 7) (M.1 38) nt i1) (13 + i1) (nI 0)) (25 + i1) (((upd (d_nightFalls_2 (M.1 7) (M.1 38) nt i1) (13 + i1) (nI 0)) (25 + i1)) + (nI 1))) nt (nI i1))] (mrow M 38 (upd (upd (d_nightFalls_2 (M.1 7) (M.1 38) nt i1) (13 + i1) (nI 0)) (25 + i1) (((upd (d_nightFalls_2 (M.1 7) (M.1 38) nt i1) (13 + i1) (nI 0)) (25 + i1)) + (nI 1)))) Q
      refine G.sl [(.istore_n 2, 1, 2, 0, 0, 0), (.iload_n 2, 1, 2, 0, 0, 0), (.iconst (-1), 1, 0, 0, 0, (-1))] [] (pc2 := 56) (ls2 := [some (.ref 37), some (.int (nI i1)), some (.int (d_leastHeld (M.1 7) (upd (upd (d_nightFalls_2 (M.1 7) (M.1 38) nt i1) (13 + i1) (nI 0)) (25 + i1) (((upd (d_nightFalls_2 (M.1 7) (M.1 38) nt i1) (13 + i1) (nI 0)) (25 + i1)) + (nI 1))) nt (nI i1)))]) (st2 := [.int ((-1)), .int (d_leastHeld (M.1 7) (upd (upd (d_nightFalls_2 (M.1 7) (M.1 38) nt i1) (13 + i1) (nI 0)) (25 + i1) (((upd (d_nightFalls_2 (M.1 7) (M.1 38) nt i1) (13 + i1) (nI 0)) (25 + i1)) + (nI 1))) nt (nI i1))]) (M2 := mrow M 38 (upd (upd (d_nightFalls_2 (M.1 7) (M.1 38) nt i1) (13 + i1) (nI 0)) (25 + i1) (((upd (d_nightFalls_2 (M.1 7) (M.1 38) nt i1) (13 + i1) (nI 0)) (25 + i1)) + (nI 1)))) (Ps := []) (by decide +kernel) rfl rfl trivial ?_
      refine G.ic_eq (off := (9)) (tgt := 65) (by decide +kernel) rfl (fun c5 => ?_) (fun c5 => ?_)
      · skip
        rw [if_pos c5] at hk
        refine G.sl [(.iinc 1 1, 3, 1, 0, 0, nI 1), (.goto (-66), 3, 2, 0, 0, 0)] [] (pc2 := 2) (ls2 := [some (.ref 37), some (.int ((nI i1) + nI 1)), some (.int (d_leastHeld (M.1 7) (upd (upd (d_nightFalls_2 (M.1 7) (M.1 38) nt i1) (13 + i1) (nI 0)) (25 + i1) (((upd (d_nightFalls_2 (M.1 7) (M.1 38) nt i1) (13 + i1) (nI 0)) (25 + i1)) + (nI 1))) nt (nI i1)))]) (st2 := []) (M2 := mrow M 38 (upd (upd (d_nightFalls_2 (M.1 7) (M.1 38) nt i1) (13 + i1) (nI 0)) (25 + i1) (((upd (d_nightFalls_2 (M.1 7) (M.1 38) nt i1) (13 + i1) (nI 0)) (25 + i1)) + (nI 1)))) (Ps := []) (by decide +kernel) rfl rfl trivial ?_
        refine G.loc (ls2 := [some (.ref 37), some (.int ((nI i1) + nI 1)), none]) (by simp [subL]) ?_
        rw [nI_add i1 1]
        simp only [d_nightFalls_2, if_neg c1, if_pos c5] at ih
        exact ih
      · skip
        rw [if_neg c5] at hk
        refine G.sl [(.aload_n 0, 1, 0, 0, 0, 0), (.iload_n 1, 1, 1, 0, 0, 0), (.iload_n 2, 1, 2, 0, 0, 0)] [] (pc2 := 62) (ls2 := [some (.ref 37), some (.int (nI i1)), some (.int (d_leastHeld (M.1 7) (upd (upd (d_nightFalls_2 (M.1 7) (M.1 38) nt i1) (13 + i1) (nI 0)) (25 + i1) (((upd (d_nightFalls_2 (M.1 7) (M.1 38) nt i1) (13 + i1) (nI 0)) (25 + i1)) + (nI 1))) nt (nI i1)))]) (st2 := [.int (d_leastHeld (M.1 7) (upd (upd (d_nightFalls_2 (M.1 7) (M.1 38) nt i1) (13 + i1) (nI 0)) (25 + i1) (((upd (d_nightFalls_2 (M.1 7) (M.1 38) nt i1) (13 + i1) (nI 0)) (25 + i1)) + (nI 1))) nt (nI i1)), .int (nI i1), .ref 37]) (M2 := mrow M 38 (upd (upd (d_nightFalls_2 (M.1 7) (M.1 38) nt i1) (13 + i1) (nI 0)) (25 + i1) (((upd (d_nightFalls_2 (M.1 7) (M.1 38) nt i1) (13 + i1) (nI 0)) (25 + i1)) + (nI 1)))) (Ps := []) (by decide +kernel) rfl rfl trivial ?_
        obtain ⟨k6, k7, hk⟩ := hk
        refine G.eq (st' := [.int (nI (ix (d_leastHeld (M.1 7) (upd (upd (d_nightFalls_2 (M.1 7) (M.1 38) nt i1) (13 + i1) (nI 0)) (25 + i1) (((upd (d_nightFalls_2 (M.1 7) (M.1 38) nt i1) (13 + i1) (nI 0)) (25 + i1)) + (nI 1))) nt (nI i1)))), .int (nI i1), .ref 37]) ?_ rfl (by rw [← (show d_leastHeld (M.1 7) (upd (upd (d_nightFalls_2 (M.1 7) (M.1 38) nt i1) (13 + i1) (nI 0)) (25 + i1) (((upd (d_nightFalls_2 (M.1 7) (M.1 38) nt i1) (13 + i1) (nI 0)) (25 + i1)) + (nI 1))) nt (nI i1) = nI (ix (d_leastHeld (M.1 7) (upd (upd (d_nightFalls_2 (M.1 7) (M.1 38) nt i1) (13 + i1) (nI 0)) (25 + i1) (((upd (d_nightFalls_2 (M.1 7) (M.1 38) nt i1) (13 + i1) (nI 0)) (25 + i1)) + (nI 1))) nt (nI i1))) from (ixE k6))]) rfl
        rcases g9 : d_drop (upd (upd (d_nightFalls_2 (M.1 7) (M.1 38) nt i1) (13 + i1) (nI 0)) (25 + i1) (((upd (d_nightFalls_2 (M.1 7) (M.1 38) nt i1) (13 + i1) (nI 0)) (25 + i1)) + (nI 1))) i1 (ix (d_leastHeld (M.1 7) (upd (upd (d_nightFalls_2 (M.1 7) (M.1 38) nt i1) (13 + i1) (nI 0)) (25 + i1) (((upd (d_nightFalls_2 (M.1 7) (M.1 38) nt i1) (13 + i1) (nI 0)) (25 + i1)) + (nI 1))) nt (nI i1))) with ⟨u10, r11⟩
        have t12 : GM z mX1_drop (d) [.ref 37, .int (nI i1), .int (nI (ix (d_leastHeld (M.1 7) (upd (upd (d_nightFalls_2 (M.1 7) (M.1 38) nt i1) (13 + i1) (nI 0)) (25 + i1) (((upd (d_nightFalls_2 (M.1 7) (M.1 38) nt i1) (13 + i1) (nI 0)) (25 + i1)) + (nI 1))) nt (nI i1))))] (mrow M 38 (upd (upd (d_nightFalls_2 (M.1 7) (M.1 38) nt i1) (13 + i1) (nI 0)) (25 + i1) (((upd (d_nightFalls_2 (M.1 7) (M.1 38) nt i1) (13 + i1) (nI 0)) (25 + i1)) + (nI 1)))) (fun rs => rs = .inl (none, mrow M 38 r11)) := by
          have q9 := c_d_drop_37 z d (mrow M 38 (upd (upd (d_nightFalls_2 (M.1 7) (M.1 38) nt i1) (13 + i1) (nI 0)) (25 + i1) (((upd (d_nightFalls_2 (M.1 7) (M.1 38) nt i1) (13 + i1) (nI 0)) (25 + i1)) + (nI 1)))) i1 (ix (d_leastHeld (M.1 7) (upd (upd (d_nightFalls_2 (M.1 7) (M.1 38) nt i1) (13 + i1) (nI 0)) (25 + i1) (((upd (d_nightFalls_2 (M.1 7) (M.1 38) nt i1) (13 + i1) (nI 0)) (25 + i1)) + (nI 1))) nt (nI i1))) (by omega) k7
          try simp only [mput, mrow_same, mrow_hit, mrow_miss, mrow_sw, idr_eq, ne_eq, Nat.reduceEqDiff, not_false_eq_true, Nat.reduceLT, reduceCtorEq, g9] at q9
          exact q9
        refine G.callV (as := [.int (nI i1), .int (nI (ix (d_leastHeld (M.1 7) (upd (upd (d_nightFalls_2 (M.1 7) (M.1 38) nt i1) (13 + i1) (nI 0)) (25 + i1) (((upd (d_nightFalls_2 (M.1 7) (M.1 38) nt i1) (13 + i1) (nI 0)) (25 + i1)) + (nI 1))) nt (nI i1))))]) (rest := []) (a := 37) oX1_drop lk_EvenFinders_Days_71 (by decide +kernel) rfl rfl ⟨rfl, rfl⟩ (Nat.le_of_ble_eq_true rfl) rfl ⟨Nat.le_of_ble_eq_true rfl, Nat.le_of_ble_eq_true rfl⟩ t12 (fun v9 N9 h13 => ?_) (fun E9 N9 h13 => by cases h13)
        cases h13
        show G z mX1_nightFalls (d + 1) 0 0 65 [some (.ref 37), some (.int (nI i1)), some (.int (d_leastHeld (M.1 7) (upd (upd (d_nightFalls_2 (M.1 7) (M.1 38) nt i1) (13 + i1) (nI 0)) (25 + i1) (((upd (d_nightFalls_2 (M.1 7) (M.1 38) nt i1) (13 + i1) (nI 0)) (25 + i1)) + (nI 1))) nt (nI i1)))] [] (mrow M 38 r11) Q
        refine G.sl [(.iinc 1 1, 3, 1, 0, 0, nI 1), (.goto (-66), 3, 2, 0, 0, 0)] [] (pc2 := 2) (ls2 := [some (.ref 37), some (.int ((nI i1) + nI 1)), some (.int (d_leastHeld (M.1 7) (upd (upd (d_nightFalls_2 (M.1 7) (M.1 38) nt i1) (13 + i1) (nI 0)) (25 + i1) (((upd (d_nightFalls_2 (M.1 7) (M.1 38) nt i1) (13 + i1) (nI 0)) (25 + i1)) + (nI 1))) nt (nI i1)))]) (st2 := []) (M2 := mrow M 38 r11) (Ps := []) (by decide +kernel) rfl rfl trivial ?_
        refine G.loc (ls2 := [some (.ref 37), some (.int ((nI i1) + nI 1)), none]) (by simp [subL]) ?_
        rw [nI_add i1 1]
        simp only [d_nightFalls_2, if_neg c1, if_neg c5, g9] at ih
        exact ih
set_option maxHeartbeats 4000000 in
set_option maxRecDepth 3000 in
theorem c_d_nightFalls_37 (z : Zp) (d : Nat) (M : Mem) (nt : Nat) (hnt : nt ≤ 10) (ht : M.1 3 2 = nI nt) (nf : Nat) (hnf : nf ≤ 6) (hf : M.1 3 3 = nI nf) (hk : d_nightFalls_ok (M.1 7) (M.1 38) nt nf) : GM z mX1_nightFalls (d + 1) [.ref 37] M (fun rs => rs = .inl (none, mrow M 38 ((d_nightFalls (M.1 7) (M.1 38) nt nf).2))) := by
  simp only [d_nightFalls_ok] at hk
  refine GM.of oX1_nightFalls.1 (Nat.le_of_ble_eq_true rfl) ?_
  show G z mX1_nightFalls (d + 1) 0 0 0 [some (.ref 37), none, none] [] M _
  obtain ⟨Q, hQ⟩ : ∃ Q : Rs → Prop, Q = (fun rs => rs = .inl (none, mrow M 38 ((d_nightFalls (M.1 7) (M.1 38) nt nf).2))) := ⟨_, rfl⟩
  rw [← hQ]
  refine G.sl [(.iconst 0, 1, 0, 0, 0, nI 0), (.istore_n 1, 1, 1, 0, 0, 0)] [] (pc2 := 2) (ls2 := [some (.ref 37), some (.int (nI 0)), none]) (st2 := []) (M2 := M) (Ps := []) (by decide +kernel) rfl rfl trivial ?_
  obtain ⟨k14, hk⟩ := hk
  refine lp_d_nightFalls_37_2 z d M Q nt hnt ht nf hnf hf (by first | (simp only [mput, mrow_same, mrow_hit, mrow_miss, mrow_sw, idr_eq, ne_eq, Nat.reduceEqDiff, not_false_eq_true, Nat.reduceLT, reduceCtorEq]; exact k14) | exact k14) ?_
  try simp only [mput, mrow_same, mrow_hit, mrow_miss, mrow_sw, idr_eq, ne_eq, Nat.reduceEqDiff, not_false_eq_true, Nat.reduceLT, reduceCtorEq]
  show G z mX1_nightFalls (d + 1) 0 0 71 [some (.ref 37), none, none] [] (mrow M 38 (d_nightFalls_2 (M.1 7) (M.1 38) nt nf)) Q
  refine G.sl [(.aload_n 0, 1, 0, 0, 0, 0), (.getfield 9, 3, 1, 0, 73, 0), (.iconst 0, 1, 0, 0, 0, nI 0), (.dup2, 1, 0, 0, 0, 0), (.iaload, 1, 0, 0, 0, 0), (.iconst 1, 1, 0, 0, 0, nI 1), (.iadd, 1, 0, 0, 0, 0), (.iastore, 1, 0, 0, 0, 0)] [0, 0] (pc2 := 81) (ls2 := [some (.ref 37), none, none]) (st2 := []) (M2 := mput (mrow M 38 (d_nightFalls_2 (M.1 7) (M.1 38) nt nf)) 38 0 (((d_nightFalls_2 (M.1 7) (M.1 38) nt nf) 0) + (nI 1))) (Ps := [(nI 0) = nI 0 ∧ 0 < 51, (nI 0) = nI 0 ∧ 0 < 51]) (by decide +kernel) rfl rfl ⟨⟨rfl, (by omega)⟩, ⟨rfl, (by omega)⟩, trivial⟩ ?_
  refine G.mem (M' := mrow M 38 (upd (d_nightFalls_2 (M.1 7) (M.1 38) nt nf) 0 (((d_nightFalls_2 (M.1 7) (M.1 38) nt nf) 0) + (nI 1)))) (by first | rfl | (simp only [mput, mrow_same, mrow_hit, mrow_miss, mrow_sw, idr_eq, ne_eq, Nat.reduceEqDiff, not_false_eq_true, Nat.reduceLT, reduceCtorEq]; done)) ?_
  exact G.retv (by decide +kernel) rfl (Nat.le_of_ble_eq_true rfl) (Nat.le_of_ble_eq_true rfl) ((by rw [hQ]; simp only [d_nightFalls, mrow_self]))
theorem d_nightComes_01 (Rworth Rrow : Nat → Int32) (nt nf : Nat) : (d_nightComes Rworth Rrow nt nf).1 = 0 ∨ (d_nightComes Rworth Rrow nt nf).1 = 1 := by
  unfold d_nightComes
  repeat' split
  all_goals first | exact Or.inl rfl | exact Or.inr rfl
set_option maxHeartbeats 4000000 in
set_option maxRecDepth 3000 in
theorem c_d_nightComes_37 (z : Zp) (d : Nat) (M : Mem) (nt : Nat) (hnt : nt ≤ 10) (ht : M.1 3 2 = nI nt) (nf : Nat) (hnf : nf ≤ 6) (hf : M.1 3 3 = nI nf) (hk : d_nightComes_ok (M.1 7) (M.1 38) nt nf) : GM z mX1_nightComes (d + 2) [.ref 37] M (fun rs => rs = .inl (some (.int ((d_nightComes (M.1 7) (M.1 38) nt nf).1)), mrow M 38 ((d_nightComes (M.1 7) (M.1 38) nt nf).2))) := by
  simp only [d_nightComes_ok] at hk
  refine GM.of oX1_nightComes.1 (Nat.le_of_ble_eq_true rfl) ?_
  show G z mX1_nightComes (d + 2) 0 0 0 [some (.ref 37)] [] M _
  obtain ⟨Q, hQ⟩ : ∃ Q : Rs → Prop, Q = (fun rs => rs = .inl (some (.int ((d_nightComes (M.1 7) (M.1 38) nt nf).1)), mrow M 38 ((d_nightComes (M.1 7) (M.1 38) nt nf).2))) := ⟨_, rfl⟩
  rw [← hQ]
  refine G.sl [(.aload_n 0, 1, 0, 0, 0, 0), (.getfield 9, 3, 1, 0, 73, 0), (.iconst 0, 1, 0, 0, 0, nI 0), (.iaload, 1, 0, 0, 0, 0), (.sipush 400, 3, 0, 0, 0, nI 400)] [0] (pc2 := 9) (ls2 := [some (.ref 37)]) (st2 := [.int (nI 400), .int (M.1 38 0)]) (M2 := M) (Ps := [(nI 0) = nI 0 ∧ 0 < 51]) (by decide +kernel) rfl rfl ⟨⟨rfl, (by omega)⟩, trivial⟩ ?_
  refine G.ic_lt (off := (5)) (tgt := 14) (by decide +kernel) rfl (fun c1 => ?_) (fun c1 => ?_)
  · skip
    rw [if_pos c1] at hk
    refine G.sl [(.aload_n 0, 1, 0, 0, 0, 0)] [] (pc2 := 15) (ls2 := [some (.ref 37)]) (st2 := [.ref 37]) (M2 := M) (Ps := []) (by decide +kernel) rfl rfl trivial ?_
    obtain ⟨k2, hk⟩ := hk
    rcases g3 : d_nightFalls (M.1 7) (M.1 38) nt nf with ⟨u4, r5⟩
    have t6 : GM z mX1_nightFalls (d + 1) [.ref 37] M (fun rs => rs = .inl (none, mrow M 38 r5)) := by
      have q9 := c_d_nightFalls_37 z d M nt hnt ht nf hnf hf k2
      try simp only [mput, mrow_same, mrow_hit, mrow_miss, mrow_sw, idr_eq, ne_eq, Nat.reduceEqDiff, not_false_eq_true, Nat.reduceLT, reduceCtorEq, g3] at q9
      exact q9
    refine G.callV (as := []) (rest := []) (a := 37) oX1_nightFalls lk_EvenFinders_Days_75 (by decide +kernel) rfl rfl ⟨rfl, rfl⟩ (Nat.le_of_ble_eq_true rfl) rfl ⟨Nat.le_of_ble_eq_true rfl, Nat.le_of_ble_eq_true rfl⟩ t6 (fun v9 N9 h7 => ?_) (fun E9 N9 h7 => by cases h7)
    cases h7
    show G z mX1_nightComes (d + 2) 0 0 18 [some (.ref 37)] [] (mrow M 38 r5) Q
    refine G.sl [(.iconst 1, 1, 0, 0, 0, nI 1)] [] (pc2 := 19) (ls2 := [some (.ref 37)]) (st2 := [.int (nI 1)]) (M2 := mrow M 38 r5) (Ps := []) (by decide +kernel) rfl rfl trivial ?_
    exact G.reti (by decide +kernel) rfl rfl (Nat.le_of_ble_eq_true rfl) (Nat.le_of_ble_eq_true rfl) ((by rw [hQ]; simp only [d_nightComes, if_pos c1, g3, mrow_self]))
  · skip
    rw [if_neg c1] at hk
    refine G.sl [(.iconst 0, 1, 0, 0, 0, nI 0)] [] (pc2 := 13) (ls2 := [some (.ref 37)]) (st2 := [.int (nI 0)]) (M2 := M) (Ps := []) (by decide +kernel) rfl rfl trivial ?_
    refine G.mem (M' := mrow M 38 (M.1 38)) (((mrow_id (N := M) (c := 38) (f := M.1 38) (by first | rfl | (simp only [mput, mrow_same, mrow_hit, mrow_miss, mrow_sw, idr_eq, ne_eq, Nat.reduceEqDiff, not_false_eq_true, Nat.reduceLT, reduceCtorEq]; done))).symm).trans (by first | rfl | (simp only [mput, mrow_same, mrow_hit, mrow_miss, mrow_sw, idr_eq, ne_eq, Nat.reduceEqDiff, not_false_eq_true, Nat.reduceLT, reduceCtorEq]; done))) ?_
    exact G.reti (by decide +kernel) rfl rfl (Nat.le_of_ble_eq_true rfl) (Nat.le_of_ble_eq_true rfl) ((by rw [hQ]; simp only [d_nightComes, if_neg c1, mrow_self]))
theorem x_isDone_01 (RroadA RroadB RroadLength Rworth Rlaw Rgiven Rcodes Rvalues Rrow : Nat → Int32) (nt nf : Nat) (x1 : Int32) (x2 : Int32) (x3 : Int32) : (x_isDone RroadA RroadB RroadLength Rworth Rlaw Rgiven Rcodes Rvalues Rrow nt nf x1 x2 x3).1 = 0 ∨ (x_isDone RroadA RroadB RroadLength Rworth Rlaw Rgiven Rcodes Rvalues Rrow nt nf x1 x2 x3).1 = 1 := by
  unfold x_isDone
  repeat' split
  all_goals first | exact Or.inl rfl | exact Or.inr rfl | (rename_i h9; have q9 := d_walks_01 (RroadA) (RroadB) (RroadLength) (Rrow) (ix x2) (ix x3); rw [h9] at q9; exact q9) | (rename_i h9; have q9 := d_finds_01 (Rworth) (Rlaw) (Rgiven) (Rcodes) (Rvalues) (Rrow) nt (ix x2) (ix x3); rw [h9] at q9; exact q9) | (rename_i h9; have q9 := d_loses_01 (Rworth) (Rrow) (ix x2) (ix x3); rw [h9] at q9; exact q9) | (rename_i h9; have q9 := d_slips_01 (Rworth) (Rrow) (ix x2) (ix x3); rw [h9] at q9; exact q9) | (rename_i h9; have q9 := d_nightComes_01 (Rworth) (Rrow) nt nf; rw [h9] at q9; exact q9)
set_option maxHeartbeats 4000000 in
set_option maxRecDepth 3000 in
theorem c_x_isDone_37 (z : Zp) (d : Nat) (M : Mem) (x1 : Int32) (x2 : Int32) (x3 : Int32) (nt : Nat) (hnt : nt ≤ 10) (ht : M.1 3 2 = nI nt) (nf : Nat) (hnf : nf ≤ 6) (hf : M.1 3 3 = nI nf) (hk : x_isDone_ok (M.1 4) (M.1 5) (M.1 6) (M.1 7) (M.1 21) (M.1 22) (M.1 23) (M.1 24) (M.1 38) nt nf x1 x2 x3) : GM z mX9_isDone (d + 4) [.ref 37, .int x1, .int x2, .int x3] M (fun rs => rs = .inl (some (.int ((x_isDone (M.1 4) (M.1 5) (M.1 6) (M.1 7) (M.1 21) (M.1 22) (M.1 23) (M.1 24) (M.1 38) nt nf x1 x2 x3).1)), mrow (mrow (mrow M 22 ((x_isDone (M.1 4) (M.1 5) (M.1 6) (M.1 7) (M.1 21) (M.1 22) (M.1 23) (M.1 24) (M.1 38) nt nf x1 x2 x3).2.1)) 24 ((x_isDone (M.1 4) (M.1 5) (M.1 6) (M.1 7) (M.1 21) (M.1 22) (M.1 23) (M.1 24) (M.1 38) nt nf x1 x2 x3).2.2.1)) 38 ((x_isDone (M.1 4) (M.1 5) (M.1 6) (M.1 7) (M.1 21) (M.1 22) (M.1 23) (M.1 24) (M.1 38) nt nf x1 x2 x3).2.2.2))) := by
  simp only [x_isDone_ok] at hk
  refine GM.of oX9_isDone.1 (Nat.le_of_ble_eq_true rfl) ?_
  show G z mX9_isDone (d + 4) 0 0 0 [some (.ref 37), some (.int x1), some (.int x2), some (.int x3)] [] M _
  obtain ⟨Q, hQ⟩ : ∃ Q : Rs → Prop, Q = (fun rs => rs = .inl (some (.int ((x_isDone (M.1 4) (M.1 5) (M.1 6) (M.1 7) (M.1 21) (M.1 22) (M.1 23) (M.1 24) (M.1 38) nt nf x1 x2 x3).1)), mrow (mrow (mrow M 22 ((x_isDone (M.1 4) (M.1 5) (M.1 6) (M.1 7) (M.1 21) (M.1 22) (M.1 23) (M.1 24) (M.1 38) nt nf x1 x2 x3).2.1)) 24 ((x_isDone (M.1 4) (M.1 5) (M.1 6) (M.1 7) (M.1 21) (M.1 22) (M.1 23) (M.1 24) (M.1 38) nt nf x1 x2 x3).2.2.1)) 38 ((x_isDone (M.1 4) (M.1 5) (M.1 6) (M.1 7) (M.1 21) (M.1 22) (M.1 23) (M.1 24) (M.1 38) nt nf x1 x2 x3).2.2.2))) := ⟨_, rfl⟩
  rw [← hQ]
  refine G.sl [(.iload_n 1, 1, 1, 0, 0, 0)] [] (pc2 := 1) (ls2 := [some (.ref 37), some (.int x1), some (.int x2), some (.int x3)]) (st2 := [.int x1]) (M2 := M) (Ps := []) (by decide +kernel) rfl rfl trivial ?_
  by_cases c1 : x1 = nI 0
  · skip
    rw [if_pos c1] at hk
    refine G.tabIn (dflt := 59) (lo := 0) (hi := 3) (offs := #[31, 38, 45, 52]) (len := 31) (off := 31) (tgt := 32) (by decide +kernel) (by rw [c1]; decide) (by rw [c1]; decide) (by rw [c1]; rfl) rfl ?_
    refine G.sl [(.aload_n 0, 1, 0, 0, 0, 0), (.iload_n 2, 1, 2, 0, 0, 0), (.iload_n 3, 1, 3, 0, 0, 0)] [] (pc2 := 35) (ls2 := [some (.ref 37), some (.int x1), some (.int x2), some (.int x3)]) (st2 := [.int x3, .int x2, .ref 37]) (M2 := M) (Ps := []) (by decide +kernel) rfl rfl trivial ?_
    obtain ⟨k2, k3, k4, k5, hk⟩ := hk
    refine G.eq (st' := [.int (nI (ix x3)), .int (nI (ix x2)), .ref 37]) ?_ rfl (by rw [← (show x2 = nI (ix x2) from (ixE k2)), ← (show x3 = nI (ix x3) from (ixE k4))]) rfl
    rcases g7 : d_walks (M.1 4) (M.1 5) (M.1 6) (M.1 38) (ix x2) (ix x3) with ⟨v8, r9⟩
    have ev8 : v8 = 0 ∨ v8 = 1 := by
      have q9 := d_walks_01 (M.1 4) (M.1 5) (M.1 6) (M.1 38) (ix x2) (ix x3)
      rw [g7] at q9
      exact q9
    have t10 : GM z mX1_walks (d + 3) [.ref 37, .int (nI (ix x2)), .int (nI (ix x3))] M (fun rs => rs = .inl (some (.int v8), mrow M 38 r9)) := by
      have q9 := c_d_walks_37 z (d + 2) M (ix x2) (ix x3) k3 k5
      try simp only [mput, mrow_same, mrow_hit, mrow_miss, mrow_sw, idr_eq, ne_eq, Nat.reduceEqDiff, not_false_eq_true, Nat.reduceLT, reduceCtorEq, g7] at q9
      exact q9
    refine G.callV (as := [.int (nI (ix x2)), .int (nI (ix x3))]) (rest := []) (a := 37) oX1_walks lk_EvenFinders_Work_100 (by decide +kernel) rfl rfl ⟨rfl, rfl⟩ (Nat.le_of_ble_eq_true rfl) rfl ⟨Nat.le_of_ble_eq_true rfl, Nat.le_of_ble_eq_true rfl⟩ t10 (fun v9 N9 h11 => ?_) (fun E9 N9 h11 => by cases h11)
    cases h11
    show G z mX9_isDone (d + 4) 0 0 38 [some (.ref 37), some (.int x1), some (.int x2), some (.int x3)] [.int v8] (mrow M 38 r9) Q
    refine G.mem (M' := mrow (mrow (mrow M 22 (M.1 22)) 24 (M.1 24)) 38 r9) ((((mrow_id (N := mrow M 38 r9) (c := 22) (f := M.1 22) (by first | rfl | (simp only [mput, mrow_same, mrow_hit, mrow_miss, mrow_sw, idr_eq, ne_eq, Nat.reduceEqDiff, not_false_eq_true, Nat.reduceLT, reduceCtorEq]; done))).symm).trans (mrow_id (N := mrow (mrow M 38 r9) 22 (M.1 22)) (c := 24) (f := M.1 24) (by first | rfl | (simp only [mput, mrow_same, mrow_hit, mrow_miss, mrow_sw, idr_eq, ne_eq, Nat.reduceEqDiff, not_false_eq_true, Nat.reduceLT, reduceCtorEq]; done))).symm).trans (by first | rfl | (simp only [mput, mrow_same, mrow_hit, mrow_miss, mrow_sw, idr_eq, ne_eq, Nat.reduceEqDiff, not_false_eq_true, Nat.reduceLT, reduceCtorEq]; done))) ?_
    exact G.reti (by decide +kernel) rfl (nar01 ev8) (Nat.le_of_ble_eq_true rfl) (Nat.le_of_ble_eq_true rfl) ((by rw [hQ]; simp only [x_isDone, if_pos c1, g7, mrow_self]))
  · skip
    rw [if_neg c1] at hk
    by_cases c12 : x1 = nI 1
    · skip
      rw [if_pos c12] at hk
      refine G.tabIn (dflt := 59) (lo := 0) (hi := 3) (offs := #[31, 38, 45, 52]) (len := 31) (off := 38) (tgt := 39) (by decide +kernel) (by rw [c12]; decide) (by rw [c12]; decide) (by rw [c12]; rfl) rfl ?_
      refine G.sl [(.aload_n 0, 1, 0, 0, 0, 0), (.iload_n 2, 1, 2, 0, 0, 0), (.iload_n 3, 1, 3, 0, 0, 0)] [] (pc2 := 42) (ls2 := [some (.ref 37), some (.int x1), some (.int x2), some (.int x3)]) (st2 := [.int x3, .int x2, .ref 37]) (M2 := M) (Ps := []) (by decide +kernel) rfl rfl trivial ?_
      obtain ⟨k13, k14, k15, k16, hk⟩ := hk
      obtain ⟨k17, hk⟩ := hk
      refine G.eq (st' := [.int (nI (ix x3)), .int (nI (ix x2)), .ref 37]) ?_ rfl (by rw [← (show x2 = nI (ix x2) from (ixE k13)), ← (show x3 = nI (ix x3) from (ixE k15))]) rfl
      rcases g18 : d_finds (M.1 7) (M.1 21) (M.1 22) (M.1 23) (M.1 24) (M.1 38) nt (ix x2) (ix x3) with ⟨v19, r20, r21, r22⟩
      have ev19 : v19 = 0 ∨ v19 = 1 := by
        have q9 := d_finds_01 (M.1 7) (M.1 21) (M.1 22) (M.1 23) (M.1 24) (M.1 38) nt (ix x2) (ix x3)
        rw [g18] at q9
        exact q9
      have t23 : GM z mX1_finds (d + 3) [.ref 37, .int (nI (ix x2)), .int (nI (ix x3))] M (fun rs => rs = .inl (some (.int v19), mrow (mrow (mrow M 22 r20) 24 r21) 38 r22)) := by
        have q9 := c_d_finds_37 z d M (ix x2) (ix x3) nt hnt ht k14 k16 k17
        try simp only [mput, mrow_same, mrow_hit, mrow_miss, mrow_sw, idr_eq, ne_eq, Nat.reduceEqDiff, not_false_eq_true, Nat.reduceLT, reduceCtorEq, g18] at q9
        exact q9
      refine G.callV (as := [.int (nI (ix x2)), .int (nI (ix x3))]) (rest := []) (a := 37) oX1_finds lk_EvenFinders_Work_106 (by decide +kernel) rfl rfl ⟨rfl, rfl⟩ (Nat.le_of_ble_eq_true rfl) rfl ⟨Nat.le_of_ble_eq_true rfl, Nat.le_of_ble_eq_true rfl⟩ t23 (fun v9 N9 h24 => ?_) (fun E9 N9 h24 => by cases h24)
      cases h24
      show G z mX9_isDone (d + 4) 0 0 45 [some (.ref 37), some (.int x1), some (.int x2), some (.int x3)] [.int v19] (mrow (mrow (mrow M 22 r20) 24 r21) 38 r22) Q
      exact G.reti (by decide +kernel) rfl (nar01 ev19) (Nat.le_of_ble_eq_true rfl) (Nat.le_of_ble_eq_true rfl) ((by rw [hQ]; simp only [x_isDone, if_neg c1, if_pos c12, g18, mrow_self]))
    · skip
      rw [if_neg c12] at hk
      by_cases c25 : x1 = nI 2
      · skip
        rw [if_pos c25] at hk
        refine G.tabIn (dflt := 59) (lo := 0) (hi := 3) (offs := #[31, 38, 45, 52]) (len := 31) (off := 45) (tgt := 46) (by decide +kernel) (by rw [c25]; decide) (by rw [c25]; decide) (by rw [c25]; rfl) rfl ?_
        refine G.sl [(.aload_n 0, 1, 0, 0, 0, 0), (.iload_n 2, 1, 2, 0, 0, 0), (.iload_n 3, 1, 3, 0, 0, 0)] [] (pc2 := 49) (ls2 := [some (.ref 37), some (.int x1), some (.int x2), some (.int x3)]) (st2 := [.int x3, .int x2, .ref 37]) (M2 := M) (Ps := []) (by decide +kernel) rfl rfl trivial ?_
        obtain ⟨k26, k27, k28, k29, hk⟩ := hk
        refine G.eq (st' := [.int (nI (ix x3)), .int (nI (ix x2)), .ref 37]) ?_ rfl (by rw [← (show x2 = nI (ix x2) from (ixE k26)), ← (show x3 = nI (ix x3) from (ixE k28))]) rfl
        rcases g31 : d_loses (M.1 7) (M.1 38) (ix x2) (ix x3) with ⟨v32, r33⟩
        have ev32 : v32 = 0 ∨ v32 = 1 := by
          have q9 := d_loses_01 (M.1 7) (M.1 38) (ix x2) (ix x3)
          rw [g31] at q9
          exact q9
        have t34 : GM z mX1_loses (d + 3) [.ref 37, .int (nI (ix x2)), .int (nI (ix x3))] M (fun rs => rs = .inl (some (.int v32), mrow M 38 r33)) := by
          have q9 := c_d_loses_37 z (d + 2) M (ix x2) (ix x3) k27 k29
          try simp only [mput, mrow_same, mrow_hit, mrow_miss, mrow_sw, idr_eq, ne_eq, Nat.reduceEqDiff, not_false_eq_true, Nat.reduceLT, reduceCtorEq, g31] at q9
          exact q9
        refine G.callV (as := [.int (nI (ix x2)), .int (nI (ix x3))]) (rest := []) (a := 37) oX1_loses lk_EvenFinders_Work_109 (by decide +kernel) rfl rfl ⟨rfl, rfl⟩ (Nat.le_of_ble_eq_true rfl) rfl ⟨Nat.le_of_ble_eq_true rfl, Nat.le_of_ble_eq_true rfl⟩ t34 (fun v9 N9 h35 => ?_) (fun E9 N9 h35 => by cases h35)
        cases h35
        show G z mX9_isDone (d + 4) 0 0 52 [some (.ref 37), some (.int x1), some (.int x2), some (.int x3)] [.int v32] (mrow M 38 r33) Q
        refine G.mem (M' := mrow (mrow (mrow M 22 (M.1 22)) 24 (M.1 24)) 38 r33) ((((mrow_id (N := mrow M 38 r33) (c := 22) (f := M.1 22) (by first | rfl | (simp only [mput, mrow_same, mrow_hit, mrow_miss, mrow_sw, idr_eq, ne_eq, Nat.reduceEqDiff, not_false_eq_true, Nat.reduceLT, reduceCtorEq]; done))).symm).trans (mrow_id (N := mrow (mrow M 38 r33) 22 (M.1 22)) (c := 24) (f := M.1 24) (by first | rfl | (simp only [mput, mrow_same, mrow_hit, mrow_miss, mrow_sw, idr_eq, ne_eq, Nat.reduceEqDiff, not_false_eq_true, Nat.reduceLT, reduceCtorEq]; done))).symm).trans (by first | rfl | (simp only [mput, mrow_same, mrow_hit, mrow_miss, mrow_sw, idr_eq, ne_eq, Nat.reduceEqDiff, not_false_eq_true, Nat.reduceLT, reduceCtorEq]; done))) ?_
        exact G.reti (by decide +kernel) rfl (nar01 ev32) (Nat.le_of_ble_eq_true rfl) (Nat.le_of_ble_eq_true rfl) ((by rw [hQ]; simp only [x_isDone, if_neg c1, if_neg c12, if_pos c25, g31, mrow_self]))
      · skip
        rw [if_neg c25] at hk
        by_cases c36 : x1 = nI 3
        · skip
          rw [if_pos c36] at hk
          refine G.tabIn (dflt := 59) (lo := 0) (hi := 3) (offs := #[31, 38, 45, 52]) (len := 31) (off := 52) (tgt := 53) (by decide +kernel) (by rw [c36]; decide) (by rw [c36]; decide) (by rw [c36]; rfl) rfl ?_
          refine G.sl [(.aload_n 0, 1, 0, 0, 0, 0), (.iload_n 2, 1, 2, 0, 0, 0), (.iload_n 3, 1, 3, 0, 0, 0)] [] (pc2 := 56) (ls2 := [some (.ref 37), some (.int x1), some (.int x2), some (.int x3)]) (st2 := [.int x3, .int x2, .ref 37]) (M2 := M) (Ps := []) (by decide +kernel) rfl rfl trivial ?_
          obtain ⟨k37, k38, k39, k40, hk⟩ := hk
          refine G.eq (st' := [.int (nI (ix x3)), .int (nI (ix x2)), .ref 37]) ?_ rfl (by rw [← (show x2 = nI (ix x2) from (ixE k37)), ← (show x3 = nI (ix x3) from (ixE k39))]) rfl
          rcases g42 : d_slips (M.1 7) (M.1 38) (ix x2) (ix x3) with ⟨v43, r44⟩
          have ev43 : v43 = 0 ∨ v43 = 1 := by
            have q9 := d_slips_01 (M.1 7) (M.1 38) (ix x2) (ix x3)
            rw [g42] at q9
            exact q9
          have t45 : GM z mX1_slips (d + 3) [.ref 37, .int (nI (ix x2)), .int (nI (ix x3))] M (fun rs => rs = .inl (some (.int v43), mrow M 38 r44)) := by
            have q9 := c_d_slips_37 z (d + 2) M (ix x2) (ix x3) k38 k40
            try simp only [mput, mrow_same, mrow_hit, mrow_miss, mrow_sw, idr_eq, ne_eq, Nat.reduceEqDiff, not_false_eq_true, Nat.reduceLT, reduceCtorEq, g42] at q9
            exact q9
          refine G.callV (as := [.int (nI (ix x2)), .int (nI (ix x3))]) (rest := []) (a := 37) oX1_slips lk_EvenFinders_Work_112 (by decide +kernel) rfl rfl ⟨rfl, rfl⟩ (Nat.le_of_ble_eq_true rfl) rfl ⟨Nat.le_of_ble_eq_true rfl, Nat.le_of_ble_eq_true rfl⟩ t45 (fun v9 N9 h46 => ?_) (fun E9 N9 h46 => by cases h46)
          cases h46
          show G z mX9_isDone (d + 4) 0 0 59 [some (.ref 37), some (.int x1), some (.int x2), some (.int x3)] [.int v43] (mrow M 38 r44) Q
          refine G.mem (M' := mrow (mrow (mrow M 22 (M.1 22)) 24 (M.1 24)) 38 r44) ((((mrow_id (N := mrow M 38 r44) (c := 22) (f := M.1 22) (by first | rfl | (simp only [mput, mrow_same, mrow_hit, mrow_miss, mrow_sw, idr_eq, ne_eq, Nat.reduceEqDiff, not_false_eq_true, Nat.reduceLT, reduceCtorEq]; done))).symm).trans (mrow_id (N := mrow (mrow M 38 r44) 22 (M.1 22)) (c := 24) (f := M.1 24) (by first | rfl | (simp only [mput, mrow_same, mrow_hit, mrow_miss, mrow_sw, idr_eq, ne_eq, Nat.reduceEqDiff, not_false_eq_true, Nat.reduceLT, reduceCtorEq]; done))).symm).trans (by first | rfl | (simp only [mput, mrow_same, mrow_hit, mrow_miss, mrow_sw, idr_eq, ne_eq, Nat.reduceEqDiff, not_false_eq_true, Nat.reduceLT, reduceCtorEq]; done))) ?_
          exact G.reti (by decide +kernel) rfl (nar01 ev43) (Nat.le_of_ble_eq_true rfl) (Nat.le_of_ble_eq_true rfl) ((by rw [hQ]; simp only [x_isDone, if_neg c1, if_neg c12, if_neg c25, if_pos c36, g42, mrow_self]))
        · skip
          rw [if_neg c36] at hk
          refine G.tabOut (dflt := 59) (lo := 0) (hi := 3) (offs := #[31, 38, 45, 52]) (len := 31) (tgt := 60) (by decide +kernel) (by have q0 := toInt_ne c1; simp only [toInt_nI0] at q0; have q1 := toInt_ne c12; simp only [toInt_nI1] at q1; have q2 := toInt_ne c25; simp only [toInt_nI2] at q2; have q3 := toInt_ne c36; simp only [toInt_nI3] at q3; omega) rfl ?_
          refine G.sl [(.aload_n 0, 1, 0, 0, 0, 0)] [] (pc2 := 61) (ls2 := [some (.ref 37), some (.int x1), some (.int x2), some (.int x3)]) (st2 := [.ref 37]) (M2 := M) (Ps := []) (by decide +kernel) rfl rfl trivial ?_
          obtain ⟨k47, hk⟩ := hk
          rcases g48 : d_nightComes (M.1 7) (M.1 38) nt nf with ⟨v49, r50⟩
          have ev49 : v49 = 0 ∨ v49 = 1 := by
            have q9 := d_nightComes_01 (M.1 7) (M.1 38) nt nf
            rw [g48] at q9
            exact q9
          have t51 : GM z mX1_nightComes (d + 3) [.ref 37] M (fun rs => rs = .inl (some (.int v49), mrow M 38 r50)) := by
            have q9 := c_d_nightComes_37 z (d + 1) M nt hnt ht nf hnf hf k47
            try simp only [mput, mrow_same, mrow_hit, mrow_miss, mrow_sw, idr_eq, ne_eq, Nat.reduceEqDiff, not_false_eq_true, Nat.reduceLT, reduceCtorEq, g48] at q9
            exact q9
          refine G.callV (as := []) (rest := []) (a := 37) oX1_nightComes lk_EvenFinders_Work_115 (by decide +kernel) rfl rfl ⟨rfl, rfl⟩ (Nat.le_of_ble_eq_true rfl) rfl ⟨Nat.le_of_ble_eq_true rfl, Nat.le_of_ble_eq_true rfl⟩ t51 (fun v9 N9 h52 => ?_) (fun E9 N9 h52 => by cases h52)
          cases h52
          show G z mX9_isDone (d + 4) 0 0 64 [some (.ref 37), some (.int x1), some (.int x2), some (.int x3)] [.int v49] (mrow M 38 r50) Q
          refine G.mem (M' := mrow (mrow (mrow M 22 (M.1 22)) 24 (M.1 24)) 38 r50) ((((mrow_id (N := mrow M 38 r50) (c := 22) (f := M.1 22) (by first | rfl | (simp only [mput, mrow_same, mrow_hit, mrow_miss, mrow_sw, idr_eq, ne_eq, Nat.reduceEqDiff, not_false_eq_true, Nat.reduceLT, reduceCtorEq]; done))).symm).trans (mrow_id (N := mrow (mrow M 38 r50) 22 (M.1 22)) (c := 24) (f := M.1 24) (by first | rfl | (simp only [mput, mrow_same, mrow_hit, mrow_miss, mrow_sw, idr_eq, ne_eq, Nat.reduceEqDiff, not_false_eq_true, Nat.reduceLT, reduceCtorEq]; done))).symm).trans (by first | rfl | (simp only [mput, mrow_same, mrow_hit, mrow_miss, mrow_sw, idr_eq, ne_eq, Nat.reduceEqDiff, not_false_eq_true, Nat.reduceLT, reduceCtorEq]; done))) ?_
          exact G.reti (by decide +kernel) rfl (nar01 ev49) (Nat.le_of_ble_eq_true rfl) (Nat.le_of_ble_eq_true rfl) ((by rw [hQ]; simp only [x_isDone, if_neg c1, if_neg c12, if_neg c25, if_neg c36, g48, mrow_self]))
set_option maxHeartbeats 4000000 in
set_option maxRecDepth 3000 in
theorem c_d_placeOf_37 (z : Zp) (d : Nat) (M : Mem) (n1 : Nat) (b1 : n1 < 10) (hk : d_placeOf_ok (M.1 38) n1) : GM z mX1_placeOf (d) [.ref 37, .int (nI n1)] M (fun rs => rs = .inl (some (.int (d_placeOf (M.1 38) n1)), M)) := by
  simp only [d_placeOf_ok] at hk
  refine GM.of oX1_placeOf.1 (Nat.le_of_ble_eq_true rfl) ?_
  show G z mX1_placeOf (d) 0 0 0 [some (.ref 37), some (.int (nI n1)), none] [] M _
  obtain ⟨Q, hQ⟩ : ∃ Q : Rs → Prop, Q = (fun rs => rs = .inl (some (.int (d_placeOf (M.1 38) n1)), M)) := ⟨_, rfl⟩
  rw [← hQ]
  refine G.sl [(.aload_n 0, 1, 0, 0, 0, 0), (.getfield 9, 3, 1, 0, 73, 0), (.bipush 41, 2, 0, 0, 0, nI 41), (.iload_n 1, 1, 1, 0, 0, 0), (.iadd, 1, 0, 0, 0, 0), (.iaload, 1, 0, 0, 0, 0), (.istore_n 2, 1, 2, 0, 0, 0), (.iload_n 2, 1, 2, 0, 0, 0), (.iconst (-1), 1, 0, 0, 0, (-1))] [41 + n1] (pc2 := 12) (ls2 := [some (.ref 37), some (.int (nI n1)), some (.int (M.1 38 (41 + n1)))]) (st2 := [.int ((-1)), .int (M.1 38 (41 + n1))]) (M2 := M) (Ps := [((nI 41) + (nI n1)) = nI (41 + n1) ∧ (41 + n1) < 51]) (by decide +kernel) rfl rfl ⟨⟨(nI_add _ _), (by omega)⟩, trivial⟩ ?_
  refine G.ic_ne (off := (15)) (tgt := 27) (by decide +kernel) rfl (fun c1 => ?_) (fun c1 => ?_)
  · skip
    rw [if_neg c1] at hk
    obtain ⟨k2, k3, hk⟩ := hk
    refine G.sl [(.aload_n 0, 1, 0, 0, 0, 0), (.getfield 9, 3, 1, 0, 73, 0), (.iconst 1, 1, 0, 0, 0, nI 1), (.iload_n 2, 1, 2, 0, 0, 0), (.iadd, 1, 0, 0, 0, 0), (.iaload, 1, 0, 0, 0, 0)] [1 + (ix (M.1 38 (41 + n1)))] (pc2 := 35) (ls2 := [some (.ref 37), some (.int (nI n1)), some (.int (M.1 38 (41 + n1)))]) (st2 := [.int (M.1 38 (1 + (ix (M.1 38 (41 + n1)))))]) (M2 := M) (Ps := [((nI 1) + (M.1 38 (41 + n1))) = nI (1 + (ix (M.1 38 (41 + n1)))) ∧ (1 + (ix (M.1 38 (41 + n1)))) < 51]) (by decide +kernel) rfl rfl ⟨⟨(nAdd rfl (ixE k2)), k3⟩, trivial⟩ ?_
    exact G.reti (by decide +kernel) rfl rfl (Nat.le_of_ble_eq_true rfl) (Nat.le_of_ble_eq_true rfl) ((by rw [hQ]; simp only [d_placeOf, if_neg c1, mrow_self]))
  · skip
    rw [if_pos c1] at hk
    refine G.sl [(.aload_n 0, 1, 0, 0, 0, 0), (.getfield 9, 3, 1, 0, 73, 0), (.bipush 31, 2, 0, 0, 0, nI 31), (.iload_n 1, 1, 1, 0, 0, 0), (.iadd, 1, 0, 0, 0, 0), (.iaload, 1, 0, 0, 0, 0), (.goto 11, 3, 35, 0, 0, 0)] [31 + n1] (pc2 := 35) (ls2 := [some (.ref 37), some (.int (nI n1)), some (.int (M.1 38 (41 + n1)))]) (st2 := [.int (M.1 38 (31 + n1))]) (M2 := M) (Ps := [((nI 31) + (nI n1)) = nI (31 + n1) ∧ (31 + n1) < 51]) (by decide +kernel) rfl rfl ⟨⟨(nI_add _ _), (by omega)⟩, trivial⟩ ?_
    exact G.reti (by decide +kernel) rfl rfl (Nat.le_of_ble_eq_true rfl) (Nat.le_of_ble_eq_true rfl) ((by rw [hQ]; simp only [d_placeOf, if_pos c1, mrow_self]))
set_option maxHeartbeats 4000000 in
set_option maxRecDepth 3000 in
theorem lp_v_worthOf_3_4 (z : Zp) (d : Nat) (M : Mem) (Q : Rs → Prop) (x1 : Int32) (nt : Nat) (hnt : nt ≤ 10) (ht : M.1 3 2 = nI nt) (hX : G z mX7_worthOf (d) 0 0 35 [none, none, some (.int (v_worthOf_4 (M.1 7) x1 nt)), none] [] M Q) : G z mX7_worthOf (d) 0 0 4 [some (.ref 3), some (.int x1), some (.int (nI 0)), some (.int (nI 0))] [] M Q := by
  refine down (n := nt) (P := fun i3 => G z mX7_worthOf (d) 0 0 4 [some (.ref 3), some (.int x1), some (.int (v_worthOf_4 (M.1 7) x1 i3)), some (.int (nI i3))] [] M Q) ?_ ?_ 0 (Nat.zero_le _)
  · skip
    refine G.sl [(.iload_n 3, 1, 3, 0, 0, 0), (.aload_n 0, 1, 0, 0, 0, 0), (.getfield 43, 3, 6, 2, 22, 0)] [] (pc2 := 9) (ls2 := [some (.ref 3), some (.int x1), some (.int (v_worthOf_4 (M.1 7) x1 nt)), some (.int (nI nt))]) (st2 := [.int (M.1 3 2), .int (nI nt)]) (M2 := M) (Ps := []) (by decide +kernel) rfl rfl trivial ?_
    rw [ht]
    refine G.ic_ge (off := (26)) (tgt := 35) (by decide +kernel) rfl (fun _ => ?_) (fun h9 => absurd (nI_le (by omega) (by omega)) h9)
    refine G.loc (ls2 := [none, none, some (.int (v_worthOf_4 (M.1 7) x1 nt)), none]) (by simp [subL]) ?_
    exact hX
  · skip
    intro i3 hi ih
    show G z mX7_worthOf (d) 0 0 4 [some (.ref 3), some (.int x1), some (.int (v_worthOf_4 (M.1 7) x1 i3)), some (.int (nI i3))] [] M Q
    refine G.sl [(.iload_n 3, 1, 3, 0, 0, 0), (.aload_n 0, 1, 0, 0, 0, 0), (.getfield 43, 3, 6, 2, 22, 0)] [] (pc2 := 9) (ls2 := [some (.ref 3), some (.int x1), some (.int (v_worthOf_4 (M.1 7) x1 i3)), some (.int (nI i3))]) (st2 := [.int (M.1 3 2), .int (nI i3)]) (M2 := M) (Ps := []) (by decide +kernel) rfl rfl trivial ?_
    rw [ht]
    refine G.ic_ge (off := (26)) (tgt := 35) (by decide +kernel) rfl (fun h9 => absurd h9 (nI_ge (by omega) (by omega))) (fun _ => ?_)
    refine G.sl [(.iload_n 1, 1, 1, 0, 0, 0), (.iload_n 3, 1, 3, 0, 0, 0), (.ishr, 1, 0, 0, 0, 0), (.iconst 1, 1, 0, 0, 0, nI 1), (.iand, 1, 0, 0, 0, 0)] [] (pc2 := 17) (ls2 := [some (.ref 3), some (.int x1), some (.int (v_worthOf_4 (M.1 7) x1 i3)), some (.int (nI i3))]) (st2 := [.int ((x1 >>> ((nI i3) &&& 31)) &&& (nI 1))]) (M2 := M) (Ps := []) (by decide +kernel) rfl rfl trivial ?_
    refine G.if_eq (off := (12)) (tgt := 29) (by decide +kernel) rfl (fun c1 => ?_) (fun c1 => ?_)
    · skip
      refine G.sl [(.iinc 3 1, 3, 3, 0, 0, nI 1), (.goto (-28), 3, 4, 0, 0, 0)] [] (pc2 := 4) (ls2 := [some (.ref 3), some (.int x1), some (.int (v_worthOf_4 (M.1 7) x1 i3)), some (.int ((nI i3) + nI 1))]) (st2 := []) (M2 := M) (Ps := []) (by decide +kernel) rfl rfl trivial ?_
      rw [nI_add i3 1]
      simp only [v_worthOf_4, if_pos c1] at ih
      exact ih
    · skip
      refine G.sl [(.iload_n 2, 1, 2, 0, 0, 0), (.aload_n 0, 1, 0, 0, 0, 0), (.getfield 21, 3, 6, 7, 42, 0), (.iload_n 3, 1, 3, 0, 0, 0), (.iaload, 1, 0, 0, 0, 0), (.iadd, 1, 0, 0, 0, 0), (.istore_n 2, 1, 2, 0, 0, 0), (.iinc 3 1, 3, 3, 0, 0, nI 1), (.goto (-28), 3, 4, 0, 0, 0)] [i3] (pc2 := 4) (ls2 := [some (.ref 3), some (.int x1), some (.int ((v_worthOf_4 (M.1 7) x1 i3) + (M.1 7 i3))), some (.int ((nI i3) + nI 1))]) (st2 := []) (M2 := M) (Ps := [(nI i3) = nI i3 ∧ i3 < 10]) (by decide +kernel) rfl rfl ⟨⟨rfl, (by omega)⟩, trivial⟩ ?_
      rw [nI_add i3 1]
      simp only [v_worthOf_4, if_neg c1] at ih
      exact ih
set_option maxHeartbeats 4000000 in
set_option maxRecDepth 3000 in
theorem c_v_worthOf_3 (z : Zp) (d : Nat) (M : Mem) (x1 : Int32) (nt : Nat) (hnt : nt ≤ 10) (ht : M.1 3 2 = nI nt) : GM z mX7_worthOf (d) [.ref 3, .int x1] M (fun rs => rs = .inl (some (.int (v_worthOf (M.1 7) nt x1)), M)) := by
  refine GM.of oX7_worthOf.1 (Nat.le_of_ble_eq_true rfl) ?_
  show G z mX7_worthOf (d) 0 0 0 [some (.ref 3), some (.int x1), none, none] [] M _
  obtain ⟨Q, hQ⟩ : ∃ Q : Rs → Prop, Q = (fun rs => rs = .inl (some (.int (v_worthOf (M.1 7) nt x1)), M)) := ⟨_, rfl⟩
  rw [← hQ]
  refine G.sl [(.iconst 0, 1, 0, 0, 0, nI 0), (.istore_n 2, 1, 2, 0, 0, 0), (.iconst 0, 1, 0, 0, 0, nI 0), (.istore_n 3, 1, 3, 0, 0, 0)] [] (pc2 := 4) (ls2 := [some (.ref 3), some (.int x1), some (.int (nI 0)), some (.int (nI 0))]) (st2 := []) (M2 := M) (Ps := []) (by decide +kernel) rfl rfl trivial ?_
  refine lp_v_worthOf_3_4 z d M Q x1 nt hnt ht ?_
  show G z mX7_worthOf (d) 0 0 35 [none, none, some (.int (v_worthOf_4 (M.1 7) x1 nt)), none] [] M Q
  refine G.sl [(.iload_n 2, 1, 2, 0, 0, 0)] [] (pc2 := 36) (ls2 := [none, none, some (.int (v_worthOf_4 (M.1 7) x1 nt)), none]) (st2 := [.int (v_worthOf_4 (M.1 7) x1 nt)]) (M2 := M) (Ps := []) (by decide +kernel) rfl rfl trivial ?_
  exact G.reti (by decide +kernel) rfl rfl (Nat.le_of_ble_eq_true rfl) (Nat.le_of_ble_eq_true rfl) ((by rw [hQ]; simp only [v_worthOf, mrow_self]))
set_option maxHeartbeats 4000000 in
set_option maxRecDepth 3000 in
theorem lp_d_leastToBeEven_37_32 (z : Zp) (d : Nat) (M : Mem) (Q : Rs → Prop) (x2 : Int32) (x3 : Int32) (nt : Nat) (hnt : nt ≤ 10) (ht : M.1 3 2 = nI nt) : ∀ (k0 : Nat) (s4 : Int32) (s5 : Int32) (s6 : Int32), d_leastToBeEven_32_ok (M.1 7) nt x2 x3 k0 s4 s5 s6 → (match d_leastToBeEven_32 (M.1 7) nt x2 x3 k0 s4 s5 s6 with | (s4', s5', s6') => G z mX1_leastToBeEven (d + 1) 0 0 98 [none, none, none, none, some (.int (s4')), none, none, none, none] [] M Q) → G z mX1_leastToBeEven (d + 1) 0 0 32 [some (.ref 37), none, some (.int x2), some (.int x3), some (.int s4), some (.int s5), some (.int s6), none, none] [] M Q := by
  intro k0
  induction k0 with
  | zero =>
      intro s4 s5 s6 hk hX
      exact (by simpa only [d_leastToBeEven_32_ok] using hk : False).elim
  | succ k0 ih =>
      intro s4 s5 s6 hk hX
      simp only [d_leastToBeEven_32_ok] at hk
      refine G.sl [(.iload 6, 2, 6, 0, 0, 0), (.iload_n 3, 1, 3, 0, 0, 0)] [] (pc2 := 35) (ls2 := [some (.ref 37), none, some (.int x2), some (.int x3), some (.int s4), some (.int s5), some (.int s6), none, none]) (st2 := [.int x3, .int s6]) (M2 := M) (Ps := []) (by decide +kernel) rfl rfl trivial ?_
      refine G.ic_gt (off := (63)) (tgt := 98) (by decide +kernel) rfl (fun c5 => ?_) (fun c5 => ?_)
      · skip
        rw [if_pos c5] at hk
        refine G.loc (ls2 := [none, none, none, none, some (.int s4), none, none, none, none]) (by simp [subL]) ?_
        simp only [d_leastToBeEven_32, if_pos c5] at hX
        exact hX
      · skip
        rw [if_neg c5] at hk
        refine G.sl [(.iload 6, 2, 6, 0, 0, 0), (.iload_n 3, 1, 3, 0, 0, 0), (.iconst (-1), 1, 0, 0, 0, (-1)), (.ixor, 1, 0, 0, 0, 0), (.iand, 1, 0, 0, 0, 0)] [] (pc2 := 44) (ls2 := [some (.ref 37), none, some (.int x2), some (.int x3), some (.int s4), some (.int s5), some (.int s6), none, none]) (st2 := [.int (s6 &&& (x3 ^^^ ((-1))))]) (M2 := M) (Ps := []) (by decide +kernel) rfl rfl trivial ?_
        refine G.if_ne (off := (48)) (tgt := 92) (by decide +kernel) rfl (fun c6 => ?_) (fun c6 => ?_)
        · skip
          rw [if_neg c6] at hk
          refine G.sl [(.iinc 6 1, 3, 6, 0, 0, nI 1), (.goto (-63), 3, 32, 0, 0, 0)] [] (pc2 := 32) (ls2 := [some (.ref 37), none, some (.int x2), some (.int x3), some (.int s4), some (.int s5), some (.int (s6 + nI 1)), none, none]) (st2 := []) (M2 := M) (Ps := []) (by decide +kernel) rfl rfl trivial ?_
          simp only [d_leastToBeEven_32, if_neg c5, if_neg c6] at hX
          exact ih s4 s5 (s6 + nI 1) hk hX
        · skip
          rw [if_pos c6] at hk
          refine G.sl [(.aload_n 0, 1, 0, 0, 0, 0), (.getfield 18, 3, 1, 2, 79, 0), (.iload 6, 2, 6, 0, 0, 0)] [] (pc2 := 53) (ls2 := [some (.ref 37), none, some (.int x2), some (.int x3), some (.int s4), some (.int s5), some (.int s6), none, none]) (st2 := [.int s6, .ref 3]) (M2 := M) (Ps := []) (by decide +kernel) rfl rfl trivial ?_
          obtain ⟨k7, hk⟩ := hk
          have t8 : GM z mX7_worthOf (d) [.ref 3, .int s6] M (fun rs => rs = .inl (some (.int (v_worthOf (M.1 7) nt s6)), M)) := by
            have q9 := c_v_worthOf_3 z d M s6 nt hnt ht
            try simp only [mput, mrow_same, mrow_hit, mrow_miss, mrow_sw, idr_eq, ne_eq, Nat.reduceEqDiff, not_false_eq_true, Nat.reduceLT, reduceCtorEq] at q9
            exact q9
          refine G.callV (as := [.int s6]) (rest := []) (a := 3) oX7_worthOf lk_EvenFinders_Days_109 (by decide +kernel) rfl rfl ⟨rfl, rfl⟩ (Nat.le_of_ble_eq_true rfl) rfl ⟨Nat.le_of_ble_eq_true rfl, Nat.le_of_ble_eq_true rfl⟩ t8 (fun v9 N9 h9 => ?_) (fun E9 N9 h9 => by cases h9)
          cases h9
          show G z mX1_leastToBeEven (d + 1) 0 0 56 [some (.ref 37), none, some (.int x2), some (.int x3), some (.int s4), some (.int s5), some (.int s6), none, none] [.int (v_worthOf (M.1 7) nt s6)] M Q
          refine G.sl [(.istore 7, 2, 7, 0, 0, 0), (.iload 7, 2, 7, 0, 0, 0), (.bipush 11, 2, 0, 0, 0, nI 11), (.imul, 1, 0, 0, 0, 0), (.iload 6, 2, 6, 0, 0, 0)] [] (pc2 := 65) (ls2 := [some (.ref 37), none, some (.int x2), some (.int x3), some (.int s4), some (.int s5), some (.int s6), some (.int (v_worthOf (M.1 7) nt s6)), none]) (st2 := [.int s6, .int ((v_worthOf (M.1 7) nt s6) * (nI 11))]) (M2 := M) (Ps := []) (by decide +kernel) rfl rfl trivial ?_
          obtain ⟨k10, hk⟩ := hk
          have t11 : GM z mJ6_bitCount_0f7a4 (d) [.int s6] M (fun rs => rs = .inl (some (.int (J6_bitCount_0f7a4 s6)), M)) := by
            have q9 := c_J6_bitCount_0f7a4 z d M s6
            try simp only [mput, mrow_same, mrow_hit, mrow_miss, mrow_sw, idr_eq, ne_eq, Nat.reduceEqDiff, not_false_eq_true, Nat.reduceLT, reduceCtorEq] at q9
            exact q9
          refine G.callS (as := [.int s6]) (rest := [.int ((v_worthOf (M.1 7) nt s6) * (nI 11))]) oJ6_bitCount_0f7a4 lk_EvenFinders_Days_97 (by decide +kernel) rfl (Nat.le_of_ble_eq_true rfl) rfl ⟨Nat.le_of_ble_eq_true rfl, Nat.le_of_ble_eq_true rfl⟩ t11 (fun v9 N9 h12 => ?_) (fun E9 N9 h12 => by cases h12)
          cases h12
          show G z mX1_leastToBeEven (d + 1) 0 0 68 [some (.ref 37), none, some (.int x2), some (.int x3), some (.int s4), some (.int s5), some (.int s6), some (.int (v_worthOf (M.1 7) nt s6)), none] [.int (J6_bitCount_0f7a4 s6), .int ((v_worthOf (M.1 7) nt s6) * (nI 11))] M Q
          refine G.sl [(.iadd, 1, 0, 0, 0, 0), (.istore 8, 2, 8, 0, 0, 0), (.iload 7, 2, 7, 0, 0, 0), (.iload_n 2, 1, 2, 0, 0, 0)] [] (pc2 := 74) (ls2 := [some (.ref 37), none, some (.int x2), some (.int x3), some (.int s4), some (.int s5), some (.int s6), some (.int (v_worthOf (M.1 7) nt s6)), some (.int (((v_worthOf (M.1 7) nt s6) * (nI 11)) + (J6_bitCount_0f7a4 s6)))]) (st2 := [.int x2, .int (v_worthOf (M.1 7) nt s6)]) (M2 := M) (Ps := []) (by decide +kernel) rfl rfl trivial ?_
          refine G.ic_lt (off := (18)) (tgt := 92) (by decide +kernel) rfl (fun c13 => ?_) (fun c13 => ?_)
          · skip
            rw [if_pos c13] at hk
            refine G.sl [(.iinc 6 1, 3, 6, 0, 0, nI 1), (.goto (-63), 3, 32, 0, 0, 0)] [] (pc2 := 32) (ls2 := [some (.ref 37), none, some (.int x2), some (.int x3), some (.int s4), some (.int s5), some (.int (s6 + nI 1)), some (.int (v_worthOf (M.1 7) nt s6)), some (.int (((v_worthOf (M.1 7) nt s6) * (nI 11)) + (J6_bitCount_0f7a4 s6)))]) (st2 := []) (M2 := M) (Ps := []) (by decide +kernel) rfl rfl trivial ?_
            refine G.loc (ls2 := [some (.ref 37), none, some (.int x2), some (.int x3), some (.int s4), some (.int s5), some (.int (s6 + nI 1)), none, none]) (by simp [subL]) ?_
            simp only [d_leastToBeEven_32, if_neg c5, if_pos c6, if_pos c13] at hX
            exact ih s4 s5 (s6 + nI 1) hk hX
          · skip
            rw [if_neg c13] at hk
            refine G.sl [(.iload 8, 2, 8, 0, 0, 0), (.iload 5, 2, 5, 0, 0, 0)] [] (pc2 := 81) (ls2 := [some (.ref 37), none, some (.int x2), some (.int x3), some (.int s4), some (.int s5), some (.int s6), some (.int (v_worthOf (M.1 7) nt s6)), some (.int (((v_worthOf (M.1 7) nt s6) * (nI 11)) + (J6_bitCount_0f7a4 s6)))]) (st2 := [.int s5, .int (((v_worthOf (M.1 7) nt s6) * (nI 11)) + (J6_bitCount_0f7a4 s6))]) (M2 := M) (Ps := []) (by decide +kernel) rfl rfl trivial ?_
            refine G.ic_ge (off := (11)) (tgt := 92) (by decide +kernel) rfl (fun c14 => ?_) (fun c14 => ?_)
            · skip
              rw [if_pos c14] at hk
              refine G.sl [(.iinc 6 1, 3, 6, 0, 0, nI 1), (.goto (-63), 3, 32, 0, 0, 0)] [] (pc2 := 32) (ls2 := [some (.ref 37), none, some (.int x2), some (.int x3), some (.int s4), some (.int s5), some (.int (s6 + nI 1)), some (.int (v_worthOf (M.1 7) nt s6)), some (.int (((v_worthOf (M.1 7) nt s6) * (nI 11)) + (J6_bitCount_0f7a4 s6)))]) (st2 := []) (M2 := M) (Ps := []) (by decide +kernel) rfl rfl trivial ?_
              refine G.loc (ls2 := [some (.ref 37), none, some (.int x2), some (.int x3), some (.int s4), some (.int s5), some (.int (s6 + nI 1)), none, none]) (by simp [subL]) ?_
              simp only [d_leastToBeEven_32, if_neg c5, if_pos c6, if_neg c13, if_pos c14] at hX
              exact ih s4 s5 (s6 + nI 1) hk hX
            · skip
              rw [if_neg c14] at hk
              refine G.sl [(.iload 6, 2, 6, 0, 0, 0), (.istore 4, 2, 4, 0, 0, 0), (.iload 8, 2, 8, 0, 0, 0), (.istore 5, 2, 5, 0, 0, 0), (.iinc 6 1, 3, 6, 0, 0, nI 1), (.goto (-63), 3, 32, 0, 0, 0)] [] (pc2 := 32) (ls2 := [some (.ref 37), none, some (.int x2), some (.int x3), some (.int s6), some (.int (((v_worthOf (M.1 7) nt s6) * (nI 11)) + (J6_bitCount_0f7a4 s6))), some (.int (s6 + nI 1)), some (.int (v_worthOf (M.1 7) nt s6)), some (.int (((v_worthOf (M.1 7) nt s6) * (nI 11)) + (J6_bitCount_0f7a4 s6)))]) (st2 := []) (M2 := M) (Ps := []) (by decide +kernel) rfl rfl trivial ?_
              refine G.loc (ls2 := [some (.ref 37), none, some (.int x2), some (.int x3), some (.int s6), some (.int (((v_worthOf (M.1 7) nt s6) * (nI 11)) + (J6_bitCount_0f7a4 s6))), some (.int (s6 + nI 1)), none, none]) (by simp [subL]) ?_
              simp only [d_leastToBeEven_32, if_neg c5, if_pos c6, if_neg c13, if_neg c14] at hX
              exact ih s6 (((v_worthOf (M.1 7) nt s6) * (nI 11)) + (J6_bitCount_0f7a4 s6)) (s6 + nI 1) hk hX
set_option maxHeartbeats 4000000 in
set_option maxRecDepth 3000 in
theorem c_d_leastToBeEven_37 (z : Zp) (d : Nat) (M : Mem) (n1 : Nat) (nt : Nat) (hnt : nt ≤ 10) (ht : M.1 3 2 = nI nt) (b1 : n1 < 6) (hk : d_leastToBeEven_ok (M.1 7) (M.1 38) nt n1) : GM z mX1_leastToBeEven (d + 1) [.ref 37, .int (nI n1)] M (fun rs => rs = .inl (some (.int (d_leastToBeEven (M.1 7) (M.1 38) nt n1)), M)) := by
  simp only [d_leastToBeEven_ok] at hk
  refine GM.of oX1_leastToBeEven.1 (Nat.le_of_ble_eq_true rfl) ?_
  show G z mX1_leastToBeEven (d + 1) 0 0 0 [some (.ref 37), some (.int (nI n1)), none, none, none, none, none, none, none] [] M _
  obtain ⟨Q, hQ⟩ : ∃ Q : Rs → Prop, Q = (fun rs => rs = .inl (some (.int (d_leastToBeEven (M.1 7) (M.1 38) nt n1)), M)) := ⟨_, rfl⟩
  rw [← hQ]
  refine G.sl [(.aload_n 0, 1, 0, 0, 0, 0), (.getfield 9, 3, 1, 0, 73, 0), (.bipush 7, 2, 0, 0, 0, nI 7), (.iload_n 1, 1, 1, 0, 0, 0), (.iadd, 1, 0, 0, 0, 0), (.iaload, 1, 0, 0, 0, 0), (.istore_n 2, 1, 2, 0, 0, 0), (.iload_n 2, 1, 2, 0, 0, 0)] [7 + n1] (pc2 := 11) (ls2 := [some (.ref 37), some (.int (nI n1)), some (.int (M.1 38 (7 + n1))), none, none, none, none, none, none]) (st2 := [.int (M.1 38 (7 + n1))]) (M2 := M) (Ps := [((nI 7) + (nI n1)) = nI (7 + n1) ∧ (7 + n1) < 51]) (by decide +kernel) rfl rfl ⟨⟨(nI_add _ _), (by omega)⟩, trivial⟩ ?_
  refine G.if_gt (off := (5)) (tgt := 16) (by decide +kernel) rfl (fun c1 => ?_) (fun c1 => ?_)
  · skip
    rw [if_pos c1] at hk
    refine G.sl [(.aload_n 0, 1, 0, 0, 0, 0), (.iload_n 1, 1, 1, 0, 0, 0)] [] (pc2 := 18) (ls2 := [some (.ref 37), some (.int (nI n1)), some (.int (M.1 38 (7 + n1))), none, none, none, none, none, none]) (st2 := [.int (nI n1), .ref 37]) (M2 := M) (Ps := []) (by decide +kernel) rfl rfl trivial ?_
    obtain ⟨k2, hk⟩ := hk
    have t3 : GM z mX1_heldBy (d) [.ref 37, .int (nI n1)] M (fun rs => rs = .inl (some (.int (d_heldBy (M.1 38) nt (nI n1))), M)) := by
      have q9 := c_d_heldBy_37 z d M (nI n1) nt hnt ht
      try simp only [mput, mrow_same, mrow_hit, mrow_miss, mrow_sw, idr_eq, ne_eq, Nat.reduceEqDiff, not_false_eq_true, Nat.reduceLT, reduceCtorEq] at q9
      exact q9
    refine G.callV (as := [.int (nI n1)]) (rest := []) (a := 37) oX1_heldBy lk_EvenFinders_Days_94 (by decide +kernel) rfl rfl ⟨rfl, rfl⟩ (Nat.le_of_ble_eq_true rfl) rfl ⟨Nat.le_of_ble_eq_true rfl, Nat.le_of_ble_eq_true rfl⟩ t3 (fun v9 N9 h4 => ?_) (fun E9 N9 h4 => by cases h4)
    cases h4
    show G z mX1_leastToBeEven (d + 1) 0 0 21 [some (.ref 37), some (.int (nI n1)), some (.int (M.1 38 (7 + n1))), none, none, none, none, none, none] [.int (d_heldBy (M.1 38) nt (nI n1))] M Q
    refine G.sl [(.istore_n 3, 1, 3, 0, 0, 0), (.iconst (-1), 1, 0, 0, 0, (-1)), (.istore 4, 2, 4, 0, 0, 0), (.ldc 112, 2, 0, 0, 4, nI 1000000), (.istore 5, 2, 5, 0, 0, 0), (.iconst 1, 1, 0, 0, 0, nI 1), (.istore 6, 2, 6, 0, 0, 0)] [] (pc2 := 32) (ls2 := [some (.ref 37), some (.int (nI n1)), some (.int (M.1 38 (7 + n1))), some (.int (d_heldBy (M.1 38) nt (nI n1))), some (.int ((-1))), some (.int (nI 1000000)), some (.int (nI 1)), none, none]) (st2 := []) (M2 := M) (Ps := []) (by decide +kernel) rfl rfl trivial ?_
    refine G.loc (ls2 := [some (.ref 37), none, some (.int (M.1 38 (7 + n1))), some (.int (d_heldBy (M.1 38) nt (nI n1))), some (.int ((-1))), some (.int (nI 1000000)), some (.int (nI 1)), none, none]) (by simp [subL]) ?_
    obtain ⟨k15, hk⟩ := hk
    refine lp_d_leastToBeEven_37_32 z d M Q (M.1 38 (7 + n1)) (d_heldBy (M.1 38) nt (nI n1)) nt hnt ht FU ((-1)) (nI 1000000) (nI 1) (by first | (simp only [mput, mrow_same, mrow_hit, mrow_miss, mrow_sw, idr_eq, ne_eq, Nat.reduceEqDiff, not_false_eq_true, Nat.reduceLT, reduceCtorEq]; exact k15) | exact k15) ?_
    try simp only [mput, mrow_same, mrow_hit, mrow_miss, mrow_sw, idr_eq, ne_eq, Nat.reduceEqDiff, not_false_eq_true, Nat.reduceLT, reduceCtorEq]
    rcases g16 : d_leastToBeEven_32 (M.1 7) nt (M.1 38 (7 + n1)) (d_heldBy (M.1 38) nt (nI n1)) FU ((-1)) (nI 1000000) (nI 1) with ⟨v17, v18, v19⟩
    show G z mX1_leastToBeEven (d + 1) 0 0 98 [none, none, none, none, some (.int v17), none, none, none, none] [] M Q
    refine G.sl [(.iload 4, 2, 4, 0, 0, 0)] [] (pc2 := 100) (ls2 := [none, none, none, none, some (.int v17), none, none, none, none]) (st2 := [.int v17]) (M2 := M) (Ps := []) (by decide +kernel) rfl rfl trivial ?_
    exact G.reti (by decide +kernel) rfl rfl (Nat.le_of_ble_eq_true rfl) (Nat.le_of_ble_eq_true rfl) ((by rw [hQ]; simp only [d_leastToBeEven, if_pos c1, g16, mrow_self]))
  · skip
    rw [if_neg c1] at hk
    refine G.sl [(.iconst 0, 1, 0, 0, 0, nI 0)] [] (pc2 := 15) (ls2 := [some (.ref 37), some (.int (nI n1)), some (.int (M.1 38 (7 + n1))), none, none, none, none, none, none]) (st2 := [.int (nI 0)]) (M2 := M) (Ps := []) (by decide +kernel) rfl rfl trivial ?_
    exact G.reti (by decide +kernel) rfl rfl (Nat.le_of_ble_eq_true rfl) (Nat.le_of_ble_eq_true rfl) ((by rw [hQ]; simp only [d_leastToBeEven, if_neg c1, mrow_self]))
set_option maxHeartbeats 4000000 in
set_option maxRecDepth 3000 in
theorem lp_d_setsWorth_37_12 (z : Zp) (d : Nat) (M : Mem) (Q : Rs → Prop) (x2 : Int32) (x3 : Int32) (nt : Nat) (hnt : nt ≤ 10) (ht : M.1 3 2 = nI nt) : ∀ (k0 : Nat) (s4 : Int32) (s5 : Int32), d_setsWorth_12_ok (M.1 7) nt x2 x3 k0 s4 s5 → (match d_setsWorth_12 (M.1 7) nt x2 x3 k0 s4 s5 with | (s4', s5') => G z mX1_setsWorth (d + 1) 0 0 49 [none, none, none, none, some (.int (s4')), none] [] M Q) → G z mX1_setsWorth (d + 1) 0 0 12 [some (.ref 37), none, some (.int x2), some (.int x3), some (.int s4), some (.int s5)] [] M Q := by
  intro k0
  induction k0 with
  | zero =>
      intro s4 s5 hk hX
      exact (by simpa only [d_setsWorth_12_ok] using hk : False).elim
  | succ k0 ih =>
      intro s4 s5 hk hX
      simp only [d_setsWorth_12_ok] at hk
      refine G.sl [(.iload 5, 2, 5, 0, 0, 0), (.iload_n 3, 1, 3, 0, 0, 0)] [] (pc2 := 15) (ls2 := [some (.ref 37), none, some (.int x2), some (.int x3), some (.int s4), some (.int s5)]) (st2 := [.int x3, .int s5]) (M2 := M) (Ps := []) (by decide +kernel) rfl rfl trivial ?_
      refine G.ic_gt (off := (34)) (tgt := 49) (by decide +kernel) rfl (fun c4 => ?_) (fun c4 => ?_)
      · skip
        rw [if_pos c4] at hk
        refine G.loc (ls2 := [none, none, none, none, some (.int s4), none]) (by simp [subL]) ?_
        simp only [d_setsWorth_12, if_pos c4] at hX
        exact hX
      · skip
        rw [if_neg c4] at hk
        refine G.sl [(.iload 5, 2, 5, 0, 0, 0), (.iload_n 3, 1, 3, 0, 0, 0), (.iconst (-1), 1, 0, 0, 0, (-1)), (.ixor, 1, 0, 0, 0, 0), (.iand, 1, 0, 0, 0, 0)] [] (pc2 := 24) (ls2 := [some (.ref 37), none, some (.int x2), some (.int x3), some (.int s4), some (.int s5)]) (st2 := [.int (s5 &&& (x3 ^^^ ((-1))))]) (M2 := M) (Ps := []) (by decide +kernel) rfl rfl trivial ?_
        refine G.if_ne (off := (19)) (tgt := 43) (by decide +kernel) rfl (fun c5 => ?_) (fun c5 => ?_)
        · skip
          rw [if_neg c5] at hk
          refine G.sl [(.iinc 5 1, 3, 5, 0, 0, nI 1), (.goto (-34), 3, 12, 0, 0, 0)] [] (pc2 := 12) (ls2 := [some (.ref 37), none, some (.int x2), some (.int x3), some (.int s4), some (.int (s5 + nI 1))]) (st2 := []) (M2 := M) (Ps := []) (by decide +kernel) rfl rfl trivial ?_
          simp only [d_setsWorth_12, if_neg c4, if_neg c5] at hX
          exact ih s4 (s5 + nI 1) hk hX
        · skip
          rw [if_pos c5] at hk
          refine G.sl [(.aload_n 0, 1, 0, 0, 0, 0), (.getfield 18, 3, 1, 2, 79, 0), (.iload 5, 2, 5, 0, 0, 0)] [] (pc2 := 33) (ls2 := [some (.ref 37), none, some (.int x2), some (.int x3), some (.int s4), some (.int s5)]) (st2 := [.int s5, .ref 3]) (M2 := M) (Ps := []) (by decide +kernel) rfl rfl trivial ?_
          obtain ⟨k6, hk⟩ := hk
          have t7 : GM z mX7_worthOf (d) [.ref 3, .int s5] M (fun rs => rs = .inl (some (.int (v_worthOf (M.1 7) nt s5)), M)) := by
            have q9 := c_v_worthOf_3 z d M s5 nt hnt ht
            try simp only [mput, mrow_same, mrow_hit, mrow_miss, mrow_sw, idr_eq, ne_eq, Nat.reduceEqDiff, not_false_eq_true, Nat.reduceLT, reduceCtorEq] at q9
            exact q9
          refine G.callV (as := [.int s5]) (rest := []) (a := 3) oX7_worthOf lk_EvenFinders_Days_109 (by decide +kernel) rfl rfl ⟨rfl, rfl⟩ (Nat.le_of_ble_eq_true rfl) rfl ⟨Nat.le_of_ble_eq_true rfl, Nat.le_of_ble_eq_true rfl⟩ t7 (fun v9 N9 h8 => ?_) (fun E9 N9 h8 => by cases h8)
          cases h8
          show G z mX1_setsWorth (d + 1) 0 0 36 [some (.ref 37), none, some (.int x2), some (.int x3), some (.int s4), some (.int s5)] [.int (v_worthOf (M.1 7) nt s5)] M Q
          refine G.sl [(.iload_n 2, 1, 2, 0, 0, 0)] [] (pc2 := 37) (ls2 := [some (.ref 37), none, some (.int x2), some (.int x3), some (.int s4), some (.int s5)]) (st2 := [.int x2, .int (v_worthOf (M.1 7) nt s5)]) (M2 := M) (Ps := []) (by decide +kernel) rfl rfl trivial ?_
          refine G.ic_ne (off := (6)) (tgt := 43) (by decide +kernel) rfl (fun c9 => ?_) (fun c9 => ?_)
          · skip
            rw [if_neg c9] at hk
            refine G.sl [(.iinc 5 1, 3, 5, 0, 0, nI 1), (.goto (-34), 3, 12, 0, 0, 0)] [] (pc2 := 12) (ls2 := [some (.ref 37), none, some (.int x2), some (.int x3), some (.int s4), some (.int (s5 + nI 1))]) (st2 := []) (M2 := M) (Ps := []) (by decide +kernel) rfl rfl trivial ?_
            simp only [d_setsWorth_12, if_neg c4, if_pos c5, if_neg c9] at hX
            exact ih s4 (s5 + nI 1) hk hX
          · skip
            rw [if_pos c9] at hk
            refine G.sl [(.iinc 4 1, 3, 4, 0, 0, nI 1), (.iinc 5 1, 3, 5, 0, 0, nI 1), (.goto (-34), 3, 12, 0, 0, 0)] [] (pc2 := 12) (ls2 := [some (.ref 37), none, some (.int x2), some (.int x3), some (.int (s4 + nI 1)), some (.int (s5 + nI 1))]) (st2 := []) (M2 := M) (Ps := []) (by decide +kernel) rfl rfl trivial ?_
            simp only [d_setsWorth_12, if_neg c4, if_pos c5, if_pos c9] at hX
            exact ih (s4 + nI 1) (s5 + nI 1) hk hX
set_option maxHeartbeats 4000000 in
set_option maxRecDepth 3000 in
theorem c_d_setsWorth_37 (z : Zp) (d : Nat) (M : Mem) (x1 : Int32) (x2 : Int32) (nt : Nat) (hnt : nt ≤ 10) (ht : M.1 3 2 = nI nt) (hk : d_setsWorth_ok (M.1 7) (M.1 38) nt x1 x2) : GM z mX1_setsWorth (d + 1) [.ref 37, .int x1, .int x2] M (fun rs => rs = .inl (some (.int (d_setsWorth (M.1 7) (M.1 38) nt x1 x2)), M)) := by
  simp only [d_setsWorth_ok] at hk
  refine GM.of oX1_setsWorth.1 (Nat.le_of_ble_eq_true rfl) ?_
  show G z mX1_setsWorth (d + 1) 0 0 0 [some (.ref 37), some (.int x1), some (.int x2), none, none, none] [] M _
  obtain ⟨Q, hQ⟩ : ∃ Q : Rs → Prop, Q = (fun rs => rs = .inl (some (.int (d_setsWorth (M.1 7) (M.1 38) nt x1 x2)), M)) := ⟨_, rfl⟩
  rw [← hQ]
  refine G.sl [(.aload_n 0, 1, 0, 0, 0, 0), (.iload_n 1, 1, 1, 0, 0, 0)] [] (pc2 := 2) (ls2 := [some (.ref 37), some (.int x1), some (.int x2), none, none, none]) (st2 := [.int x1, .ref 37]) (M2 := M) (Ps := []) (by decide +kernel) rfl rfl trivial ?_
  obtain ⟨k1, hk⟩ := hk
  have t2 : GM z mX1_heldBy (d) [.ref 37, .int x1] M (fun rs => rs = .inl (some (.int (d_heldBy (M.1 38) nt x1)), M)) := by
    have q9 := c_d_heldBy_37 z d M x1 nt hnt ht
    try simp only [mput, mrow_same, mrow_hit, mrow_miss, mrow_sw, idr_eq, ne_eq, Nat.reduceEqDiff, not_false_eq_true, Nat.reduceLT, reduceCtorEq] at q9
    exact q9
  refine G.callV (as := [.int x1]) (rest := []) (a := 37) oX1_heldBy lk_EvenFinders_Days_94 (by decide +kernel) rfl rfl ⟨rfl, rfl⟩ (Nat.le_of_ble_eq_true rfl) rfl ⟨Nat.le_of_ble_eq_true rfl, Nat.le_of_ble_eq_true rfl⟩ t2 (fun v9 N9 h3 => ?_) (fun E9 N9 h3 => by cases h3)
  cases h3
  show G z mX1_setsWorth (d + 1) 0 0 5 [some (.ref 37), some (.int x1), some (.int x2), none, none, none] [.int (d_heldBy (M.1 38) nt x1)] M Q
  refine G.sl [(.istore_n 3, 1, 3, 0, 0, 0), (.iconst 0, 1, 0, 0, 0, nI 0), (.istore 4, 2, 4, 0, 0, 0), (.iconst 0, 1, 0, 0, 0, nI 0), (.istore 5, 2, 5, 0, 0, 0)] [] (pc2 := 12) (ls2 := [some (.ref 37), some (.int x1), some (.int x2), some (.int (d_heldBy (M.1 38) nt x1)), some (.int (nI 0)), some (.int (nI 0))]) (st2 := []) (M2 := M) (Ps := []) (by decide +kernel) rfl rfl trivial ?_
  refine G.loc (ls2 := [some (.ref 37), none, some (.int x2), some (.int (d_heldBy (M.1 38) nt x1)), some (.int (nI 0)), some (.int (nI 0))]) (by simp [subL]) ?_
  obtain ⟨k10, hk⟩ := hk
  refine lp_d_setsWorth_37_12 z d M Q x2 (d_heldBy (M.1 38) nt x1) nt hnt ht FU (nI 0) (nI 0) (by first | (simp only [mput, mrow_same, mrow_hit, mrow_miss, mrow_sw, idr_eq, ne_eq, Nat.reduceEqDiff, not_false_eq_true, Nat.reduceLT, reduceCtorEq]; exact k10) | exact k10) ?_
  try simp only [mput, mrow_same, mrow_hit, mrow_miss, mrow_sw, idr_eq, ne_eq, Nat.reduceEqDiff, not_false_eq_true, Nat.reduceLT, reduceCtorEq]
  rcases g11 : d_setsWorth_12 (M.1 7) nt x2 (d_heldBy (M.1 38) nt x1) FU (nI 0) (nI 0) with ⟨v12, v13⟩
  show G z mX1_setsWorth (d + 1) 0 0 49 [none, none, none, none, some (.int v12), none] [] M Q
  refine G.sl [(.iload 4, 2, 4, 0, 0, 0)] [] (pc2 := 51) (ls2 := [none, none, none, none, some (.int v12), none]) (st2 := [.int v12]) (M2 := M) (Ps := []) (by decide +kernel) rfl rfl trivial ?_
  exact G.reti (by decide +kernel) rfl rfl (Nat.le_of_ble_eq_true rfl) (Nat.le_of_ble_eq_true rfl) ((by rw [hQ]; simp only [d_setsWorth, g11, mrow_self]))
set_option maxHeartbeats 4000000 in
set_option maxRecDepth 3000 in
theorem lp_d_eachEnough_37_15 (z : Zp) (d : Nat) (M : Mem) (Q : Rs → Prop) (n1 : Nat) (x2 : Int32) (nt : Nat) (hnt : nt ≤ 10) (ht : M.1 3 2 = nI nt) (b1 : n1 < 6) : ∀ (k0 : Nat) (i4 : Nat) (s3 : Int32), i4 + k0 = nt → (match d_eachEnough_15 (M.1 7) (M.1 38) n1 x2 k0 i4 s3 with | s3' => G z mX1_eachEnough (d) 0 0 72 [none, none, none, some (.int (s3')), none] [] M Q) → G z mX1_eachEnough (d) 0 0 15 [some (.ref 37), some (.int (nI n1)), some (.int x2), some (.int s3), some (.int (nI i4))] [] M Q := by
  intro k0
  induction k0 with
  | zero =>
      intro i4 s3 hn hX
      refine G.sl [(.iload 4, 2, 4, 0, 0, 0), (.aload_n 0, 1, 0, 0, 0, 0), (.getfield 18, 3, 1, 2, 79, 0), (.getfield 86, 3, 6, 2, 28, 0)] [] (pc2 := 24) (ls2 := [some (.ref 37), some (.int (nI n1)), some (.int x2), some (.int s3), some (.int (nI i4))]) (st2 := [.int (M.1 3 2), .int (nI i4)]) (M2 := M) (Ps := []) (by decide +kernel) rfl rfl trivial ?_
      rw [ht]
      refine G.ic_ge (off := (48)) (tgt := 72) (by decide +kernel) rfl (fun _ => ?_) (fun h9 => absurd (nI_le (by omega) (by omega)) h9)
      refine G.loc (ls2 := [none, none, none, some (.int s3), none]) (by simp [subL]) ?_
      simp only [d_eachEnough_15] at hX
      exact hX
  | succ k0 ih =>
      intro i4 s3 hn hX
      refine G.sl [(.iload 4, 2, 4, 0, 0, 0), (.aload_n 0, 1, 0, 0, 0, 0), (.getfield 18, 3, 1, 2, 79, 0), (.getfield 86, 3, 6, 2, 28, 0)] [] (pc2 := 24) (ls2 := [some (.ref 37), some (.int (nI n1)), some (.int x2), some (.int s3), some (.int (nI i4))]) (st2 := [.int (M.1 3 2), .int (nI i4)]) (M2 := M) (Ps := []) (by decide +kernel) rfl rfl trivial ?_
      rw [ht]
      refine G.ic_ge (off := (48)) (tgt := 72) (by decide +kernel) rfl (fun h9 => absurd h9 (nI_ge (by omega) (by omega))) (fun _ => ?_)
      refine G.sl [(.iload_n 2, 1, 2, 0, 0, 0)] [] (pc2 := 28) (ls2 := [some (.ref 37), some (.int (nI n1)), some (.int x2), some (.int s3), some (.int (nI i4))]) (st2 := [.int x2]) (M2 := M) (Ps := []) (by decide +kernel) rfl rfl trivial ?_
      refine G.if_le (off := (44)) (tgt := 72) (by decide +kernel) rfl (fun c1 => ?_) (fun c1 => ?_)
      · skip
        refine G.loc (ls2 := [none, none, none, some (.int s3), none]) (by simp [subL]) ?_
        simp only [d_eachEnough_15, if_pos c1] at hX
        exact hX
      · skip
        refine G.sl [(.aload_n 0, 1, 0, 0, 0, 0), (.getfield 9, 3, 1, 0, 73, 0), (.bipush 41, 2, 0, 0, 0, nI 41), (.iload 4, 2, 4, 0, 0, 0), (.iadd, 1, 0, 0, 0, 0), (.iaload, 1, 0, 0, 0, 0), (.iload_n 1, 1, 1, 0, 0, 0)] [41 + i4] (pc2 := 42) (ls2 := [some (.ref 37), some (.int (nI n1)), some (.int x2), some (.int s3), some (.int (nI i4))]) (st2 := [.int (nI n1), .int (M.1 38 (41 + i4))]) (M2 := M) (Ps := [((nI 41) + (nI i4)) = nI (41 + i4) ∧ (41 + i4) < 51]) (by decide +kernel) rfl rfl ⟨⟨(nI_add _ _), (by omega)⟩, trivial⟩ ?_
        refine G.ic_ne (off := (24)) (tgt := 66) (by decide +kernel) rfl (fun c2 => ?_) (fun c2 => ?_)
        · skip
          refine G.sl [(.iinc 4 1, 3, 4, 0, 0, nI 1), (.goto (-54), 3, 15, 0, 0, 0)] [] (pc2 := 15) (ls2 := [some (.ref 37), some (.int (nI n1)), some (.int x2), some (.int s3), some (.int ((nI i4) + nI 1))]) (st2 := []) (M2 := M) (Ps := []) (by decide +kernel) rfl rfl trivial ?_
          rw [nI_add i4 1]
          simp only [d_eachEnough_15, if_neg c1, if_neg c2] at hX
          exact ih (i4 + 1) s3 (by omega) hX
        · skip
          refine G.sl [(.aload_n 0, 1, 0, 0, 0, 0), (.getfield 18, 3, 1, 2, 79, 0), (.getfield 63, 3, 6, 7, 44, 0), (.iload 4, 2, 4, 0, 0, 0), (.iaload, 1, 0, 0, 0, 0), (.iload_n 2, 1, 2, 0, 0, 0)] [i4] (pc2 := 56) (ls2 := [some (.ref 37), some (.int (nI n1)), some (.int x2), some (.int s3), some (.int (nI i4))]) (st2 := [.int x2, .int (M.1 7 i4)]) (M2 := M) (Ps := [(nI i4) = nI i4 ∧ i4 < 10]) (by decide +kernel) rfl rfl ⟨⟨rfl, (by omega)⟩, trivial⟩ ?_
          refine G.ic_lt (off := (10)) (tgt := 66) (by decide +kernel) rfl (fun c3 => ?_) (fun c3 => ?_)
          · skip
            refine G.sl [(.iinc 4 1, 3, 4, 0, 0, nI 1), (.goto (-54), 3, 15, 0, 0, 0)] [] (pc2 := 15) (ls2 := [some (.ref 37), some (.int (nI n1)), some (.int x2), some (.int s3), some (.int ((nI i4) + nI 1))]) (st2 := []) (M2 := M) (Ps := []) (by decide +kernel) rfl rfl trivial ?_
            rw [nI_add i4 1]
            simp only [d_eachEnough_15, if_neg c1, if_pos c2, if_pos c3] at hX
            exact ih (i4 + 1) s3 (by omega) hX
          · skip
            refine G.sl [(.iload_n 3, 1, 3, 0, 0, 0), (.iconst 1, 1, 0, 0, 0, nI 1), (.iload 4, 2, 4, 0, 0, 0), (.ishl, 1, 0, 0, 0, 0), (.ior, 1, 0, 0, 0, 0), (.istore_n 3, 1, 3, 0, 0, 0), (.iinc 4 1, 3, 4, 0, 0, nI 1), (.goto (-54), 3, 15, 0, 0, 0)] [] (pc2 := 15) (ls2 := [some (.ref 37), some (.int (nI n1)), some (.int x2), some (.int (s3 ||| ((nI 1) <<< ((nI i4) &&& 31)))), some (.int ((nI i4) + nI 1))]) (st2 := []) (M2 := M) (Ps := []) (by decide +kernel) rfl rfl trivial ?_
            rw [nI_add i4 1]
            simp only [d_eachEnough_15, if_neg c1, if_pos c2, if_neg c3] at hX
            exact ih (i4 + 1) (s3 ||| ((nI 1) <<< ((nI i4) &&& 31))) (by omega) hX
set_option maxHeartbeats 4000000 in
set_option maxRecDepth 3000 in
theorem c_d_eachEnough_37 (z : Zp) (d : Nat) (M : Mem) (n1 : Nat) (nt : Nat) (hnt : nt ≤ 10) (ht : M.1 3 2 = nI nt) (b1 : n1 < 6) : GM z mX1_eachEnough (d) [.ref 37, .int (nI n1)] M (fun rs => rs = .inl (some (.int (d_eachEnough (M.1 7) (M.1 38) nt n1)), M)) := by
  refine GM.of oX1_eachEnough.1 (Nat.le_of_ble_eq_true rfl) ?_
  show G z mX1_eachEnough (d) 0 0 0 [some (.ref 37), some (.int (nI n1)), none, none, none] [] M _
  obtain ⟨Q, hQ⟩ : ∃ Q : Rs → Prop, Q = (fun rs => rs = .inl (some (.int (d_eachEnough (M.1 7) (M.1 38) nt n1)), M)) := ⟨_, rfl⟩
  rw [← hQ]
  refine G.sl [(.aload_n 0, 1, 0, 0, 0, 0), (.getfield 9, 3, 1, 0, 73, 0), (.bipush 7, 2, 0, 0, 0, nI 7), (.iload_n 1, 1, 1, 0, 0, 0), (.iadd, 1, 0, 0, 0, 0), (.iaload, 1, 0, 0, 0, 0), (.istore_n 2, 1, 2, 0, 0, 0), (.iconst 0, 1, 0, 0, 0, nI 0), (.istore_n 3, 1, 3, 0, 0, 0), (.iconst 0, 1, 0, 0, 0, nI 0), (.istore 4, 2, 4, 0, 0, 0)] [7 + n1] (pc2 := 15) (ls2 := [some (.ref 37), some (.int (nI n1)), some (.int (M.1 38 (7 + n1))), some (.int (nI 0)), some (.int (nI 0))]) (st2 := []) (M2 := M) (Ps := [((nI 7) + (nI n1)) = nI (7 + n1) ∧ (7 + n1) < 51]) (by decide +kernel) rfl rfl ⟨⟨(nI_add _ _), (by omega)⟩, trivial⟩ ?_
  refine lp_d_eachEnough_37_15 z d M Q n1 (M.1 38 (7 + n1)) nt hnt ht (by omega) nt 0 (nI 0) (Nat.zero_add _) ?_
  try simp only [mput, mrow_same, mrow_hit, mrow_miss, mrow_sw, idr_eq, ne_eq, Nat.reduceEqDiff, not_false_eq_true, Nat.reduceLT, reduceCtorEq]
  show G z mX1_eachEnough (d) 0 0 72 [none, none, none, some (.int (d_eachEnough_15 (M.1 7) (M.1 38) n1 (M.1 38 (7 + n1)) nt 0 (nI 0))), none] [] M Q
  refine G.sl [(.iload_n 3, 1, 3, 0, 0, 0)] [] (pc2 := 73) (ls2 := [none, none, none, some (.int (d_eachEnough_15 (M.1 7) (M.1 38) n1 (M.1 38 (7 + n1)) nt 0 (nI 0))), none]) (st2 := [.int (d_eachEnough_15 (M.1 7) (M.1 38) n1 (M.1 38 (7 + n1)) nt 0 (nI 0))]) (M2 := M) (Ps := []) (by decide +kernel) rfl rfl trivial ?_
  exact G.reti (by decide +kernel) rfl rfl (Nat.le_of_ble_eq_true rfl) (Nat.le_of_ble_eq_true rfl) ((by rw [hQ]; simp only [d_eachEnough, mrow_self]))
set_option maxHeartbeats 4000000 in
set_option maxRecDepth 3000 in
theorem lp_d_levelled_37_13 (z : Zp) (d : Nat) (M : Mem) (Q : Rs → Prop) (n1 : Nat) (x2 : Int32) (x3 : Int32) (nt : Nat) (hnt : nt ≤ 10) (ht : M.1 3 2 = nI nt) (nf : Nat) (hnf : nf ≤ 6) (hf : M.1 3 3 = nI nf) (b1 : n1 < 6) (hX : G z mX1_levelled (d + 2) 0 0 64 [some (.ref 37), some (.int (nI n1)), none, some (.int x3), none] [] (mrow M 39 (d_levelled_13 (M.1 7) (M.1 38) (M.1 39) nt n1 x2 x3 nf)) Q) : G z mX1_levelled (d + 2) 0 0 13 [some (.ref 37), some (.int (nI n1)), some (.int x2), some (.int x3), some (.int (nI 0))] [] M Q := by
  refine G.mem (M' := mrow M 39 (M.1 39)) (by simp only [mrow_self]) ?_
  refine down (n := nf) (P := fun i4 => G z mX1_levelled (d + 2) 0 0 13 [some (.ref 37), some (.int (nI n1)), some (.int x2), some (.int x3), some (.int (nI i4))] [] (mrow M 39 (d_levelled_13 (M.1 7) (M.1 38) (M.1 39) nt n1 x2 x3 i4)) Q) ?_ ?_ 0 (Nat.zero_le _)
  · skip
    refine G.sl [(.iload 4, 2, 4, 0, 0, 0), (.aload_n 0, 1, 0, 0, 0, 0), (.getfield 18, 3, 1, 2, 79, 0), (.getfield 78, 3, 6, 3, 34, 0)] [] (pc2 := 22) (ls2 := [some (.ref 37), some (.int (nI n1)), some (.int x2), some (.int x3), some (.int (nI nf))]) (st2 := [.int (M.1 3 3), .int (nI nf)]) (M2 := mrow M 39 (d_levelled_13 (M.1 7) (M.1 38) (M.1 39) nt n1 x2 x3 nf)) (Ps := []) (by decide +kernel) rfl rfl trivial ?_
    rw [hf]
    refine G.ic_ge (off := (42)) (tgt := 64) (by decide +kernel) rfl (fun _ => ?_) (fun h9 => absurd (nI_le (by omega) (by omega)) h9)
    refine G.loc (ls2 := [some (.ref 37), some (.int (nI n1)), none, some (.int x3), none]) (by simp [subL]) ?_
    exact hX
  · skip
    intro i4 hi ih
    show G z mX1_levelled (d + 2) 0 0 13 [some (.ref 37), some (.int (nI n1)), some (.int x2), some (.int x3), some (.int (nI i4))] [] (mrow M 39 (d_levelled_13 (M.1 7) (M.1 38) (M.1 39) nt n1 x2 x3 i4)) Q
    refine G.sl [(.iload 4, 2, 4, 0, 0, 0), (.aload_n 0, 1, 0, 0, 0, 0), (.getfield 18, 3, 1, 2, 79, 0), (.getfield 78, 3, 6, 3, 34, 0)] [] (pc2 := 22) (ls2 := [some (.ref 37), some (.int (nI n1)), some (.int x2), some (.int x3), some (.int (nI i4))]) (st2 := [.int (M.1 3 3), .int (nI i4)]) (M2 := mrow M 39 (d_levelled_13 (M.1 7) (M.1 38) (M.1 39) nt n1 x2 x3 i4)) (Ps := []) (by decide +kernel) rfl rfl trivial ?_
    rw [hf]
    refine G.ic_ge (off := (42)) (tgt := 64) (by decide +kernel) rfl (fun h9 => absurd h9 (nI_ge (by omega) (by omega))) (fun _ => ?_)
    refine G.sl [(.aload_n 0, 1, 0, 0, 0, 0), (.getfield 15, 3, 1, 1, 78, 0), (.iload 4, 2, 4, 0, 0, 0), (.iload_n 2, 1, 2, 0, 0, 0), (.iload 4, 2, 4, 0, 0, 0), (.ishr, 1, 0, 0, 0, 0), (.iconst 1, 1, 0, 0, 0, nI 1), (.iand, 1, 0, 0, 0, 0)] [] (pc2 := 37) (ls2 := [some (.ref 37), some (.int (nI n1)), some (.int x2), some (.int x3), some (.int (nI i4))]) (st2 := [.int ((x2 >>> ((nI i4) &&& 31)) &&& (nI 1)), .int (nI i4), .ref 39]) (M2 := mrow M 39 (d_levelled_13 (M.1 7) (M.1 38) (M.1 39) nt n1 x2 x3 i4)) (Ps := []) (by decide +kernel) rfl rfl trivial ?_
    refine G.if_ne (off := (7)) (tgt := 44) (by decide +kernel) rfl (fun c2 => ?_) (fun c2 => ?_)
    · skip
      refine G.sl [(.aload_n 0, 1, 0, 0, 0, 0), (.getfield 18, 3, 1, 2, 79, 0), (.aload_n 0, 1, 0, 0, 0, 0), (.iload 4, 2, 4, 0, 0, 0)] [] (pc2 := 51) (ls2 := [some (.ref 37), some (.int (nI n1)), some (.int x2), some (.int x3), some (.int (nI i4))]) (st2 := [.int (nI i4), .ref 37, .ref 3, .int (nI i4), .ref 39]) (M2 := mrow M 39 (d_levelled_13 (M.1 7) (M.1 38) (M.1 39) nt n1 x2 x3 i4)) (Ps := []) (by decide +kernel) rfl rfl trivial ?_
      have t4 : GM z mX1_heldBy (d + 1) [.ref 37, .int (nI i4)] (mrow M 39 (d_levelled_13 (M.1 7) (M.1 38) (M.1 39) nt n1 x2 x3 i4)) (fun rs => rs = .inl (some (.int (d_heldBy (M.1 38) nt (nI i4))), mrow M 39 (d_levelled_13 (M.1 7) (M.1 38) (M.1 39) nt n1 x2 x3 i4))) := by
        have q9 := c_d_heldBy_37 z (d + 1) (mrow M 39 (d_levelled_13 (M.1 7) (M.1 38) (M.1 39) nt n1 x2 x3 i4)) (nI i4) nt hnt ht
        try simp only [mput, mrow_same, mrow_hit, mrow_miss, mrow_sw, idr_eq, ne_eq, Nat.reduceEqDiff, not_false_eq_true, Nat.reduceLT, reduceCtorEq] at q9
        exact q9
      refine G.callV (as := [.int (nI i4)]) (rest := [.ref 3, .int (nI i4), .ref 39]) (a := 37) oX1_heldBy lk_EvenFinders_Days_94 (by decide +kernel) rfl rfl ⟨rfl, rfl⟩ (Nat.le_of_ble_eq_true rfl) rfl ⟨Nat.le_of_ble_eq_true rfl, Nat.le_of_ble_eq_true rfl⟩ t4 (fun v9 N9 h5 => ?_) (fun E9 N9 h5 => by cases h5)
      cases h5
      show G z mX1_levelled (d + 2) 0 0 54 [some (.ref 37), some (.int (nI n1)), some (.int x2), some (.int x3), some (.int (nI i4))] [.int (d_heldBy (M.1 38) nt (nI i4)), .ref 3, .int (nI i4), .ref 39] (mrow M 39 (d_levelled_13 (M.1 7) (M.1 38) (M.1 39) nt n1 x2 x3 i4)) Q
      have t7 : GM z mX7_worthOf (d + 1) [.ref 3, .int (d_heldBy (M.1 38) nt (nI i4))] (mrow M 39 (d_levelled_13 (M.1 7) (M.1 38) (M.1 39) nt n1 x2 x3 i4)) (fun rs => rs = .inl (some (.int (v_worthOf (M.1 7) nt (d_heldBy (M.1 38) nt (nI i4)))), mrow M 39 (d_levelled_13 (M.1 7) (M.1 38) (M.1 39) nt n1 x2 x3 i4))) := by
        have q9 := c_v_worthOf_3 z (d + 1) (mrow M 39 (d_levelled_13 (M.1 7) (M.1 38) (M.1 39) nt n1 x2 x3 i4)) (d_heldBy (M.1 38) nt (nI i4)) nt hnt ht
        try simp only [mput, mrow_same, mrow_hit, mrow_miss, mrow_sw, idr_eq, ne_eq, Nat.reduceEqDiff, not_false_eq_true, Nat.reduceLT, reduceCtorEq] at q9
        exact q9
      refine G.callV (as := [.int (d_heldBy (M.1 38) nt (nI i4))]) (rest := [.int (nI i4), .ref 39]) (a := 3) oX7_worthOf lk_EvenFinders_Days_109 (by decide +kernel) rfl rfl ⟨rfl, rfl⟩ (Nat.le_of_ble_eq_true rfl) rfl ⟨Nat.le_of_ble_eq_true rfl, Nat.le_of_ble_eq_true rfl⟩ t7 (fun v9 N9 h8 => ?_) (fun E9 N9 h8 => by cases h8)
      cases h8
      show G z mX1_levelled (d + 2) 0 0 57 [some (.ref 37), some (.int (nI n1)), some (.int x2), some (.int x3), some (.int (nI i4))] [.int (v_worthOf (M.1 7) nt (d_heldBy (M.1 38) nt (nI i4))), .int (nI i4), .ref 39] (mrow M 39 (d_levelled_13 (M.1 7) (M.1 38) (M.1 39) nt n1 x2 x3 i4)) Q
      refine G.sl [(.iastore, 1, 0, 0, 0, 0), (.iinc 4 1, 3, 4, 0, 0, nI 1), (.goto (-48), 3, 13, 0, 0, 0)] [i4] (pc2 := 13) (ls2 := [some (.ref 37), some (.int (nI n1)), some (.int x2), some (.int x3), some (.int ((nI i4) + nI 1))]) (st2 := []) (M2 := mput (mrow M 39 (d_levelled_13 (M.1 7) (M.1 38) (M.1 39) nt n1 x2 x3 i4)) 39 i4 (v_worthOf (M.1 7) nt (d_heldBy (M.1 38) nt (nI i4)))) (Ps := [(nI i4) = nI i4 ∧ i4 < 6]) (by decide +kernel) rfl rfl ⟨⟨rfl, (by omega)⟩, trivial⟩ ?_
      refine G.mem (M' := mrow M 39 (upd (d_levelled_13 (M.1 7) (M.1 38) (M.1 39) nt n1 x2 x3 i4) i4 (v_worthOf (M.1 7) nt (d_heldBy (M.1 38) nt (nI i4))))) (by first | rfl | (simp only [mput, mrow_same, mrow_hit, mrow_miss, mrow_sw, idr_eq, ne_eq, Nat.reduceEqDiff, not_false_eq_true, Nat.reduceLT, reduceCtorEq]; done)) ?_
      rw [nI_add i4 1]
      simp only [d_levelled_13, if_neg c2] at ih
      exact ih
    · skip
      refine G.sl [(.iconst 0, 1, 0, 0, 0, nI 0), (.goto 16, 3, 57, 0, 0, 0), (.iastore, 1, 0, 0, 0, 0), (.iinc 4 1, 3, 4, 0, 0, nI 1), (.goto (-48), 3, 13, 0, 0, 0)] [i4] (pc2 := 13) (ls2 := [some (.ref 37), some (.int (nI n1)), some (.int x2), some (.int x3), some (.int ((nI i4) + nI 1))]) (st2 := []) (M2 := mput (mrow M 39 (d_levelled_13 (M.1 7) (M.1 38) (M.1 39) nt n1 x2 x3 i4)) 39 i4 (nI 0)) (Ps := [(nI i4) = nI i4 ∧ i4 < 6]) (by decide +kernel) rfl rfl ⟨⟨rfl, (by omega)⟩, trivial⟩ ?_
      refine G.mem (M' := mrow M 39 (upd (d_levelled_13 (M.1 7) (M.1 38) (M.1 39) nt n1 x2 x3 i4) i4 (nI 0))) (by first | rfl | (simp only [mput, mrow_same, mrow_hit, mrow_miss, mrow_sw, idr_eq, ne_eq, Nat.reduceEqDiff, not_false_eq_true, Nat.reduceLT, reduceCtorEq]; done)) ?_
      rw [nI_add i4 1]
      simp only [d_levelled_13, if_pos c2] at ih
      exact ih
