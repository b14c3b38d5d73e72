set_option maxHeartbeats 4000000 in
set_option maxRecDepth 3000 in
theorem c_b_readFrom_31_1 (z : Zp) (d : Nat) (M : Mem) (x2 : Int32) (hk : b_readFrom_ok (M.1 1) (M.1 2) (M.1 31) (M.1 32) x2) : GM z mX0_readFrom (d + 2) [.ref 31, .ref 1, .int x2] M (fun rs => rs = .inl (none, mrow (mrow (mrow M 1 ((b_readFrom (M.1 1) (M.1 2) (M.1 31) (M.1 32) x2).2.1)) 31 ((b_readFrom (M.1 1) (M.1 2) (M.1 31) (M.1 32) x2).2.2.1)) 32 ((b_readFrom (M.1 1) (M.1 2) (M.1 31) (M.1 32) x2).2.2.2))) := by
  simp only [b_readFrom_ok] at hk
  refine GM.of oX0_readFrom.1 (Nat.le_of_ble_eq_true rfl) ?_
  show G z mX0_readFrom (d + 2) 0 0 0 [some (.ref 31), some (.ref 1), some (.int x2), none, none, none] [] M _
  obtain ⟨Q, hQ⟩ : ∃ Q : Rs → Prop, Q = (fun rs => rs = .inl (none, mrow (mrow (mrow M 1 ((b_readFrom (M.1 1) (M.1 2) (M.1 31) (M.1 32) x2).2.1)) 31 ((b_readFrom (M.1 1) (M.1 2) (M.1 31) (M.1 32) x2).2.2.1)) 32 ((b_readFrom (M.1 1) (M.1 2) (M.1 31) (M.1 32) x2).2.2.2))) := ⟨_, rfl⟩
  rw [← hQ]
  refine G.sl [(.aload_n 0, 1, 0, 0, 0, 0)] [] (pc2 := 1) (ls2 := [some (.ref 31), some (.ref 1), some (.int x2), none, none, none]) (st2 := [.ref 31]) (M2 := M) (Ps := []) (by decide +kernel) rfl rfl trivial ?_
  obtain ⟨k1, hk⟩ := hk
  rcases g2 : b_clear (M.1 31) (M.1 32) with ⟨u3, r4, r5⟩
  try simp only [g2] at hk
  have t6 : GM z mX0_clear (d + 1) [.ref 31] M (fun rs => rs = .inl (none, mrow (mrow M 31 r4) 32 r5)) := by
    have q9 := c_b_clear_31 z d M 
    try simp only [mput, mrow_same, mrow_hit, mrow_miss, mrow_sw, idr_eq, ne_eq, Nat.reduceEqDiff, not_false_eq_true, Nat.reduceLT, reduceCtorEq, g2] at q9
    exact q9
  refine G.callV (as := []) (rest := []) (a := 31) oX0_clear lk_EvenFinders_Book_31 (by decide +kernel) rfl rfl ⟨rfl, rfl⟩ (Nat.le_of_ble_eq_true rfl) rfl ⟨Nat.le_of_ble_eq_true rfl, Nat.le_of_ble_eq_true rfl⟩ t6 (fun v9 N9 h7 => ?_) (fun E9 N9 h7 => by cases h7)
  cases h7
  show G z mX0_readFrom (d + 2) 0 0 4 [some (.ref 31), some (.ref 1), some (.int x2), none, none, none] [] (mrow (mrow M 31 r4) 32 r5) Q
  refine G.sl [(.iconst 0, 1, 0, 0, 0, nI 0), (.istore_n 3, 1, 3, 0, 0, 0)] [] (pc2 := 6) (ls2 := [some (.ref 31), some (.ref 1), some (.int x2), some (.int (nI 0)), none, none]) (st2 := []) (M2 := mrow (mrow M 31 r4) 32 r5) (Ps := []) (by decide +kernel) rfl rfl trivial ?_
  obtain ⟨k84, hk⟩ := hk
  refine G.mem (M' := mrow (mrow (mrow (mrow (mrow M 31 r4) 32 r5) 1 ((mrow (mrow M 31 r4) 32 r5).1 1)) 31 ((mrow (mrow M 31 r4) 32 r5).1 31)) 32 ((mrow (mrow M 31 r4) 32 r5).1 32)) (by simp only [mrow_self]) ?_
  refine lp_b_readFrom_31_1_6 z d (mrow (mrow M 31 r4) 32 r5) Q (cN 60) x2 (cN_eq 60) (cN 60) 0 ((mrow (mrow M 31 r4) 32 r5).1 1) ((mrow (mrow M 31 r4) 32 r5).1 31) ((mrow (mrow M 31 r4) 32 r5).1 32) (Nat.zero_add _) (by first | (simp only [mput, mrow_same, mrow_hit, mrow_miss, mrow_sw, idr_eq, ne_eq, Nat.reduceEqDiff, not_false_eq_true, Nat.reduceLT, reduceCtorEq]; exact k84) | exact k84) ?_
  try simp only [mput, mrow_same, mrow_hit, mrow_miss, mrow_sw, idr_eq, ne_eq, Nat.reduceEqDiff, not_false_eq_true, Nat.reduceLT, reduceCtorEq]
  rcases g85 : b_readFrom_6 (M.1 2) x2 (cN 60) 0 (M.1 1) r4 r5 with ⟨r86, r87, r88⟩
  show G z mX0_readFrom (d + 2) 0 0 105 [none, none, none, none, none, none] [] (mrow (mrow (mrow M 1 r86) 31 r87) 32 r88) Q
  exact G.retv (by decide +kernel) rfl (Nat.le_of_ble_eq_true rfl) (Nat.le_of_ble_eq_true rfl) ((by rw [hQ]; simp only [b_readFrom, g2, g85, mrow_self]))
set_option maxHeartbeats 4000000 in
set_option maxRecDepth 3000 in
theorem c_x_put_33 (z : Zp) (d : Nat) (M : Mem) (x1 : Int32) (x2 : Int32) (x3 : Int32) (hk : x_put_ok (M.1 33) (M.1 34) (M.1 35) (M.1 36) x1 x2 x3) : GM z mX9_put (d) [.ref 33, .int x1, .int x2, .int x3] M (fun rs => rs = .inl (none, mrow (mrow (mrow (mrow M 33 ((x_put (M.1 33) (M.1 34) (M.1 35) (M.1 36) x1 x2 x3).2.1)) 34 ((x_put (M.1 33) (M.1 34) (M.1 35) (M.1 36) x1 x2 x3).2.2.1)) 35 ((x_put (M.1 33) (M.1 34) (M.1 35) (M.1 36) x1 x2 x3).2.2.2.1)) 36 ((x_put (M.1 33) (M.1 34) (M.1 35) (M.1 36) x1 x2 x3).2.2.2.2))) := by
  simp only [x_put_ok] at hk
  refine GM.of oX9_put.1 (Nat.le_of_ble_eq_true rfl) ?_
  show G z mX9_put (d) 0 0 0 [some (.ref 33), some (.int x1), some (.int x2), some (.int x3)] [] M _
  obtain ⟨Q, hQ⟩ : ∃ Q : Rs → Prop, Q = (fun rs => rs = .inl (none, mrow (mrow (mrow (mrow M 33 ((x_put (M.1 33) (M.1 34) (M.1 35) (M.1 36) x1 x2 x3).2.1)) 34 ((x_put (M.1 33) (M.1 34) (M.1 35) (M.1 36) x1 x2 x3).2.2.1)) 35 ((x_put (M.1 33) (M.1 34) (M.1 35) (M.1 36) x1 x2 x3).2.2.2.1)) 36 ((x_put (M.1 33) (M.1 34) (M.1 35) (M.1 36) x1 x2 x3).2.2.2.2))) := ⟨_, rfl⟩
  rw [← hQ]
  refine G.sl [(.aload_n 0, 1, 0, 0, 0, 0), (.getfield 25, 3, 8, 3, 68, 0), (.aload_n 0, 1, 0, 0, 0, 0), (.getfield 9, 3, 8, 5, 70, 0), (.arraylength, 1, 0, 0, 0, 0)] [] (pc2 := 9) (ls2 := [some (.ref 33), some (.int x1), some (.int x2), some (.int x3)]) (st2 := [.int (nI 150), .int (M.1 33 3)]) (M2 := M) (Ps := []) (by decide +kernel) rfl rfl trivial ?_
  refine G.ic_ge (off := (43)) (tgt := 52) (by decide +kernel) rfl (fun c1 => ?_) (fun c1 => ?_)
  · skip
    rw [if_pos c1] at hk
    refine G.mem (M' := mrow (mrow (mrow (mrow M 33 (M.1 33)) 34 (M.1 34)) 35 (M.1 35)) 36 (M.1 36)) ((((((mrow_id (N := M) (c := 33) (f := M.1 33) (by first | rfl | (simp only [mput, mrow_same, mrow_hit, mrow_miss, mrow_sw, idr_eq, ne_eq, Nat.reduceEqDiff, not_false_eq_true, Nat.reduceLT, reduceCtorEq]; done))).symm).trans (mrow_id (N := mrow M 33 (M.1 33)) (c := 34) (f := M.1 34) (by first | rfl | (simp only [mput, mrow_same, mrow_hit, mrow_miss, mrow_sw, idr_eq, ne_eq, Nat.reduceEqDiff, not_false_eq_true, Nat.reduceLT, reduceCtorEq]; done))).symm).trans (mrow_id (N := mrow (mrow M 33 (M.1 33)) 34 (M.1 34)) (c := 35) (f := M.1 35) (by first | rfl | (simp only [mput, mrow_same, mrow_hit, mrow_miss, mrow_sw, idr_eq, ne_eq, Nat.reduceEqDiff, not_false_eq_true, Nat.reduceLT, reduceCtorEq]; done))).symm).trans (mrow_id (N := mrow (mrow (mrow M 33 (M.1 33)) 34 (M.1 34)) 35 (M.1 35)) (c := 36) (f := M.1 36) (by first | rfl | (simp only [mput, mrow_same, mrow_hit, mrow_miss, mrow_sw, idr_eq, ne_eq, Nat.reduceEqDiff, not_false_eq_true, Nat.reduceLT, reduceCtorEq]; done))).symm).trans (by first | rfl | (simp only [mput, mrow_same, mrow_hit, mrow_miss, mrow_sw, idr_eq, ne_eq, Nat.reduceEqDiff, not_false_eq_true, Nat.reduceLT, reduceCtorEq]; done))) ?_
    exact G.retv (by decide +kernel) rfl (Nat.le_of_ble_eq_true rfl) (Nat.le_of_ble_eq_true rfl) ((by rw [hQ]; simp only [x_put, if_pos c1, mrow_self]))
  · skip
    rw [if_neg c1] at hk
    obtain ⟨k2, k3, hk⟩ := hk
    refine G.sl [(.aload_n 0, 1, 0, 0, 0, 0), (.getfield 9, 3, 8, 5, 70, 0), (.aload_n 0, 1, 0, 0, 0, 0), (.getfield 25, 3, 8, 3, 68, 0), (.iload_n 1, 1, 1, 0, 0, 0), (.iastore, 1, 0, 0, 0, 0), (.aload_n 0, 1, 0, 0, 0, 0), (.getfield 15, 3, 8, 6, 71, 0), (.aload_n 0, 1, 0, 0, 0, 0), (.getfield 25, 3, 8, 3, 68, 0), (.iload_n 2, 1, 2, 0, 0, 0), (.iastore, 1, 0, 0, 0, 0), (.aload_n 0, 1, 0, 0, 0, 0), (.getfield 18, 3, 8, 7, 72, 0), (.aload_n 0, 1, 0, 0, 0, 0), (.getfield 25, 3, 8, 3, 68, 0), (.iload_n 3, 1, 3, 0, 0, 0), (.iastore, 1, 0, 0, 0, 0), (.aload_n 0, 1, 0, 0, 0, 0), (.dup, 1, 0, 0, 0, 0), (.getfield 25, 3, 8, 3, 68, 0), (.iconst 1, 1, 0, 0, 0, nI 1), (.iadd, 1, 0, 0, 0, 0), (.putfield 25, 3, 8, 3, 68, 0)] [ix (M.1 33 3), ix (M.1 33 3), ix (M.1 33 3)] (pc2 := 52) (ls2 := [some (.ref 33), some (.int x1), some (.int x2), some (.int x3)]) (st2 := []) (M2 := mput (mput (mput (mput M 34 (ix (M.1 33 3)) x1) 35 (ix (M.1 33 3)) x2) 36 (ix (M.1 33 3)) x3) 33 3 ((M.1 33 3) + (nI 1))) (Ps := [(M.1 33 3) = nI (ix (M.1 33 3)) ∧ (ix (M.1 33 3)) < 150, (M.1 33 3) = nI (ix (M.1 33 3)) ∧ (ix (M.1 33 3)) < 150, (M.1 33 3) = nI (ix (M.1 33 3)) ∧ (ix (M.1 33 3)) < 150]) (by decide +kernel) rfl rfl ⟨⟨(ixE k2), k3⟩, ⟨(ixE k2), k3⟩, ⟨(ixE k2), k3⟩, trivial⟩ ?_
    refine G.mem (M' := mrow (mrow (mrow (mrow M 33 (upd (M.1 33) 3 ((M.1 33 3) + (nI 1)))) 34 (upd (M.1 34) (ix (M.1 33 3)) x1)) 35 (upd (M.1 35) (ix (M.1 33 3)) x2)) 36 (upd (M.1 36) (ix (M.1 33 3)) x3)) (by first | rfl | (simp only [mput, mrow_same, mrow_hit, mrow_miss, mrow_sw, idr_eq, ne_eq, Nat.reduceEqDiff, not_false_eq_true, Nat.reduceLT, reduceCtorEq]; done)) ?_
    exact G.retv (by decide +kernel) rfl (Nat.le_of_ble_eq_true rfl) (Nat.le_of_ble_eq_true rfl) ((by rw [hQ]; simp only [x_put, if_neg c1, mrow_self]))
set_option maxHeartbeats 4000000 in
set_option maxRecDepth 3000 in
theorem lp_J7_fill_53178_L51_38_5 (z : Zp) (d : Nat) (M : Mem) (Q : Rs → Prop) (nn : Nat) (x1 : Int32) (hnn : nn = 51) (hX : G z mJ7_fill_53178 (d) 0 0 20 [none, none, none, none] [] (mrow M 38 (J7_fill_53178_L51_5 (M.1 38) x1 nn)) Q) : G z mJ7_fill_53178 (d) 0 0 5 [some (.ref 38), some (.int x1), some (.int (nI 0)), some (.int (nI 51))] [] M Q := by
  refine G.mem (M' := mrow M 38 (M.1 38)) (by simp only [mrow_self]) ?_
  refine down (n := nn) (P := fun i2 => G z mJ7_fill_53178 (d) 0 0 5 [some (.ref 38), some (.int x1), some (.int (nI i2)), some (.int (nI 51))] [] (mrow M 38 (J7_fill_53178_L51_5 (M.1 38) x1 i2)) Q) ?_ ?_ 0 (Nat.zero_le _)
  · skip
    refine G.sl [(.iload_n 2, 1, 2, 0, 0, 0), (.iload_n 3, 1, 3, 0, 0, 0)] [] (pc2 := 7) (ls2 := [some (.ref 38), some (.int x1), some (.int (nI nn)), some (.int (nI 51))]) (st2 := [.int (nI 51), .int (nI nn)]) (M2 := mrow M 38 (J7_fill_53178_L51_5 (M.1 38) x1 nn)) (Ps := []) (by decide +kernel) rfl rfl trivial ?_
    refine G.ic_ge (off := (13)) (tgt := 20) (by decide +kernel) rfl (fun _ => ?_) (fun h9 => absurd (nI_le (by omega) (by omega)) h9)
    refine G.loc (ls2 := [none, none, none, none]) (by simp [subL]) ?_
    exact hX
  · skip
    intro i2 hi ih
    show G z mJ7_fill_53178 (d) 0 0 5 [some (.ref 38), some (.int x1), some (.int (nI i2)), some (.int (nI 51))] [] (mrow M 38 (J7_fill_53178_L51_5 (M.1 38) x1 i2)) Q
    refine G.sl [(.iload_n 2, 1, 2, 0, 0, 0), (.iload_n 3, 1, 3, 0, 0, 0)] [] (pc2 := 7) (ls2 := [some (.ref 38), some (.int x1), some (.int (nI i2)), some (.int (nI 51))]) (st2 := [.int (nI 51), .int (nI i2)]) (M2 := mrow M 38 (J7_fill_53178_L51_5 (M.1 38) x1 i2)) (Ps := []) (by decide +kernel) rfl rfl trivial ?_
    refine G.ic_ge (off := (13)) (tgt := 20) (by decide +kernel) rfl (fun h9 => absurd h9 (nI_ge (by omega) (by omega))) (fun _ => ?_)
    refine G.sl [(.aload_n 0, 1, 0, 0, 0, 0), (.iload_n 2, 1, 2, 0, 0, 0), (.iload_n 1, 1, 1, 0, 0, 0), (.iastore, 1, 0, 0, 0, 0), (.iinc 2 1, 3, 2, 0, 0, nI 1), (.goto (-12), 3, 5, 0, 0, 0)] [i2] (pc2 := 5) (ls2 := [some (.ref 38), some (.int x1), some (.int ((nI i2) + nI 1)), some (.int (nI 51))]) (st2 := []) (M2 := mput (mrow M 38 (J7_fill_53178_L51_5 (M.1 38) x1 i2)) 38 i2 x1) (Ps := [(nI i2) = nI i2 ∧ i2 < 51]) (by decide +kernel) rfl rfl ⟨⟨rfl, (by omega)⟩, trivial⟩ ?_
    refine G.mem (M' := mrow M 38 (upd (J7_fill_53178_L51_5 (M.1 38) x1 i2) i2 x1)) (by first | rfl | (simp only [mput, mrow_same, mrow_hit, mrow_miss, mrow_sw, idr_eq, ne_eq, Nat.reduceEqDiff, not_false_eq_true, Nat.reduceLT, reduceCtorEq]; done)) ?_
    rw [nI_add i2 1]
    simp only [J7_fill_53178_L51_5] at ih
    exact ih
set_option maxHeartbeats 4000000 in
set_option maxRecDepth 3000 in
theorem c_J7_fill_53178_L51_38 (z : Zp) (d : Nat) (M : Mem) (x1 : Int32) : GM z mJ7_fill_53178 (d) [.ref 38, .int x1] M (fun rs => rs = .inl (none, mrow M 38 ((J7_fill_53178_L51 (M.1 38) x1).2))) := by
  refine GM.of oJ7_fill_53178.1 (Nat.le_of_ble_eq_true rfl) ?_
  show G z mJ7_fill_53178 (d) 0 0 0 [some (.ref 38), some (.int x1), none, none] [] M _
  obtain ⟨Q, hQ⟩ : ∃ Q : Rs → Prop, Q = (fun rs => rs = .inl (none, mrow M 38 ((J7_fill_53178_L51 (M.1 38) x1).2))) := ⟨_, rfl⟩
  rw [← hQ]
  refine G.sl [(.iconst 0, 1, 0, 0, 0, nI 0), (.istore_n 2, 1, 2, 0, 0, 0), (.aload_n 0, 1, 0, 0, 0, 0), (.arraylength, 1, 0, 0, 0, 0), (.istore_n 3, 1, 3, 0, 0, 0)] [] (pc2 := 5) (ls2 := [some (.ref 38), some (.int x1), some (.int (nI 0)), some (.int (nI 51))]) (st2 := []) (M2 := M) (Ps := []) (by decide +kernel) rfl rfl trivial ?_
  refine lp_J7_fill_53178_L51_38_5 z d M Q (cN 51) x1 (cN_eq 51) ?_
  try simp only [mput, mrow_same, mrow_hit, mrow_miss, mrow_sw, idr_eq, ne_eq, Nat.reduceEqDiff, not_false_eq_true, Nat.reduceLT, reduceCtorEq]
  show G z mJ7_fill_53178 (d) 0 0 20 [none, none, none, none] [] (mrow M 38 (J7_fill_53178_L51_5 (M.1 38) x1 (cN 51))) Q
  exact G.retv (by decide +kernel) rfl (Nat.le_of_ble_eq_true rfl) (Nat.le_of_ble_eq_true rfl) ((by rw [hQ]; simp only [J7_fill_53178_L51, mrow_self]))
set_option maxHeartbeats 4000000 in
set_option maxRecDepth 3000 in
theorem c_d_begin_37 (z : Zp) (d : Nat) (M : Mem) : GM z mX1_begin (d + 1) [.ref 37] M (fun rs => rs = .inl (none, mrow M 38 ((d_begin (M.1 8) (M.1 9) (M.1 10) (M.1 38)).2))) := by
  refine GM.of oX1_begin.1 (Nat.le_of_ble_eq_true rfl) ?_
  show G z mX1_begin (d + 1) 0 0 0 [some (.ref 37)] [] M _
  obtain ⟨Q, hQ⟩ : ∃ Q : Rs → Prop, Q = (fun rs => rs = .inl (none, mrow M 38 ((d_begin (M.1 8) (M.1 9) (M.1 10) (M.1 38)).2))) := ⟨_, rfl⟩
  rw [← hQ]
  refine G.sl [(.aload_n 0, 1, 0, 0, 0, 0), (.getfield 9, 3, 1, 0, 73, 0), (.iconst 0, 1, 0, 0, 0, nI 0)] [] (pc2 := 5) (ls2 := [some (.ref 37)]) (st2 := [.int (nI 0), .ref 38]) (M2 := M) (Ps := []) (by decide +kernel) rfl rfl trivial ?_
  rcases g2 : J7_fill_53178_L51 (M.1 38) (nI 0) with ⟨u3, r4⟩
  have t5 : GM z mJ7_fill_53178 (d) [.ref 38, .int (nI 0)] M (fun rs => rs = .inl (none, mrow M 38 r4)) := by
    have q9 := c_J7_fill_53178_L51_38 z d M (nI 0)
    try simp only [mput, mrow_same, mrow_hit, mrow_miss, mrow_sw, idr_eq, ne_eq, Nat.reduceEqDiff, not_false_eq_true, Nat.reduceLT, reduceCtorEq, g2] at q9
    exact q9
  refine G.callS (as := [.ref 38, .int (nI 0)]) (rest := []) oJ7_fill_53178 lk_EvenFinders_Days_26 (by decide +kernel) rfl (Nat.le_of_ble_eq_true rfl) rfl ⟨Nat.le_of_ble_eq_true rfl, Nat.le_of_ble_eq_true rfl⟩ t5 (fun v9 N9 h6 => ?_) (fun E9 N9 h6 => by cases h6)
  cases h6
  show G z mX1_begin (d + 1) 0 0 8 [some (.ref 37)] [] (mrow M 38 r4) Q
  refine G.sl [(.aload_n 0, 1, 0, 0, 0, 0), (.getfield 18, 3, 1, 2, 79, 0), (.getfield 32, 3, 6, 10, 51, 0), (.iconst 0, 1, 0, 0, 0, nI 0), (.aload_n 0, 1, 0, 0, 0, 0), (.getfield 9, 3, 1, 0, 73, 0), (.iconst 1, 1, 0, 0, 0, nI 1), (.bipush 6, 2, 0, 0, 0, nI 6)] [] (pc2 := 23) (ls2 := [some (.ref 37)]) (st2 := [.int (nI 6), .int (nI 1), .ref 38, .int (nI 0), .ref 10]) (M2 := mrow M 38 r4) (Ps := []) (by decide +kernel) rfl rfl trivial ?_
  refine G.copy (s0 := 0) (p0 := 1) (n := 6) la_EvenFinders_Days_37 (by decide +kernel) rfl rfl rfl rfl rfl (by omega) (by omega) (Nat.le_of_ble_eq_true rfl) ?_
  refine G.mem (M' := mrow M 38 (va_cpy (M.1 10) r4 0 1 6)) (by first | rfl | (simp only [mput, mrow_same, mrow_hit, mrow_miss, mrow_sw, idr_eq, ne_eq, Nat.reduceEqDiff, not_false_eq_true, Nat.reduceLT, reduceCtorEq]; done)) ?_
  refine G.sl [(.aload_n 0, 1, 0, 0, 0, 0), (.getfield 18, 3, 1, 2, 79, 0), (.getfield 43, 3, 6, 8, 47, 0), (.iconst 0, 1, 0, 0, 0, nI 0), (.aload_n 0, 1, 0, 0, 0, 0), (.getfield 9, 3, 1, 0, 73, 0), (.bipush 31, 2, 0, 0, 0, nI 31), (.bipush 10, 2, 0, 0, 0, nI 10)] [] (pc2 := 42) (ls2 := [some (.ref 37)]) (st2 := [.int (nI 10), .int (nI 31), .ref 38, .int (nI 0), .ref 8]) (M2 := mrow M 38 (va_cpy (M.1 10) r4 0 1 6)) (Ps := []) (by decide +kernel) rfl rfl trivial ?_
  refine G.copy (s0 := 0) (p0 := 31) (n := 10) la_EvenFinders_Days_37 (by decide +kernel) rfl rfl rfl rfl rfl (by omega) (by omega) (Nat.le_of_ble_eq_true rfl) ?_
  refine G.mem (M' := mrow M 38 (va_cpy (M.1 8) (va_cpy (M.1 10) r4 0 1 6) 0 31 10)) (by first | rfl | (simp only [mput, mrow_same, mrow_hit, mrow_miss, mrow_sw, idr_eq, ne_eq, Nat.reduceEqDiff, not_false_eq_true, Nat.reduceLT, reduceCtorEq]; done)) ?_
  refine G.sl [(.aload_n 0, 1, 0, 0, 0, 0), (.getfield 18, 3, 1, 2, 79, 0), (.getfield 46, 3, 6, 9, 49, 0), (.iconst 0, 1, 0, 0, 0, nI 0), (.aload_n 0, 1, 0, 0, 0, 0), (.getfield 9, 3, 1, 0, 73, 0), (.bipush 41, 2, 0, 0, 0, nI 41), (.bipush 10, 2, 0, 0, 0, nI 10)] [] (pc2 := 61) (ls2 := [some (.ref 37)]) (st2 := [.int (nI 10), .int (nI 41), .ref 38, .int (nI 0), .ref 9]) (M2 := mrow M 38 (va_cpy (M.1 8) (va_cpy (M.1 10) r4 0 1 6) 0 31 10)) (Ps := []) (by decide +kernel) rfl rfl trivial ?_
  refine G.copy (s0 := 0) (p0 := 41) (n := 10) la_EvenFinders_Days_37 (by decide +kernel) rfl rfl rfl rfl rfl (by omega) (by omega) (Nat.le_of_ble_eq_true rfl) ?_
  refine G.mem (M' := mrow M 38 (va_cpy (M.1 9) (va_cpy (M.1 8) (va_cpy (M.1 10) r4 0 1 6) 0 31 10) 0 41 10)) (by first | rfl | (simp only [mput, mrow_same, mrow_hit, mrow_miss, mrow_sw, idr_eq, ne_eq, Nat.reduceEqDiff, not_false_eq_true, Nat.reduceLT, reduceCtorEq]; done)) ?_
  exact G.retv (by decide +kernel) rfl (Nat.le_of_ble_eq_true rfl) (Nat.le_of_ble_eq_true rfl) ((by rw [hQ]; simp only [d_begin, g2, mrow_self]))
set_option maxHeartbeats 4000000 in
set_option maxRecDepth 3000 in
theorem c_d_take_40_37 (z : Zp) (d : Nat) (M : Mem) : GM z mX1_take (d + 1) [.ref 40, .ref 37] M (fun rs => rs = .inl (none, mrow M 41 ((d_take (M.1 38) (M.1 41)).2))) := by
  refine GM.of oX1_take.1 (Nat.le_of_ble_eq_true rfl) ?_
  show G z mX1_take (d + 1) 0 0 0 [some (.ref 40), some (.ref 37)] [] M _
  obtain ⟨Q, hQ⟩ : ∃ Q : Rs → Prop, Q = (fun rs => rs = .inl (none, mrow M 41 ((d_take (M.1 38) (M.1 41)).2))) := ⟨_, rfl⟩
  rw [← hQ]
  refine G.sl [(.aload_n 1, 1, 1, 0, 0, 0), (.getfield 9, 3, 1, 0, 73, 0), (.iconst 0, 1, 0, 0, 0, nI 0), (.aload_n 0, 1, 0, 0, 0, 0), (.getfield 9, 3, 1, 0, 73, 0), (.iconst 0, 1, 0, 0, 0, nI 0), (.bipush 51, 2, 0, 0, 0, nI 51)] [] (pc2 := 12) (ls2 := [some (.ref 40), some (.ref 37)]) (st2 := [.int (nI 51), .int (nI 0), .ref 41, .int (nI 0), .ref 38]) (M2 := M) (Ps := []) (by decide +kernel) rfl rfl trivial ?_
  refine G.copy (s0 := 0) (p0 := 0) (n := 51) la_EvenFinders_Days_37 (by decide +kernel) rfl rfl rfl rfl rfl (by omega) (by omega) (Nat.le_of_ble_eq_true rfl) ?_
  refine G.mem (M' := mrow M 41 (va_cpy (M.1 38) (M.1 41) 0 0 51)) (by first | rfl | (simp only [mput, mrow_same, mrow_hit, mrow_miss, mrow_sw, idr_eq, ne_eq, Nat.reduceEqDiff, not_false_eq_true, Nat.reduceLT, reduceCtorEq]; done)) ?_
  exact G.retv (by decide +kernel) rfl (Nat.le_of_ble_eq_true rfl) (Nat.le_of_ble_eq_true rfl) ((by rw [hQ]; simp only [d_take, mrow_self]))
theorem d_mayFind_01 (Rrow : Nat → Int32) (n1 : Nat) (n2 : Nat) : d_mayFind Rrow n1 n2 = 0 ∨ d_mayFind Rrow n1 n2 = 1 := by
  unfold d_mayFind
  repeat' split
  all_goals first | exact Or.inl rfl | exact Or.inr rfl
set_option maxHeartbeats 4000000 in
set_option maxRecDepth 3000 in
theorem c_d_mayFind_37 (z : Zp) (d : Nat) (M : Mem) (n1 : Nat) (n2 : Nat) (b1 : n1 < 6) (b2 : n2 < 10) : GM z mX1_mayFind (d) [.ref 37, .int (nI n1), .int (nI n2)] M (fun rs => rs = .inl (some (.int (d_mayFind (M.1 38) n1 n2)), M)) := by
  refine GM.of oX1_mayFind.1 (Nat.le_of_ble_eq_true rfl) ?_
  show G z mX1_mayFind (d) 0 0 0 [some (.ref 37), some (.int (nI n1)), some (.int (nI n2))] [] M _
  obtain ⟨Q, hQ⟩ : ∃ Q : Rs → Prop, Q = (fun rs => rs = .inl (some (.int (d_mayFind (M.1 38) n1 n2)), M)) := ⟨_, rfl⟩
  rw [← hQ]
  refine G.sl [(.aload_n 0, 1, 0, 0, 0, 0), (.getfield 9, 3, 1, 0, 73, 0), (.bipush 31, 2, 0, 0, 0, nI 31), (.iload_n 2, 1, 2, 0, 0, 0), (.iadd, 1, 0, 0, 0, 0), (.iaload, 1, 0, 0, 0, 0), (.aload_n 0, 1, 0, 0, 0, 0), (.getfield 9, 3, 1, 0, 73, 0), (.iconst 1, 1, 0, 0, 0, nI 1), (.iload_n 1, 1, 1, 0, 0, 0), (.iadd, 1, 0, 0, 0, 0), (.iaload, 1, 0, 0, 0, 0)] [31 + n2, 1 + n1] (pc2 := 17) (ls2 := [some (.ref 37), some (.int (nI n1)), some (.int (nI n2))]) (st2 := [.int (M.1 38 (1 + n1)), .int (M.1 38 (31 + n2))]) (M2 := M) (Ps := [((nI 31) + (nI n2)) = nI (31 + n2) ∧ (31 + n2) < 51, ((nI 1) + (nI n1)) = nI (1 + n1) ∧ (1 + n1) < 51]) (by decide +kernel) rfl rfl ⟨⟨(nI_add _ _), (by omega)⟩, ⟨(nI_add _ _), (by omega)⟩, trivial⟩ ?_
  refine G.ic_ne (off := (19)) (tgt := 36) (by decide +kernel) rfl (fun c1 => ?_) (fun c1 => ?_)
  · skip
    refine G.sl [(.iconst 0, 1, 0, 0, 0, nI 0)] [] (pc2 := 37) (ls2 := [some (.ref 37), some (.int (nI n1)), some (.int (nI n2))]) (st2 := [.int (nI 0)]) (M2 := M) (Ps := []) (by decide +kernel) rfl rfl trivial ?_
    exact G.reti (by decide +kernel) rfl rfl (Nat.le_of_ble_eq_true rfl) (Nat.le_of_ble_eq_true rfl) ((by rw [hQ]; simp only [d_mayFind, if_neg c1, mrow_self]))
  · skip
    refine G.sl [(.aload_n 0, 1, 0, 0, 0, 0), (.getfield 9, 3, 1, 0, 73, 0), (.bipush 7, 2, 0, 0, 0, nI 7), (.iload_n 1, 1, 1, 0, 0, 0), (.iadd, 1, 0, 0, 0, 0), (.iaload, 1, 0, 0, 0, 0)] [7 + n1] (pc2 := 29) (ls2 := [some (.ref 37), some (.int (nI n1)), some (.int (nI n2))]) (st2 := [.int (M.1 38 (7 + n1))]) (M2 := M) (Ps := [((nI 7) + (nI n1)) = nI (7 + n1) ∧ (7 + n1) < 51]) (by decide +kernel) rfl rfl ⟨⟨(nI_add _ _), (by omega)⟩, trivial⟩ ?_
    refine G.if_gt (off := (7)) (tgt := 36) (by decide +kernel) rfl (fun c2 => ?_) (fun c2 => ?_)
    · skip
      refine G.sl [(.iconst 0, 1, 0, 0, 0, nI 0)] [] (pc2 := 37) (ls2 := [some (.ref 37), some (.int (nI n1)), some (.int (nI n2))]) (st2 := [.int (nI 0)]) (M2 := M) (Ps := []) (by decide +kernel) rfl rfl trivial ?_
      exact G.reti (by decide +kernel) rfl rfl (Nat.le_of_ble_eq_true rfl) (Nat.le_of_ble_eq_true rfl) ((by rw [hQ]; simp only [d_mayFind, if_pos c1, if_pos c2, mrow_self]))
    · skip
      refine G.sl [(.iconst 1, 1, 0, 0, 0, nI 1), (.goto 4, 3, 37, 0, 0, 0)] [] (pc2 := 37) (ls2 := [some (.ref 37), some (.int (nI n1)), some (.int (nI n2))]) (st2 := [.int (nI 1)]) (M2 := M) (Ps := []) (by decide +kernel) rfl rfl trivial ?_
      exact G.reti (by decide +kernel) rfl rfl (Nat.le_of_ble_eq_true rfl) (Nat.le_of_ble_eq_true rfl) ((by rw [hQ]; simp only [d_mayFind, if_pos c1, if_neg c2, mrow_self]))
set_option maxHeartbeats 4000000 in
set_option maxRecDepth 3000 in
theorem lp_d_heldBy_37_4 (z : Zp) (d : Nat) (M : Mem) (Q : Rs → Prop) (x1 : Int32) (nt : Nat) (hnt : nt ≤ 10) (ht : M.1 3 2 = nI nt) (hX : G z mX1_heldBy (d) 0 0 40 [none, none, some (.int (d_heldBy_4 (M.1 38) x1 nt)), none] [] M Q) : G z mX1_heldBy (d) 0 0 4 [some (.ref 37), some (.int x1), some (.int (nI 0)), some (.int (nI 0))] [] M Q := by
  refine down (n := nt) (P := fun i3 => G z mX1_heldBy (d) 0 0 4 [some (.ref 37), some (.int x1), some (.int (d_heldBy_4 (M.1 38) x1 i3)), some (.int (nI i3))] [] M Q) ?_ ?_ 0 (Nat.zero_le _)
  · skip
    refine G.sl [(.iload_n 3, 1, 3, 0, 0, 0), (.aload_n 0, 1, 0, 0, 0, 0), (.getfield 18, 3, 1, 2, 79, 0), (.getfield 86, 3, 6, 2, 28, 0)] [] (pc2 := 12) (ls2 := [some (.ref 37), some (.int x1), some (.int (d_heldBy_4 (M.1 38) x1 nt)), some (.int (nI nt))]) (st2 := [.int (M.1 3 2), .int (nI nt)]) (M2 := M) (Ps := []) (by decide +kernel) rfl rfl trivial ?_
    rw [ht]
    refine G.ic_ge (off := (28)) (tgt := 40) (by decide +kernel) rfl (fun _ => ?_) (fun h9 => absurd (nI_le (by omega) (by omega)) h9)
    refine G.loc (ls2 := [none, none, some (.int (d_heldBy_4 (M.1 38) x1 nt)), none]) (by simp [subL]) ?_
    exact hX
  · skip
    intro i3 hi ih
    show G z mX1_heldBy (d) 0 0 4 [some (.ref 37), some (.int x1), some (.int (d_heldBy_4 (M.1 38) x1 i3)), some (.int (nI i3))] [] M Q
    refine G.sl [(.iload_n 3, 1, 3, 0, 0, 0), (.aload_n 0, 1, 0, 0, 0, 0), (.getfield 18, 3, 1, 2, 79, 0), (.getfield 86, 3, 6, 2, 28, 0)] [] (pc2 := 12) (ls2 := [some (.ref 37), some (.int x1), some (.int (d_heldBy_4 (M.1 38) x1 i3)), some (.int (nI i3))]) (st2 := [.int (M.1 3 2), .int (nI i3)]) (M2 := M) (Ps := []) (by decide +kernel) rfl rfl trivial ?_
    rw [ht]
    refine G.ic_ge (off := (28)) (tgt := 40) (by decide +kernel) rfl (fun h9 => absurd h9 (nI_ge (by omega) (by omega))) (fun _ => ?_)
    refine G.sl [(.aload_n 0, 1, 0, 0, 0, 0), (.getfield 9, 3, 1, 0, 73, 0), (.bipush 41, 2, 0, 0, 0, nI 41), (.iload_n 3, 1, 3, 0, 0, 0), (.iadd, 1, 0, 0, 0, 0), (.iaload, 1, 0, 0, 0, 0), (.iload_n 1, 1, 1, 0, 0, 0)] [41 + i3] (pc2 := 25) (ls2 := [some (.ref 37), some (.int x1), some (.int (d_heldBy_4 (M.1 38) x1 i3)), some (.int (nI i3))]) (st2 := [.int x1, .int (M.1 38 (41 + i3))]) (M2 := M) (Ps := [((nI 41) + (nI i3)) = nI (41 + i3) ∧ (41 + i3) < 51]) (by decide +kernel) rfl rfl ⟨⟨(nI_add _ _), (by omega)⟩, trivial⟩ ?_
    refine G.ic_ne (off := (9)) (tgt := 34) (by decide +kernel) rfl (fun c1 => ?_) (fun c1 => ?_)
    · skip
      refine G.sl [(.iinc 3 1, 3, 3, 0, 0, nI 1), (.goto (-33), 3, 4, 0, 0, 0)] [] (pc2 := 4) (ls2 := [some (.ref 37), some (.int x1), some (.int (d_heldBy_4 (M.1 38) x1 i3)), some (.int ((nI i3) + nI 1))]) (st2 := []) (M2 := M) (Ps := []) (by decide +kernel) rfl rfl trivial ?_
      rw [nI_add i3 1]
      simp only [d_heldBy_4, if_neg c1] at ih
      exact ih
    · skip
      refine G.sl [(.iload_n 2, 1, 2, 0, 0, 0), (.iconst 1, 1, 0, 0, 0, nI 1), (.iload_n 3, 1, 3, 0, 0, 0), (.ishl, 1, 0, 0, 0, 0), (.ior, 1, 0, 0, 0, 0), (.istore_n 2, 1, 2, 0, 0, 0), (.iinc 3 1, 3, 3, 0, 0, nI 1), (.goto (-33), 3, 4, 0, 0, 0)] [] (pc2 := 4) (ls2 := [some (.ref 37), some (.int x1), some (.int ((d_heldBy_4 (M.1 38) x1 i3) ||| ((nI 1) <<< ((nI i3) &&& 31)))), some (.int ((nI i3) + nI 1))]) (st2 := []) (M2 := M) (Ps := []) (by decide +kernel) rfl rfl trivial ?_
      rw [nI_add i3 1]
      simp only [d_heldBy_4, if_pos c1] at ih
      exact ih
set_option maxHeartbeats 4000000 in
set_option maxRecDepth 3000 in
theorem c_d_heldBy_37 (z : Zp) (d : Nat) (M : Mem) (x1 : Int32) (nt : Nat) (hnt : nt ≤ 10) (ht : M.1 3 2 = nI nt) : GM z mX1_heldBy (d) [.ref 37, .int x1] M (fun rs => rs = .inl (some (.int (d_heldBy (M.1 38) nt x1)), M)) := by
  refine GM.of oX1_heldBy.1 (Nat.le_of_ble_eq_true rfl) ?_
  show G z mX1_heldBy (d) 0 0 0 [some (.ref 37), some (.int x1), none, none] [] M _
  obtain ⟨Q, hQ⟩ : ∃ Q : Rs → Prop, Q = (fun rs => rs = .inl (some (.int (d_heldBy (M.1 38) nt x1)), M)) := ⟨_, rfl⟩
  rw [← hQ]
  refine G.sl [(.iconst 0, 1, 0, 0, 0, nI 0), (.istore_n 2, 1, 2, 0, 0, 0), (.iconst 0, 1, 0, 0, 0, nI 0), (.istore_n 3, 1, 3, 0, 0, 0)] [] (pc2 := 4) (ls2 := [some (.ref 37), some (.int x1), some (.int (nI 0)), some (.int (nI 0))]) (st2 := []) (M2 := M) (Ps := []) (by decide +kernel) rfl rfl trivial ?_
  refine lp_d_heldBy_37_4 z d M Q x1 nt hnt ht ?_
  show G z mX1_heldBy (d) 0 0 40 [none, none, some (.int (d_heldBy_4 (M.1 38) x1 nt)), none] [] M Q
  refine G.sl [(.iload_n 2, 1, 2, 0, 0, 0)] [] (pc2 := 41) (ls2 := [none, none, some (.int (d_heldBy_4 (M.1 38) x1 nt)), none]) (st2 := [.int (d_heldBy_4 (M.1 38) x1 nt)]) (M2 := M) (Ps := []) (by decide +kernel) rfl rfl trivial ?_
  exact G.reti (by decide +kernel) rfl rfl (Nat.le_of_ble_eq_true rfl) (Nat.le_of_ble_eq_true rfl) ((by rw [hQ]; simp only [d_heldBy, mrow_self]))
set_option maxHeartbeats 4000000 in
set_option maxRecDepth 3000 in
theorem c_J6_bitCount_0f7a4 (z : Zp) (d : Nat) (M : Mem) (x0 : Int32) : GM z mJ6_bitCount_0f7a4 (d) [.int x0] M (fun rs => rs = .inl (some (.int (J6_bitCount_0f7a4 x0)), M)) := by
  refine GM.of oJ6_bitCount_0f7a4.1 (Nat.le_of_ble_eq_true rfl) ?_
  show G z mJ6_bitCount_0f7a4 (d) 0 0 0 [some (.int x0)] [] M _
  obtain ⟨Q, hQ⟩ : ∃ Q : Rs → Prop, Q = (fun rs => rs = .inl (some (.int (J6_bitCount_0f7a4 x0)), M)) := ⟨_, rfl⟩
  rw [← hQ]
  refine G.sl [(.iload_n 0, 1, 0, 0, 0, 0), (.iload_n 0, 1, 0, 0, 0, 0), (.iconst 1, 1, 0, 0, 0, nI 1), (.iushr, 1, 0, 0, 0, 0), (.ldc_w 265, 3, 0, 0, 0, nI 1431655765), (.iand, 1, 0, 0, 0, 0), (.isub, 1, 0, 0, 0, 0), (.istore_n 0, 1, 0, 0, 0, 0)] [] (pc2 := 10) (ls2 := [some (.int (x0 - (((x0.toUInt32 >>> ((nI 1).toUInt32 &&& Int32.toUInt32 31)).toInt32) &&& (nI 1431655765))))]) (st2 := []) (M2 := M) (Ps := []) (by decide +kernel) rfl rfl trivial ?_
  obtain ⟨w1, hw1⟩ : ∃ w : Int32, w = (x0 - (((x0.toUInt32 >>> ((nI 1).toUInt32 &&& Int32.toUInt32 31)).toInt32) &&& (nI 1431655765))) := ⟨_, rfl⟩
  rw [← hw1]
  refine G.sl [(.iload_n 0, 1, 0, 0, 0, 0), (.ldc_w 266, 3, 0, 0, 1, nI 858993459), (.iand, 1, 0, 0, 0, 0), (.iload_n 0, 1, 0, 0, 0, 0), (.iconst 2, 1, 0, 0, 0, nI 2), (.iushr, 1, 0, 0, 0, 0), (.ldc_w 266, 3, 0, 0, 1, nI 858993459), (.iand, 1, 0, 0, 0, 0), (.iadd, 1, 0, 0, 0, 0), (.istore_n 0, 1, 0, 0, 0, 0)] [] (pc2 := 24) (ls2 := [some (.int ((w1 &&& (nI 858993459)) + (((w1.toUInt32 >>> ((nI 2).toUInt32 &&& Int32.toUInt32 31)).toInt32) &&& (nI 858993459))))]) (st2 := []) (M2 := M) (Ps := []) (by decide +kernel) rfl rfl trivial ?_
  obtain ⟨w2, hw2⟩ : ∃ w : Int32, w = ((w1 &&& (nI 858993459)) + (((w1.toUInt32 >>> ((nI 2).toUInt32 &&& Int32.toUInt32 31)).toInt32) &&& (nI 858993459))) := ⟨_, rfl⟩
  rw [← hw2]
  refine G.sl [(.iload_n 0, 1, 0, 0, 0, 0), (.iload_n 0, 1, 0, 0, 0, 0), (.iconst 4, 1, 0, 0, 0, nI 4), (.iushr, 1, 0, 0, 0, 0), (.iadd, 1, 0, 0, 0, 0), (.ldc_w 267, 3, 0, 0, 2, nI 252645135), (.iand, 1, 0, 0, 0, 0), (.istore_n 0, 1, 0, 0, 0, 0)] [] (pc2 := 34) (ls2 := [some (.int ((w2 + ((w2.toUInt32 >>> ((nI 4).toUInt32 &&& Int32.toUInt32 31)).toInt32)) &&& (nI 252645135)))]) (st2 := []) (M2 := M) (Ps := []) (by decide +kernel) rfl rfl trivial ?_
  obtain ⟨w3, hw3⟩ : ∃ w : Int32, w = ((w2 + ((w2.toUInt32 >>> ((nI 4).toUInt32 &&& Int32.toUInt32 31)).toInt32)) &&& (nI 252645135)) := ⟨_, rfl⟩
  rw [← hw3]
  refine G.sl [(.iload_n 0, 1, 0, 0, 0, 0), (.iload_n 0, 1, 0, 0, 0, 0), (.bipush 8, 2, 0, 0, 0, nI 8), (.iushr, 1, 0, 0, 0, 0), (.iadd, 1, 0, 0, 0, 0), (.istore_n 0, 1, 0, 0, 0, 0)] [] (pc2 := 41) (ls2 := [some (.int (w3 + ((w3.toUInt32 >>> ((nI 8).toUInt32 &&& Int32.toUInt32 31)).toInt32)))]) (st2 := []) (M2 := M) (Ps := []) (by decide +kernel) rfl rfl trivial ?_
  obtain ⟨w4, hw4⟩ : ∃ w : Int32, w = (w3 + ((w3.toUInt32 >>> ((nI 8).toUInt32 &&& Int32.toUInt32 31)).toInt32)) := ⟨_, rfl⟩
  rw [← hw4]
  refine G.sl [(.iload_n 0, 1, 0, 0, 0, 0), (.iload_n 0, 1, 0, 0, 0, 0), (.bipush 16, 2, 0, 0, 0, nI 16), (.iushr, 1, 0, 0, 0, 0), (.iadd, 1, 0, 0, 0, 0), (.istore_n 0, 1, 0, 0, 0, 0)] [] (pc2 := 48) (ls2 := [some (.int (w4 + ((w4.toUInt32 >>> ((nI 16).toUInt32 &&& Int32.toUInt32 31)).toInt32)))]) (st2 := []) (M2 := M) (Ps := []) (by decide +kernel) rfl rfl trivial ?_
  obtain ⟨w5, hw5⟩ : ∃ w : Int32, w = (w4 + ((w4.toUInt32 >>> ((nI 16).toUInt32 &&& Int32.toUInt32 31)).toInt32)) := ⟨_, rfl⟩
  rw [← hw5]
  refine G.sl [(.iload_n 0, 1, 0, 0, 0, 0), (.bipush 63, 2, 0, 0, 0, nI 63), (.iand, 1, 0, 0, 0, 0)] [] (pc2 := 52) (ls2 := [some (.int w5)]) (st2 := [.int (w5 &&& (nI 63))]) (M2 := M) (Ps := []) (by decide +kernel) rfl rfl trivial ?_
  exact G.reti (by decide +kernel) rfl rfl (Nat.le_of_ble_eq_true rfl) (Nat.le_of_ble_eq_true rfl) ((by rw [hQ]; simp only [J6_bitCount_0f7a4, ← hw1, ← hw2, ← hw3, ← hw4, ← hw5, mrow_self]))
set_option maxHeartbeats 4000000 in
set_option maxRecDepth 3000 in
theorem lp_d_lyingAt_37_4 (z : Zp) (d : Nat) (M : Mem) (Q : Rs → Prop) (x1 : Int32) (nt : Nat) (hnt : nt ≤ 10) (ht : M.1 3 2 = nI nt) (hX : G z mX1_lyingAt (d) 0 0 40 [none, none, some (.int (d_lyingAt_4 (M.1 38) x1 nt)), none] [] M Q) : G z mX1_lyingAt (d) 0 0 4 [some (.ref 37), some (.int x1), some (.int (nI 0)), some (.int (nI 0))] [] M Q := by
  refine down (n := nt) (P := fun i3 => G z mX1_lyingAt (d) 0 0 4 [some (.ref 37), some (.int x1), some (.int (d_lyingAt_4 (M.1 38) x1 i3)), some (.int (nI i3))] [] M Q) ?_ ?_ 0 (Nat.zero_le _)
  · skip
    refine G.sl [(.iload_n 3, 1, 3, 0, 0, 0), (.aload_n 0, 1, 0, 0, 0, 0), (.getfield 18, 3, 1, 2, 79, 0), (.getfield 86, 3, 6, 2, 28, 0)] [] (pc2 := 12) (ls2 := [some (.ref 37), some (.int x1), some (.int (d_lyingAt_4 (M.1 38) x1 nt)), some (.int (nI nt))]) (st2 := [.int (M.1 3 2), .int (nI nt)]) (M2 := M) (Ps := []) (by decide +kernel) rfl rfl trivial ?_
    rw [ht]
    refine G.ic_ge (off := (28)) (tgt := 40) (by decide +kernel) rfl (fun _ => ?_) (fun h9 => absurd (nI_le (by omega) (by omega)) h9)
    refine G.loc (ls2 := [none, none, some (.int (d_lyingAt_4 (M.1 38) x1 nt)), none]) (by simp [subL]) ?_
    exact hX
  · skip
    intro i3 hi ih
    show G z mX1_lyingAt (d) 0 0 4 [some (.ref 37), some (.int x1), some (.int (d_lyingAt_4 (M.1 38) x1 i3)), some (.int (nI i3))] [] M Q
    refine G.sl [(.iload_n 3, 1, 3, 0, 0, 0), (.aload_n 0, 1, 0, 0, 0, 0), (.getfield 18, 3, 1, 2, 79, 0), (.getfield 86, 3, 6, 2, 28, 0)] [] (pc2 := 12) (ls2 := [some (.ref 37), some (.int x1), some (.int (d_lyingAt_4 (M.1 38) x1 i3)), some (.int (nI i3))]) (st2 := [.int (M.1 3 2), .int (nI i3)]) (M2 := M) (Ps := []) (by decide +kernel) rfl rfl trivial ?_
    rw [ht]
    refine G.ic_ge (off := (28)) (tgt := 40) (by decide +kernel) rfl (fun h9 => absurd h9 (nI_ge (by omega) (by omega))) (fun _ => ?_)
    refine G.sl [(.aload_n 0, 1, 0, 0, 0, 0), (.getfield 9, 3, 1, 0, 73, 0), (.bipush 31, 2, 0, 0, 0, nI 31), (.iload_n 3, 1, 3, 0, 0, 0), (.iadd, 1, 0, 0, 0, 0), (.iaload, 1, 0, 0, 0, 0), (.iload_n 1, 1, 1, 0, 0, 0)] [31 + i3] (pc2 := 25) (ls2 := [some (.ref 37), some (.int x1), some (.int (d_lyingAt_4 (M.1 38) x1 i3)), some (.int (nI i3))]) (st2 := [.int x1, .int (M.1 38 (31 + i3))]) (M2 := M) (Ps := [((nI 31) + (nI i3)) = nI (31 + i3) ∧ (31 + i3) < 51]) (by decide +kernel) rfl rfl ⟨⟨(nI_add _ _), (by omega)⟩, trivial⟩ ?_
    refine G.ic_ne (off := (9)) (tgt := 34) (by decide +kernel) rfl (fun c1 => ?_) (fun c1 => ?_)
    · skip
      refine G.sl [(.iinc 3 1, 3, 3, 0, 0, nI 1), (.goto (-33), 3, 4, 0, 0, 0)] [] (pc2 := 4) (ls2 := [some (.ref 37), some (.int x1), some (.int (d_lyingAt_4 (M.1 38) x1 i3)), some (.int ((nI i3) + nI 1))]) (st2 := []) (M2 := M) (Ps := []) (by decide +kernel) rfl rfl trivial ?_
      rw [nI_add i3 1]
      simp only [d_lyingAt_4, if_neg c1] at ih
      exact ih
    · skip
      refine G.sl [(.iload_n 2, 1, 2, 0, 0, 0), (.iconst 1, 1, 0, 0, 0, nI 1), (.iload_n 3, 1, 3, 0, 0, 0), (.ishl, 1, 0, 0, 0, 0), (.ior, 1, 0, 0, 0, 0), (.istore_n 2, 1, 2, 0, 0, 0), (.iinc 3 1, 3, 3, 0, 0, nI 1), (.goto (-33), 3, 4, 0, 0, 0)] [] (pc2 := 4) (ls2 := [some (.ref 37), some (.int x1), some (.int ((d_lyingAt_4 (M.1 38) x1 i3) ||| ((nI 1) <<< ((nI i3) &&& 31)))), some (.int ((nI i3) + nI 1))]) (st2 := []) (M2 := M) (Ps := []) (by decide +kernel) rfl rfl trivial ?_
      rw [nI_add i3 1]
      simp only [d_lyingAt_4, if_pos c1] at ih
      exact ih
set_option maxHeartbeats 4000000 in
set_option maxRecDepth 3000 in
theorem c_d_lyingAt_37 (z : Zp) (d : Nat) (M : Mem) (x1 : Int32) (nt : Nat) (hnt : nt ≤ 10) (ht : M.1 3 2 = nI nt) : GM z mX1_lyingAt (d) [.ref 37, .int x1] M (fun rs => rs = .inl (some (.int (d_lyingAt (M.1 38) nt x1)), M)) := by
  refine GM.of oX1_lyingAt.1 (Nat.le_of_ble_eq_true rfl) ?_
  show G z mX1_lyingAt (d) 0 0 0 [some (.ref 37), some (.int x1), none, none] [] M _
  obtain ⟨Q, hQ⟩ : ∃ Q : Rs → Prop, Q = (fun rs => rs = .inl (some (.int (d_lyingAt (M.1 38) nt x1)), M)) := ⟨_, rfl⟩
  rw [← hQ]
  refine G.sl [(.iconst 0, 1, 0, 0, 0, nI 0), (.istore_n 2, 1, 2, 0, 0, 0), (.iconst 0, 1, 0, 0, 0, nI 0), (.istore_n 3, 1, 3, 0, 0, 0)] [] (pc2 := 4) (ls2 := [some (.ref 37), some (.int x1), some (.int (nI 0)), some (.int (nI 0))]) (st2 := []) (M2 := M) (Ps := []) (by decide +kernel) rfl rfl trivial ?_
  refine lp_d_lyingAt_37_4 z d M Q x1 nt hnt ht ?_
  show G z mX1_lyingAt (d) 0 0 40 [none, none, some (.int (d_lyingAt_4 (M.1 38) x1 nt)), none] [] M Q
  refine G.sl [(.iload_n 2, 1, 2, 0, 0, 0)] [] (pc2 := 41) (ls2 := [none, none, some (.int (d_lyingAt_4 (M.1 38) x1 nt)), none]) (st2 := [.int (d_lyingAt_4 (M.1 38) x1 nt)]) (M2 := M) (Ps := []) (by decide +kernel) rfl rfl trivial ?_
  exact G.reti (by decide +kernel) rfl rfl (Nat.le_of_ble_eq_true rfl) (Nat.le_of_ble_eq_true rfl) ((by rw [hQ]; simp only [d_lyingAt, mrow_self]))
set_option maxHeartbeats 4000000 in
set_option maxRecDepth 3000 in
theorem c_d_dutyOf_37 (z : Zp) (d : Nat) (M : Mem) (n1 : Nat) (n2 : Nat) (nt : Nat) (hnt : nt ≤ 10) (ht : M.1 3 2 = nI nt) (b1 : n1 < 6) (b2 : n2 < 10) (hk : d_dutyOf_ok (M.1 7) (M.1 21) (M.1 22) (M.1 23) (M.1 24) (M.1 38) nt n1 n2) : GM z mX1_dutyOf (d + 2) [.ref 37, .int (nI n1), .int (nI n2)] M (fun rs => rs = .inl (some (.int ((d_dutyOf (M.1 7) (M.1 21) (M.1 22) (M.1 23) (M.1 24) (M.1 38) nt n1 n2).1)), mrow (mrow M 22 ((d_dutyOf (M.1 7) (M.1 21) (M.1 22) (M.1 23) (M.1 24) (M.1 38) nt n1 n2).2.1)) 24 ((d_dutyOf (M.1 7) (M.1 21) (M.1 22) (M.1 23) (M.1 24) (M.1 38) nt n1 n2).2.2))) := by
  simp only [d_dutyOf_ok] at hk
  refine GM.of oX1_dutyOf.1 (Nat.le_of_ble_eq_true rfl) ?_
  show G z mX1_dutyOf (d + 2) 0 0 0 [some (.ref 37), some (.int (nI n1)), some (.int (nI n2))] [] M _
  obtain ⟨Q, hQ⟩ : ∃ Q : Rs → Prop, Q = (fun rs => rs = .inl (some (.int ((d_dutyOf (M.1 7) (M.1 21) (M.1 22) (M.1 23) (M.1 24) (M.1 38) nt n1 n2).1)), mrow (mrow M 22 ((d_dutyOf (M.1 7) (M.1 21) (M.1 22) (M.1 23) (M.1 24) (M.1 38) nt n1 n2).2.1)) 24 ((d_dutyOf (M.1 7) (M.1 21) (M.1 22) (M.1 23) (M.1 24) (M.1 38) nt n1 n2).2.2))) := ⟨_, rfl⟩
  rw [← hQ]
  refine G.sl [(.aload_n 0, 1, 0, 0, 0, 0), (.getfield 22, 3, 1, 3, 80, 0), (.getfield 89, 3, 3, 0, 54, 0), (.iconst 0, 1, 0, 0, 0, nI 0), (.aload_n 0, 1, 0, 0, 0, 0), (.getfield 18, 3, 1, 2, 79, 0), (.getfield 63, 3, 6, 7, 44, 0), (.iload_n 2, 1, 2, 0, 0, 0), (.iaload, 1, 0, 0, 0, 0), (.iastore, 1, 0, 0, 0, 0), (.aload_n 0, 1, 0, 0, 0, 0), (.getfield 22, 3, 1, 3, 80, 0), (.getfield 89, 3, 3, 0, 54, 0), (.iconst 1, 1, 0, 0, 0, nI 1), (.aload_n 0, 1, 0, 0, 0, 0), (.getfield 9, 3, 1, 0, 73, 0), (.bipush 7, 2, 0, 0, 0, nI 7), (.iload_n 1, 1, 1, 0, 0, 0), (.iadd, 1, 0, 0, 0, 0), (.iaload, 1, 0, 0, 0, 0), (.iastore, 1, 0, 0, 0, 0), (.aload_n 0, 1, 0, 0, 0, 0), (.getfield 22, 3, 1, 3, 80, 0), (.getfield 89, 3, 3, 0, 54, 0), (.iconst 2, 1, 0, 0, 0, nI 2), (.aload_n 0, 1, 0, 0, 0, 0), (.iload_n 1, 1, 1, 0, 0, 0)] [n2, 0, 7 + n1, 1] (pc2 := 46) (ls2 := [some (.ref 37), some (.int (nI n1)), some (.int (nI n2))]) (st2 := [.int (nI n1), .ref 37, .int (nI 2), .ref 22]) (M2 := mput (mput M 22 0 (M.1 7 n2)) 22 1 (M.1 38 (7 + n1))) (Ps := [(nI n2) = nI n2 ∧ n2 < 10, (nI 0) = nI 0 ∧ 0 < 8, ((nI 7) + (nI n1)) = nI (7 + n1) ∧ (7 + n1) < 51, (nI 1) = nI 1 ∧ 1 < 8]) (by decide +kernel) rfl rfl ⟨⟨rfl, (by omega)⟩, ⟨rfl, (by omega)⟩, ⟨(nI_add _ _), (by omega)⟩, ⟨rfl, (by omega)⟩, trivial⟩ ?_
  refine G.mem (M' := mrow M 22 (upd (upd (M.1 22) 0 (M.1 7 n2)) 1 (M.1 38 (7 + n1)))) (by first | rfl | (simp only [mput, mrow_same, mrow_hit, mrow_miss, mrow_sw, idr_eq, ne_eq, Nat.reduceEqDiff, not_false_eq_true, Nat.reduceLT, reduceCtorEq]; done)) ?_
  obtain ⟨k1, hk⟩ := hk
  have t2 : GM z mX1_heldBy (d + 1) [.ref 37, .int (nI n1)] (mrow M 22 (upd (upd (M.1 22) 0 (M.1 7 n2)) 1 (M.1 38 (7 + n1)))) (fun rs => rs = .inl (some (.int (d_heldBy (M.1 38) nt (nI n1))), mrow M 22 (upd (upd (M.1 22) 0 (M.1 7 n2)) 1 (M.1 38 (7 + n1))))) := by
    have q9 := c_d_heldBy_37 z (d + 1) (mrow M 22 (upd (upd (M.1 22) 0 (M.1 7 n2)) 1 (M.1 38 (7 + n1)))) (nI n1) nt hnt ht
    try simp only [mput, mrow_same, mrow_hit, mrow_miss, mrow_sw, idr_eq, ne_eq, Nat.reduceEqDiff, not_false_eq_true, Nat.reduceLT, reduceCtorEq] at q9
    exact q9
  refine G.callV (as := [.int (nI n1)]) (rest := [.int (nI 2), .ref 22]) (a := 37) oX1_heldBy lk_EvenFinders_Days_94 (by decide +kernel) rfl rfl ⟨rfl, rfl⟩ (Nat.le_of_ble_eq_true rfl) rfl ⟨Nat.le_of_ble_eq_true rfl, Nat.le_of_ble_eq_true rfl⟩ t2 (fun v9 N9 h3 => ?_) (fun E9 N9 h3 => by cases h3)
  cases h3
  show G z mX1_dutyOf (d + 2) 0 0 49 [some (.ref 37), some (.int (nI n1)), some (.int (nI n2))] [.int (d_heldBy (M.1 38) nt (nI n1)), .int (nI 2), .ref 22] (mrow M 22 (upd (upd (M.1 22) 0 (M.1 7 n2)) 1 (M.1 38 (7 + n1)))) Q
  obtain ⟨k4, hk⟩ := hk
  have t5 : GM z mJ6_bitCount_0f7a4 (d + 1) [.int (d_heldBy (M.1 38) nt (nI n1))] (mrow M 22 (upd (upd (M.1 22) 0 (M.1 7 n2)) 1 (M.1 38 (7 + n1)))) (fun rs => rs = .inl (some (.int (J6_bitCount_0f7a4 (d_heldBy (M.1 38) nt (nI n1)))), mrow M 22 (upd (upd (M.1 22) 0 (M.1 7 n2)) 1 (M.1 38 (7 + n1))))) := by
    have q9 := c_J6_bitCount_0f7a4 z (d + 1) (mrow M 22 (upd (upd (M.1 22) 0 (M.1 7 n2)) 1 (M.1 38 (7 + n1)))) (d_heldBy (M.1 38) nt (nI n1))
    try simp only [mput, mrow_same, mrow_hit, mrow_miss, mrow_sw, idr_eq, ne_eq, Nat.reduceEqDiff, not_false_eq_true, Nat.reduceLT, reduceCtorEq] at q9
    exact q9
  refine G.callS (as := [.int (d_heldBy (M.1 38) nt (nI n1))]) (rest := [.int (nI 2), .ref 22]) oJ6_bitCount_0f7a4 lk_EvenFinders_Days_97 (by decide +kernel) rfl (Nat.le_of_ble_eq_true rfl) rfl ⟨Nat.le_of_ble_eq_true rfl, Nat.le_of_ble_eq_true rfl⟩ t5 (fun v9 N9 h6 => ?_) (fun E9 N9 h6 => by cases h6)
  cases h6
  show G z mX1_dutyOf (d + 2) 0 0 52 [some (.ref 37), some (.int (nI n1)), some (.int (nI n2))] [.int (J6_bitCount_0f7a4 (d_heldBy (M.1 38) nt (nI n1))), .int (nI 2), .ref 22] (mrow M 22 (upd (upd (M.1 22) 0 (M.1 7 n2)) 1 (M.1 38 (7 + n1)))) Q
  refine G.sl [(.iastore, 1, 0, 0, 0, 0), (.aload_n 0, 1, 0, 0, 0, 0), (.getfield 22, 3, 1, 3, 80, 0), (.getfield 89, 3, 3, 0, 54, 0), (.iconst 3, 1, 0, 0, 0, nI 3), (.aload_n 0, 1, 0, 0, 0, 0), (.getfield 9, 3, 1, 0, 73, 0), (.bipush 19, 2, 0, 0, 0, nI 19), (.iload_n 1, 1, 1, 0, 0, 0), (.iadd, 1, 0, 0, 0, 0), (.iaload, 1, 0, 0, 0, 0), (.iastore, 1, 0, 0, 0, 0), (.aload_n 0, 1, 0, 0, 0, 0), (.getfield 22, 3, 1, 3, 80, 0), (.getfield 89, 3, 3, 0, 54, 0), (.iconst 4, 1, 0, 0, 0, nI 4), (.aload_n 0, 1, 0, 0, 0, 0), (.aload_n 0, 1, 0, 0, 0, 0), (.getfield 9, 3, 1, 0, 73, 0), (.iconst 1, 1, 0, 0, 0, nI 1), (.iload_n 1, 1, 1, 0, 0, 0), (.iadd, 1, 0, 0, 0, 0), (.iaload, 1, 0, 0, 0, 0)] [2, 19 + n1, 3, 1 + n1] (pc2 := 88) (ls2 := [some (.ref 37), some (.int (nI n1)), some (.int (nI n2))]) (st2 := [.int (M.1 38 (1 + n1)), .ref 37, .int (nI 4), .ref 22]) (M2 := mput (mput (mrow M 22 (upd (upd (M.1 22) 0 (M.1 7 n2)) 1 (M.1 38 (7 + n1)))) 22 2 (J6_bitCount_0f7a4 (d_heldBy (M.1 38) nt (nI n1)))) 22 3 (M.1 38 (19 + n1))) (Ps := [(nI 2) = nI 2 ∧ 2 < 8, ((nI 19) + (nI n1)) = nI (19 + n1) ∧ (19 + n1) < 51, (nI 3) = nI 3 ∧ 3 < 8, ((nI 1) + (nI n1)) = nI (1 + n1) ∧ (1 + n1) < 51]) (by decide +kernel) rfl rfl ⟨⟨rfl, (by omega)⟩, ⟨(nI_add _ _), (by omega)⟩, ⟨rfl, (by omega)⟩, ⟨(nI_add _ _), (by omega)⟩, trivial⟩ ?_
  refine G.mem (M' := mrow M 22 (upd (upd (upd (upd (M.1 22) 0 (M.1 7 n2)) 1 (M.1 38 (7 + n1))) 2 (J6_bitCount_0f7a4 (d_heldBy (M.1 38) nt (nI n1)))) 3 (M.1 38 (19 + n1)))) (by first | rfl | (simp only [mput, mrow_same, mrow_hit, mrow_miss, mrow_sw, idr_eq, ne_eq, Nat.reduceEqDiff, not_false_eq_true, Nat.reduceLT, reduceCtorEq]; done)) ?_
  obtain ⟨k7, hk⟩ := hk
  have t8 : GM z mX1_lyingAt (d + 1) [.ref 37, .int (M.1 38 (1 + n1))] (mrow M 22 (upd (upd (upd (upd (M.1 22) 0 (M.1 7 n2)) 1 (M.1 38 (7 + n1))) 2 (J6_bitCount_0f7a4 (d_heldBy (M.1 38) nt (nI n1)))) 3 (M.1 38 (19 + n1)))) (fun rs => rs = .inl (some (.int (d_lyingAt (M.1 38) nt (M.1 38 (1 + n1)))), mrow M 22 (upd (upd (upd (upd (M.1 22) 0 (M.1 7 n2)) 1 (M.1 38 (7 + n1))) 2 (J6_bitCount_0f7a4 (d_heldBy (M.1 38) nt (nI n1)))) 3 (M.1 38 (19 + n1))))) := by
    have q9 := c_d_lyingAt_37 z (d + 1) (mrow M 22 (upd (upd (upd (upd (M.1 22) 0 (M.1 7 n2)) 1 (M.1 38 (7 + n1))) 2 (J6_bitCount_0f7a4 (d_heldBy (M.1 38) nt (nI n1)))) 3 (M.1 38 (19 + n1)))) (M.1 38 (1 + n1)) nt hnt ht
    try simp only [mput, mrow_same, mrow_hit, mrow_miss, mrow_sw, idr_eq, ne_eq, Nat.reduceEqDiff, not_false_eq_true, Nat.reduceLT, reduceCtorEq] at q9
    exact q9
  refine G.callV (as := [.int (M.1 38 (1 + n1))]) (rest := [.int (nI 4), .ref 22]) (a := 37) oX1_lyingAt lk_EvenFinders_Days_102 (by decide +kernel) rfl rfl ⟨rfl, rfl⟩ (Nat.le_of_ble_eq_true rfl) rfl ⟨Nat.le_of_ble_eq_true rfl, Nat.le_of_ble_eq_true rfl⟩ t8 (fun v9 N9 h9 => ?_) (fun E9 N9 h9 => by cases h9)
  cases h9
  show G z mX1_dutyOf (d + 2) 0 0 91 [some (.ref 37), some (.int (nI n1)), some (.int (nI n2))] [.int (d_lyingAt (M.1 38) nt (M.1 38 (1 + n1))), .int (nI 4), .ref 22] (mrow M 22 (upd (upd (upd (upd (M.1 22) 0 (M.1 7 n2)) 1 (M.1 38 (7 + n1))) 2 (J6_bitCount_0f7a4 (d_heldBy (M.1 38) nt (nI n1)))) 3 (M.1 38 (19 + n1)))) Q
  obtain ⟨k10, hk⟩ := hk
  have t11 : GM z mJ6_bitCount_0f7a4 (d + 1) [.int (d_lyingAt (M.1 38) nt (M.1 38 (1 + n1)))] (mrow M 22 (upd (upd (upd (upd (M.1 22) 0 (M.1 7 n2)) 1 (M.1 38 (7 + n1))) 2 (J6_bitCount_0f7a4 (d_heldBy (M.1 38) nt (nI n1)))) 3 (M.1 38 (19 + n1)))) (fun rs => rs = .inl (some (.int (J6_bitCount_0f7a4 (d_lyingAt (M.1 38) nt (M.1 38 (1 + n1))))), mrow M 22 (upd (upd (upd (upd (M.1 22) 0 (M.1 7 n2)) 1 (M.1 38 (7 + n1))) 2 (J6_bitCount_0f7a4 (d_heldBy (M.1 38) nt (nI n1)))) 3 (M.1 38 (19 + n1))))) := by
    have q9 := c_J6_bitCount_0f7a4 z (d + 1) (mrow M 22 (upd (upd (upd (upd (M.1 22) 0 (M.1 7 n2)) 1 (M.1 38 (7 + n1))) 2 (J6_bitCount_0f7a4 (d_heldBy (M.1 38) nt (nI n1)))) 3 (M.1 38 (19 + n1)))) (d_lyingAt (M.1 38) nt (M.1 38 (1 + n1)))
    try simp only [mput, mrow_same, mrow_hit, mrow_miss, mrow_sw, idr_eq, ne_eq, Nat.reduceEqDiff, not_false_eq_true, Nat.reduceLT, reduceCtorEq] at q9
    exact q9
  refine G.callS (as := [.int (d_lyingAt (M.1 38) nt (M.1 38 (1 + n1)))]) (rest := [.int (nI 4), .ref 22]) oJ6_bitCount_0f7a4 lk_EvenFinders_Days_97 (by decide +kernel) rfl (Nat.le_of_ble_eq_true rfl) rfl ⟨Nat.le_of_ble_eq_true rfl, Nat.le_of_ble_eq_true rfl⟩ t11 (fun v9 N9 h12 => ?_) (fun E9 N9 h12 => by cases h12)
  cases h12
  show G z mX1_dutyOf (d + 2) 0 0 94 [some (.ref 37), some (.int (nI n1)), some (.int (nI n2))] [.int (J6_bitCount_0f7a4 (d_lyingAt (M.1 38) nt (M.1 38 (1 + n1)))), .int (nI 4), .ref 22] (mrow M 22 (upd (upd (upd (upd (M.1 22) 0 (M.1 7 n2)) 1 (M.1 38 (7 + n1))) 2 (J6_bitCount_0f7a4 (d_heldBy (M.1 38) nt (nI n1)))) 3 (M.1 38 (19 + n1)))) Q
  refine G.sl [(.iastore, 1, 0, 0, 0, 0), (.aload_n 0, 1, 0, 0, 0, 0), (.getfield 22, 3, 1, 3, 80, 0), (.getfield 89, 3, 3, 0, 54, 0), (.iconst 5, 1, 0, 0, 0, nI 5), (.aload_n 0, 1, 0, 0, 0, 0), (.getfield 9, 3, 1, 0, 73, 0), (.iconst 0, 1, 0, 0, 0, nI 0), (.iaload, 1, 0, 0, 0, 0), (.iastore, 1, 0, 0, 0, 0), (.aload_n 0, 1, 0, 0, 0, 0), (.getfield 22, 3, 1, 3, 80, 0), (.getfield 89, 3, 3, 0, 54, 0), (.bipush 6, 2, 0, 0, 0, nI 6), (.aload_n 0, 1, 0, 0, 0, 0), (.getfield 9, 3, 1, 0, 73, 0), (.bipush 25, 2, 0, 0, 0, nI 25), (.iload_n 1, 1, 1, 0, 0, 0), (.iadd, 1, 0, 0, 0, 0), (.iaload, 1, 0, 0, 0, 0), (.iastore, 1, 0, 0, 0, 0), (.aload_n 0, 1, 0, 0, 0, 0), (.getfield 22, 3, 1, 3, 80, 0), (.getfield 89, 3, 3, 0, 54, 0), (.bipush 7, 2, 0, 0, 0, nI 7), (.iload_n 1, 1, 1, 0, 0, 0), (.iastore, 1, 0, 0, 0, 0), (.aload_n 0, 1, 0, 0, 0, 0), (.getfield 22, 3, 1, 3, 80, 0)] [4, 0, 5, 25 + n1, 6, 7] (pc2 := 144) (ls2 := [some (.ref 37), some (.int (nI n1)), some (.int (nI n2))]) (st2 := [.ref 21]) (M2 := mput (mput (mput (mput (mrow M 22 (upd (upd (upd (upd (M.1 22) 0 (M.1 7 n2)) 1 (M.1 38 (7 + n1))) 2 (J6_bitCount_0f7a4 (d_heldBy (M.1 38) nt (nI n1)))) 3 (M.1 38 (19 + n1)))) 22 4 (J6_bitCount_0f7a4 (d_lyingAt (M.1 38) nt (M.1 38 (1 + n1))))) 22 5 (M.1 38 0)) 22 6 (M.1 38 (25 + n1))) 22 7 (nI n1)) (Ps := [(nI 4) = nI 4 ∧ 4 < 8, (nI 0) = nI 0 ∧ 0 < 51, (nI 5) = nI 5 ∧ 5 < 8, ((nI 25) + (nI n1)) = nI (25 + n1) ∧ (25 + n1) < 51, (nI 6) = nI 6 ∧ 6 < 8, (nI 7) = nI 7 ∧ 7 < 8]) (by decide +kernel) rfl rfl ⟨⟨rfl, (by omega)⟩, ⟨rfl, (by omega)⟩, ⟨rfl, (by omega)⟩, ⟨(nI_add _ _), (by omega)⟩, ⟨rfl, (by omega)⟩, ⟨rfl, (by omega)⟩, trivial⟩ ?_
  refine G.mem (M' := mrow M 22 (upd (upd (upd (upd (upd (upd (upd (upd (M.1 22) 0 (M.1 7 n2)) 1 (M.1 38 (7 + n1))) 2 (J6_bitCount_0f7a4 (d_heldBy (M.1 38) nt (nI n1)))) 3 (M.1 38 (19 + n1))) 4 (J6_bitCount_0f7a4 (d_lyingAt (M.1 38) nt (M.1 38 (1 + n1))))) 5 (M.1 38 0)) 6 (M.1 38 (25 + n1))) 7 (nI n1))) (by first | rfl | (simp only [mput, mrow_same, mrow_hit, mrow_miss, mrow_sw, idr_eq, ne_eq, Nat.reduceEqDiff, not_false_eq_true, Nat.reduceLT, reduceCtorEq]; done)) ?_
  obtain ⟨k13, hk⟩ := hk
  rcases g14 : l_comesOut (M.1 21) (upd (upd (upd (upd (upd (upd (upd (upd (M.1 22) 0 (M.1 7 n2)) 1 (M.1 38 (7 + n1))) 2 (J6_bitCount_0f7a4 (d_heldBy (M.1 38) nt (nI n1)))) 3 (M.1 38 (19 + n1))) 4 (J6_bitCount_0f7a4 (d_lyingAt (M.1 38) nt (M.1 38 (1 + n1))))) 5 (M.1 38 0)) 6 (M.1 38 (25 + n1))) 7 (nI n1)) (M.1 23) (M.1 24) with ⟨v15, r16⟩
  have t17 : GM z mX3_comesOut (d + 1) [.ref 21] (mrow M 22 (upd (upd (upd (upd (upd (upd (upd (upd (M.1 22) 0 (M.1 7 n2)) 1 (M.1 38 (7 + n1))) 2 (J6_bitCount_0f7a4 (d_heldBy (M.1 38) nt (nI n1)))) 3 (M.1 38 (19 + n1))) 4 (J6_bitCount_0f7a4 (d_lyingAt (M.1 38) nt (M.1 38 (1 + n1))))) 5 (M.1 38 0)) 6 (M.1 38 (25 + n1))) 7 (nI n1))) (fun rs => rs = .inl (some (.int v15), mrow (mrow M 22 (upd (upd (upd (upd (upd (upd (upd (upd (M.1 22) 0 (M.1 7 n2)) 1 (M.1 38 (7 + n1))) 2 (J6_bitCount_0f7a4 (d_heldBy (M.1 38) nt (nI n1)))) 3 (M.1 38 (19 + n1))) 4 (J6_bitCount_0f7a4 (d_lyingAt (M.1 38) nt (M.1 38 (1 + n1))))) 5 (M.1 38 0)) 6 (M.1 38 (25 + n1))) 7 (nI n1))) 24 r16)) := by
    have q9 := c_l_comesOut_21 z d (mrow M 22 (upd (upd (upd (upd (upd (upd (upd (upd (M.1 22) 0 (M.1 7 n2)) 1 (M.1 38 (7 + n1))) 2 (J6_bitCount_0f7a4 (d_heldBy (M.1 38) nt (nI n1)))) 3 (M.1 38 (19 + n1))) 4 (J6_bitCount_0f7a4 (d_lyingAt (M.1 38) nt (M.1 38 (1 + n1))))) 5 (M.1 38 0)) 6 (M.1 38 (25 + n1))) 7 (nI n1))) k13
    try simp only [mput, mrow_same, mrow_hit, mrow_miss, mrow_sw, idr_eq, ne_eq, Nat.reduceEqDiff, not_false_eq_true, Nat.reduceLT, reduceCtorEq, g14] at q9
    exact q9
  refine G.callV (as := []) (rest := []) (a := 21) oX3_comesOut lk_EvenFinders_Days_105 (by decide +kernel) rfl rfl ⟨rfl, rfl⟩ (Nat.le_of_ble_eq_true rfl) rfl ⟨Nat.le_of_ble_eq_true rfl, Nat.le_of_ble_eq_true rfl⟩ t17 (fun v9 N9 h18 => ?_) (fun E9 N9 h18 => by cases h18)
  cases h18
  show G z mX1_dutyOf (d + 2) 0 0 147 [some (.ref 37), some (.int (nI n1)), some (.int (nI n2))] [.int v15] (mrow (mrow M 22 (upd (upd (upd (upd (upd (upd (upd (upd (M.1 22) 0 (M.1 7 n2)) 1 (M.1 38 (7 + n1))) 2 (J6_bitCount_0f7a4 (d_heldBy (M.1 38) nt (nI n1)))) 3 (M.1 38 (19 + n1))) 4 (J6_bitCount_0f7a4 (d_lyingAt (M.1 38) nt (M.1 38 (1 + n1))))) 5 (M.1 38 0)) 6 (M.1 38 (25 + n1))) 7 (nI n1))) 24 r16) Q
  exact G.reti (by decide +kernel) rfl rfl (Nat.le_of_ble_eq_true rfl) (Nat.le_of_ble_eq_true rfl) ((by rw [hQ]; simp only [d_dutyOf, g14, mrow_self]))
theorem d_finds_01 (Rworth Rlaw Rgiven Rcodes Rvalues Rrow : Nat → Int32) (nt : Nat) (n1 : Nat) (n2 : Nat) : (d_finds Rworth Rlaw Rgiven Rcodes Rvalues Rrow nt n1 n2).1 = 0 ∨ (d_finds Rworth Rlaw Rgiven Rcodes Rvalues Rrow nt n1 n2).1 = 1 := by
  unfold d_finds
  repeat' split
  all_goals first | exact Or.inl rfl | exact Or.inr rfl | exact d_mayFind_01 _ _ _
set_option maxHeartbeats 4000000 in
set_option maxRecDepth 3000 in
theorem c_d_finds_37 (z : Zp) (d : Nat) (M : Mem) (n1 : Nat) (n2 : Nat) (nt : Nat) (hnt : nt ≤ 10) (ht : M.1 3 2 = nI nt) (b1 : n1 < 6) (b2 : n2 < 10) (hk : d_finds_ok (M.1 7) (M.1 21) (M.1 22) (M.1 23) (M.1 24) (M.1 38) nt n1 n2) : GM z mX1_finds (d + 3) [.ref 37, .int (nI n1), .int (nI n2)] M (fun rs => rs = .inl (some (.int ((d_finds (M.1 7) (M.1 21) (M.1 22) (M.1 23) (M.1 24) (M.1 38) nt n1 n2).1)), mrow (mrow (mrow M 22 ((d_finds (M.1 7) (M.1 21) (M.1 22) (M.1 23) (M.1 24) (M.1 38) nt n1 n2).2.1)) 24 ((d_finds (M.1 7) (M.1 21) (M.1 22) (M.1 23) (M.1 24) (M.1 38) nt n1 n2).2.2.1)) 38 ((d_finds (M.1 7) (M.1 21) (M.1 22) (M.1 23) (M.1 24) (M.1 38) nt n1 n2).2.2.2))) := by
  simp only [d_finds_ok] at hk
  refine GM.of oX1_finds.1 (Nat.le_of_ble_eq_true rfl) ?_
  show G z mX1_finds (d + 3) 0 0 0 [some (.ref 37), some (.int (nI n1)), some (.int (nI n2))] [] M _
  obtain ⟨Q, hQ⟩ : ∃ Q : Rs → Prop, Q = (fun rs => rs = .inl (some (.int ((d_finds (M.1 7) (M.1 21) (M.1 22) (M.1 23) (M.1 24) (M.1 38) nt n1 n2).1)), mrow (mrow (mrow M 22 ((d_finds (M.1 7) (M.1 21) (M.1 22) (M.1 23) (M.1 24) (M.1 38) nt n1 n2).2.1)) 24 ((d_finds (M.1 7) (M.1 21) (M.1 22) (M.1 23) (M.1 24) (M.1 38) nt n1 n2).2.2.1)) 38 ((d_finds (M.1 7) (M.1 21) (M.1 22) (M.1 23) (M.1 24) (M.1 38) nt n1 n2).2.2.2))) := ⟨_, rfl⟩
  rw [← hQ]
  refine G.sl [(.aload_n 0, 1, 0, 0, 0, 0), (.iload_n 1, 1, 1, 0, 0, 0), (.iload_n 2, 1, 2, 0, 0, 0)] [] (pc2 := 3) (ls2 := [some (.ref 37), some (.int (nI n1)), some (.int (nI n2))]) (st2 := [.int (nI n2), .int (nI n1), .ref 37]) (M2 := M) (Ps := []) (by decide +kernel) rfl rfl trivial ?_
  obtain ⟨k1, hk⟩ := hk
  have t2 : GM z mX1_mayFind (d + 2) [.ref 37, .int (nI n1), .int (nI n2)] M (fun rs => rs = .inl (some (.int (d_mayFind (M.1 38) n1 n2)), M)) := by
    have q9 := c_d_mayFind_37 z (d + 2) M n1 n2 (by omega) (by omega)
    try simp only [mput, mrow_same, mrow_hit, mrow_miss, mrow_sw, idr_eq, ne_eq, Nat.reduceEqDiff, not_false_eq_true, Nat.reduceLT, reduceCtorEq] at q9
    exact q9
  refine G.callV (as := [.int (nI n1), .int (nI n2)]) (rest := []) (a := 37) oX1_mayFind lk_EvenFinders_Days_56 (by decide +kernel) rfl rfl ⟨rfl, rfl⟩ (Nat.le_of_ble_eq_true rfl) rfl ⟨Nat.le_of_ble_eq_true rfl, Nat.le_of_ble_eq_true rfl⟩ t2 (fun v9 N9 h3 => ?_) (fun E9 N9 h3 => by cases h3)
  cases h3
  show G z mX1_finds (d + 3) 0 0 6 [some (.ref 37), some (.int (nI n1)), some (.int (nI n2))] [.int (d_mayFind (M.1 38) n1 n2)] M Q
  refine G.if_ne (off := (5)) (tgt := 11) (by decide +kernel) rfl (fun c4 => ?_) (fun c4 => ?_)
  · skip
    rw [if_neg c4] at hk
    refine G.sl [(.aload_n 0, 1, 0, 0, 0, 0), (.getfield 9, 3, 1, 0, 73, 0), (.bipush 7, 2, 0, 0, 0, nI 7), (.iload_n 1, 1, 1, 0, 0, 0), (.iadd, 1, 0, 0, 0, 0), (.dup2, 1, 0, 0, 0, 0), (.iaload, 1, 0, 0, 0, 0), (.aload_n 0, 1, 0, 0, 0, 0), (.iload_n 1, 1, 1, 0, 0, 0), (.iload_n 2, 1, 2, 0, 0, 0)] [7 + n1] (pc2 := 24) (ls2 := [some (.ref 37), some (.int (nI n1)), some (.int (nI n2))]) (st2 := [.int (nI n2), .int (nI n1), .ref 37, .int (M.1 38 (7 + n1)), .int ((nI 7) + (nI n1)), .ref 38]) (M2 := M) (Ps := [((nI 7) + (nI n1)) = nI (7 + n1) ∧ (7 + n1) < 51]) (by decide +kernel) rfl rfl ⟨⟨(nI_add _ _), (by omega)⟩, trivial⟩ ?_
    obtain ⟨k5, hk⟩ := hk
    rcases g6 : d_dutyOf (M.1 7) (M.1 21) (M.1 22) (M.1 23) (M.1 24) (M.1 38) nt n1 n2 with ⟨v7, r8, r9⟩
    have t10 : GM z mX1_dutyOf (d + 2) [.ref 37, .int (nI n1), .int (nI n2)] M (fun rs => rs = .inl (some (.int v7), mrow (mrow M 22 r8) 24 r9)) := by
      have q9 := c_d_dutyOf_37 z d M n1 n2 nt hnt ht (by omega) (by omega) k5
      try simp only [mput, mrow_same, mrow_hit, mrow_miss, mrow_sw, idr_eq, ne_eq, Nat.reduceEqDiff, not_false_eq_true, Nat.reduceLT, reduceCtorEq, g6] at q9
      exact q9
    refine G.callV (as := [.int (nI n1), .int (nI n2)]) (rest := [.int (M.1 38 (7 + n1)), .int ((nI 7) + (nI n1)), .ref 38]) (a := 37) oX1_dutyOf lk_EvenFinders_Days_60 (by decide +kernel) rfl rfl ⟨rfl, rfl⟩ (Nat.le_of_ble_eq_true rfl) rfl ⟨Nat.le_of_ble_eq_true rfl, Nat.le_of_ble_eq_true rfl⟩ t10 (fun v9 N9 h11 => ?_) (fun E9 N9 h11 => by cases h11)
    cases h11
    show G z mX1_finds (d + 3) 0 0 27 [some (.ref 37), some (.int (nI n1)), some (.int (nI n2))] [.int v7, .int (M.1 38 (7 + n1)), .int ((nI 7) + (nI n1)), .ref 38] (mrow (mrow M 22 r8) 24 r9) Q
    refine G.sl [(.iadd, 1, 0, 0, 0, 0), (.iastore, 1, 0, 0, 0, 0), (.aload_n 0, 1, 0, 0, 0, 0), (.getfield 9, 3, 1, 0, 73, 0), (.bipush 19, 2, 0, 0, 0, nI 19), (.iload_n 1, 1, 1, 0, 0, 0), (.iadd, 1, 0, 0, 0, 0), (.dup2, 1, 0, 0, 0, 0), (.iaload, 1, 0, 0, 0, 0), (.iconst 1, 1, 0, 0, 0, nI 1), (.iadd, 1, 0, 0, 0, 0), (.iastore, 1, 0, 0, 0, 0), (.aload_n 0, 1, 0, 0, 0, 0), (.getfield 9, 3, 1, 0, 73, 0), (.bipush 31, 2, 0, 0, 0, nI 31), (.iload_n 2, 1, 2, 0, 0, 0), (.iadd, 1, 0, 0, 0, 0), (.iconst (-1), 1, 0, 0, 0, (-1)), (.iastore, 1, 0, 0, 0, 0), (.aload_n 0, 1, 0, 0, 0, 0), (.getfield 9, 3, 1, 0, 73, 0), (.bipush 41, 2, 0, 0, 0, nI 41), (.iload_n 2, 1, 2, 0, 0, 0), (.iadd, 1, 0, 0, 0, 0), (.iload_n 1, 1, 1, 0, 0, 0), (.iastore, 1, 0, 0, 0, 0), (.iconst 1, 1, 0, 0, 0, nI 1)] [7 + n1, 19 + n1, 19 + n1, 31 + n2, 41 + n2] (pc2 := 63) (ls2 := [some (.ref 37), some (.int (nI n1)), some (.int (nI n2))]) (st2 := [.int (nI 1)]) (M2 := mput (mput (mput (mput (mrow (mrow M 22 r8) 24 r9) 38 (7 + n1) ((M.1 38 (7 + n1)) + v7)) 38 (19 + n1) (((upd (M.1 38) (7 + n1) ((M.1 38 (7 + n1)) + v7)) (19 + n1)) + (nI 1))) 38 (31 + n2) ((-1))) 38 (41 + n2) (nI n1)) (Ps := [((nI 7) + (nI n1)) = nI (7 + n1) ∧ (7 + n1) < 51, ((nI 19) + (nI n1)) = nI (19 + n1) ∧ (19 + n1) < 51, ((nI 19) + (nI n1)) = nI (19 + n1) ∧ (19 + n1) < 51, ((nI 31) + (nI n2)) = nI (31 + n2) ∧ (31 + n2) < 51, ((nI 41) + (nI n2)) = nI (41 + n2) ∧ (41 + n2) < 51]) (by decide +kernel) rfl rfl ⟨⟨(nI_add _ _), (by omega)⟩, ⟨(nI_add _ _), (by omega)⟩, ⟨(nI_add _ _), (by omega)⟩, ⟨(nI_add _ _), (by omega)⟩, ⟨(nI_add _ _), (by omega)⟩, trivial⟩ ?_
    refine G.mem (M' := mrow (mrow (mrow M 22 r8) 24 r9) 38 (upd (upd (upd (upd (M.1 38) (7 + n1) ((M.1 38 (7 + n1)) + v7)) (19 + n1) (((upd (M.1 38) (7 + n1) ((M.1 38 (7 + n1)) + v7)) (19 + n1)) + (nI 1))) (31 + n2) ((-1))) (41 + n2) (nI n1))) (by first | rfl | (simp only [mput, mrow_same, mrow_hit, mrow_miss, mrow_sw, idr_eq, ne_eq, Nat.reduceEqDiff, not_false_eq_true, Nat.reduceLT, reduceCtorEq]; done)) ?_
    exact G.reti (by decide +kernel) rfl rfl (Nat.le_of_ble_eq_true rfl) (Nat.le_of_ble_eq_true rfl) ((by rw [hQ]; simp only [d_finds, if_neg c4, g6, mrow_self]))
  · skip
    rw [if_pos c4] at hk
    refine G.sl [(.iconst 0, 1, 0, 0, 0, nI 0)] [] (pc2 := 10) (ls2 := [some (.ref 37), some (.int (nI n1)), some (.int (nI n2))]) (st2 := [.int (nI 0)]) (M2 := M) (Ps := []) (by decide +kernel) rfl rfl trivial ?_
    refine G.mem (M' := mrow (mrow (mrow M 22 (M.1 22)) 24 (M.1 24)) 38 (M.1 38)) (((((mrow_id (N := M) (c := 22) (f := M.1 22) (by first | rfl | (simp only [mput, mrow_same, mrow_hit, mrow_miss, mrow_sw, idr_eq, ne_eq, Nat.reduceEqDiff, not_false_eq_true, Nat.reduceLT, reduceCtorEq]; done))).symm).trans (mrow_id (N := mrow M 22 (M.1 22)) (c := 24) (f := M.1 24) (by first | rfl | (simp only [mput, mrow_same, mrow_hit, mrow_miss, mrow_sw, idr_eq, ne_eq, Nat.reduceEqDiff, not_false_eq_true, Nat.reduceLT, reduceCtorEq]; done))).symm).trans (mrow_id (N := mrow (mrow M 22 (M.1 22)) 24 (M.1 24)) (c := 38) (f := M.1 38) (by first | rfl | (simp only [mput, mrow_same, mrow_hit, mrow_miss, mrow_sw, idr_eq, ne_eq, Nat.reduceEqDiff, not_false_eq_true, Nat.reduceLT, reduceCtorEq]; done))).symm).trans (by first | rfl | (simp only [mput, mrow_same, mrow_hit, mrow_miss, mrow_sw, idr_eq, ne_eq, Nat.reduceEqDiff, not_false_eq_true, Nat.reduceLT, reduceCtorEq]; done))) ?_
    exact G.reti (by decide +kernel) rfl rfl (Nat.le_of_ble_eq_true rfl) (Nat.le_of_ble_eq_true rfl) ((by rw [hQ]; simp only [d_finds, if_pos c4, mrow_self]))
set_option maxHeartbeats 4000000 in
set_option maxRecDepth 3000 in
theorem c_d_mayFind_40 (z : Zp) (d : Nat) (M : Mem) (n1 : Nat) (n2 : Nat) (b1 : n1 < 6) (b2 : n2 < 10) : GM z mX1_mayFind (d) [.ref 40, .int (nI n1), .int (nI n2)] M (fun rs => rs = .inl (some (.int (d_mayFind (M.1 41) n1 n2)), M)) := by
  refine GM.of oX1_mayFind.1 (Nat.le_of_ble_eq_true rfl) ?_
  show G z mX1_mayFind (d) 0 0 0 [some (.ref 40), some (.int (nI n1)), some (.int (nI n2))] [] M _
  obtain ⟨Q, hQ⟩ : ∃ Q : Rs → Prop, Q = (fun rs => rs = .inl (some (.int (d_mayFind (M.1 41) n1 n2)), M)) := ⟨_, rfl⟩
  rw [← hQ]
  refine G.sl [(.aload_n 0, 1, 0, 0, 0, 0), (.getfield 9, 3, 1, 0, 73, 0), (.bipush 31, 2, 0, 0, 0, nI 31), (.iload_n 2, 1, 2, 0, 0, 0), (.iadd, 1, 0, 0, 0, 0), (.iaload, 1, 0, 0, 0, 0), (.aload_n 0, 1, 0, 0, 0, 0), (.getfield 9, 3, 1, 0, 73, 0), (.iconst 1, 1, 0, 0, 0, nI 1), (.iload_n 1, 1, 1, 0, 0, 0), (.iadd, 1, 0, 0, 0, 0), (.iaload, 1, 0, 0, 0, 0)] [31 + n2, 1 + n1] (pc2 := 17) (ls2 := [some (.ref 40), some (.int (nI n1)), some (.int (nI n2))]) (st2 := [.int (M.1 41 (1 + n1)), .int (M.1 41 (31 + n2))]) (M2 := M) (Ps := [((nI 31) + (nI n2)) = nI (31 + n2) ∧ (31 + n2) < 51, ((nI 1) + (nI n1)) = nI (1 + n1) ∧ (1 + n1) < 51]) (by decide +kernel) rfl rfl ⟨⟨(nI_add _ _), (by omega)⟩, ⟨(nI_add _ _), (by omega)⟩, trivial⟩ ?_
  refine G.ic_ne (off := (19)) (tgt := 36) (by decide +kernel) rfl (fun c1 => ?_) (fun c1 => ?_)
  · skip
    refine G.sl [(.iconst 0, 1, 0, 0, 0, nI 0)] [] (pc2 := 37) (ls2 := [some (.ref 40), some (.int (nI n1)), some (.int (nI n2))]) (st2 := [.int (nI 0)]) (M2 := M) (Ps := []) (by decide +kernel) rfl rfl trivial ?_
    exact G.reti (by decide +kernel) rfl rfl (Nat.le_of_ble_eq_true rfl) (Nat.le_of_ble_eq_true rfl) ((by rw [hQ]; simp only [d_mayFind, if_neg c1, mrow_self]))
  · skip
    refine G.sl [(.aload_n 0, 1, 0, 0, 0, 0), (.getfield 9, 3, 1, 0, 73, 0), (.bipush 7, 2, 0, 0, 0, nI 7), (.iload_n 1, 1, 1, 0, 0, 0), (.iadd, 1, 0, 0, 0, 0), (.iaload, 1, 0, 0, 0, 0)] [7 + n1] (pc2 := 29) (ls2 := [some (.ref 40), some (.int (nI n1)), some (.int (nI n2))]) (st2 := [.int (M.1 41 (7 + n1))]) (M2 := M) (Ps := [((nI 7) + (nI n1)) = nI (7 + n1) ∧ (7 + n1) < 51]) (by decide +kernel) rfl rfl ⟨⟨(nI_add _ _), (by omega)⟩, trivial⟩ ?_
    refine G.if_gt (off := (7)) (tgt := 36) (by decide +kernel) rfl (fun c2 => ?_) (fun c2 => ?_)
    · skip
      refine G.sl [(.iconst 0, 1, 0, 0, 0, nI 0)] [] (pc2 := 37) (ls2 := [some (.ref 40), some (.int (nI n1)), some (.int (nI n2))]) (st2 := [.int (nI 0)]) (M2 := M) (Ps := []) (by decide +kernel) rfl rfl trivial ?_
      exact G.reti (by decide +kernel) rfl rfl (Nat.le_of_ble_eq_true rfl) (Nat.le_of_ble_eq_true rfl) ((by rw [hQ]; simp only [d_mayFind, if_pos c1, if_pos c2, mrow_self]))
    · skip
      refine G.sl [(.iconst 1, 1, 0, 0, 0, nI 1), (.goto 4, 3, 37, 0, 0, 0)] [] (pc2 := 37) (ls2 := [some (.ref 40), some (.int (nI n1)), some (.int (nI n2))]) (st2 := [.int (nI 1)]) (M2 := M) (Ps := []) (by decide +kernel) rfl rfl trivial ?_
      exact G.reti (by decide +kernel) rfl rfl (Nat.le_of_ble_eq_true rfl) (Nat.le_of_ble_eq_true rfl) ((by rw [hQ]; simp only [d_mayFind, if_pos c1, if_neg c2, mrow_self]))
set_option maxHeartbeats 4000000 in
set_option maxRecDepth 3000 in
theorem lp_d_heldBy_40_4 (z : Zp) (d : Nat) (M : Mem) (Q : Rs → Prop) (x1 : Int32) (nt : Nat) (hnt : nt ≤ 10) (ht : M.1 3 2 = nI nt) (hX : G z mX1_heldBy (d) 0 0 40 [none, none, some (.int (d_heldBy_4 (M.1 41) x1 nt)), none] [] M Q) : G z mX1_heldBy (d) 0 0 4 [some (.ref 40), some (.int x1), some (.int (nI 0)), some (.int (nI 0))] [] M Q := by
  refine down (n := nt) (P := fun i3 => G z mX1_heldBy (d) 0 0 4 [some (.ref 40), some (.int x1), some (.int (d_heldBy_4 (M.1 41) x1 i3)), some (.int (nI i3))] [] M Q) ?_ ?_ 0 (Nat.zero_le _)
  · skip
    refine G.sl [(.iload_n 3, 1, 3, 0, 0, 0), (.aload_n 0, 1, 0, 0, 0, 0), (.getfield 18, 3, 1, 2, 79, 0), (.getfield 86, 3, 6, 2, 28, 0)] [] (pc2 := 12) (ls2 := [some (.ref 40), some (.int x1), some (.int (d_heldBy_4 (M.1 41) x1 nt)), some (.int (nI nt))]) (st2 := [.int (M.1 3 2), .int (nI nt)]) (M2 := M) (Ps := []) (by decide +kernel) rfl rfl trivial ?_
    rw [ht]
    refine G.ic_ge (off := (28)) (tgt := 40) (by decide +kernel) rfl (fun _ => ?_) (fun h9 => absurd (nI_le (by omega) (by omega)) h9)
    refine G.loc (ls2 := [none, none, some (.int (d_heldBy_4 (M.1 41) x1 nt)), none]) (by simp [subL]) ?_
    exact hX
  · skip
    intro i3 hi ih
    show G z mX1_heldBy (d) 0 0 4 [some (.ref 40), some (.int x1), some (.int (d_heldBy_4 (M.1 41) x1 i3)), some (.int (nI i3))] [] M Q
    refine G.sl [(.iload_n 3, 1, 3, 0, 0, 0), (.aload_n 0, 1, 0, 0, 0, 0), (.getfield 18, 3, 1, 2, 79, 0), (.getfield 86, 3, 6, 2, 28, 0)] [] (pc2 := 12) (ls2 := [some (.ref 40), some (.int x1), some (.int (d_heldBy_4 (M.1 41) x1 i3)), some (.int (nI i3))]) (st2 := [.int (M.1 3 2), .int (nI i3)]) (M2 := M) (Ps := []) (by decide +kernel) rfl rfl trivial ?_
    rw [ht]
    refine G.ic_ge (off := (28)) (tgt := 40) (by decide +kernel) rfl (fun h9 => absurd h9 (nI_ge (by omega) (by omega))) (fun _ => ?_)
    refine G.sl [(.aload_n 0, 1, 0, 0, 0, 0), (.getfield 9, 3, 1, 0, 73, 0), (.bipush 41, 2, 0, 0, 0, nI 41), (.iload_n 3, 1, 3, 0, 0, 0), (.iadd, 1, 0, 0, 0, 0), (.iaload, 1, 0, 0, 0, 0), (.iload_n 1, 1, 1, 0, 0, 0)] [41 + i3] (pc2 := 25) (ls2 := [some (.ref 40), some (.int x1), some (.int (d_heldBy_4 (M.1 41) x1 i3)), some (.int (nI i3))]) (st2 := [.int x1, .int (M.1 41 (41 + i3))]) (M2 := M) (Ps := [((nI 41) + (nI i3)) = nI (41 + i3) ∧ (41 + i3) < 51]) (by decide +kernel) rfl rfl ⟨⟨(nI_add _ _), (by omega)⟩, trivial⟩ ?_
    refine G.ic_ne (off := (9)) (tgt := 34) (by decide +kernel) rfl (fun c1 => ?_) (fun c1 => ?_)
    · skip
      refine G.sl [(.iinc 3 1, 3, 3, 0, 0, nI 1), (.goto (-33), 3, 4, 0, 0, 0)] [] (pc2 := 4) (ls2 := [some (.ref 40), some (.int x1), some (.int (d_heldBy_4 (M.1 41) x1 i3)), some (.int ((nI i3) + nI 1))]) (st2 := []) (M2 := M) (Ps := []) (by decide +kernel) rfl rfl trivial ?_
      rw [nI_add i3 1]
      simp only [d_heldBy_4, if_neg c1] at ih
      exact ih
    · skip
      refine G.sl [(.iload_n 2, 1, 2, 0, 0, 0), (.iconst 1, 1, 0, 0, 0, nI 1), (.iload_n 3, 1, 3, 0, 0, 0), (.ishl, 1, 0, 0, 0, 0), (.ior, 1, 0, 0, 0, 0), (.istore_n 2, 1, 2, 0, 0, 0), (.iinc 3 1, 3, 3, 0, 0, nI 1), (.goto (-33), 3, 4, 0, 0, 0)] [] (pc2 := 4) (ls2 := [some (.ref 40), some (.int x1), some (.int ((d_heldBy_4 (M.1 41) x1 i3) ||| ((nI 1) <<< ((nI i3) &&& 31)))), some (.int ((nI i3) + nI 1))]) (st2 := []) (M2 := M) (Ps := []) (by decide +kernel) rfl rfl trivial ?_
      rw [nI_add i3 1]
      simp only [d_heldBy_4, if_pos c1] at ih
      exact ih
set_option maxHeartbeats 4000000 in
set_option maxRecDepth 3000 in
theorem c_d_heldBy_40 (z : Zp) (d : Nat) (M : Mem) (x1 : Int32) (nt : Nat) (hnt : nt ≤ 10) (ht : M.1 3 2 = nI nt) : GM z mX1_heldBy (d) [.ref 40, .int x1] M (fun rs => rs = .inl (some (.int (d_heldBy (M.1 41) nt x1)), M)) := by
  refine GM.of oX1_heldBy.1 (Nat.le_of_ble_eq_true rfl) ?_
  show G z mX1_heldBy (d) 0 0 0 [some (.ref 40), some (.int x1), none, none] [] M _
  obtain ⟨Q, hQ⟩ : ∃ Q : Rs → Prop, Q = (fun rs => rs = .inl (some (.int (d_heldBy (M.1 41) nt x1)), M)) := ⟨_, rfl⟩
  rw [← hQ]
  refine G.sl [(.iconst 0, 1, 0, 0, 0, nI 0), (.istore_n 2, 1, 2, 0, 0, 0), (.iconst 0, 1, 0, 0, 0, nI 0), (.istore_n 3, 1, 3, 0, 0, 0)] [] (pc2 := 4) (ls2 := [some (.ref 40), some (.int x1), some (.int (nI 0)), some (.int (nI 0))]) (st2 := []) (M2 := M) (Ps := []) (by decide +kernel) rfl rfl trivial ?_
  refine lp_d_heldBy_40_4 z d M Q x1 nt hnt ht ?_
  show G z mX1_heldBy (d) 0 0 40 [none, none, some (.int (d_heldBy_4 (M.1 41) x1 nt)), none] [] M Q
  refine G.sl [(.iload_n 2, 1, 2, 0, 0, 0)] [] (pc2 := 41) (ls2 := [none, none, some (.int (d_heldBy_4 (M.1 41) x1 nt)), none]) (st2 := [.int (d_heldBy_4 (M.1 41) x1 nt)]) (M2 := M) (Ps := []) (by decide +kernel) rfl rfl trivial ?_
  exact G.reti (by decide +kernel) rfl rfl (Nat.le_of_ble_eq_true rfl) (Nat.le_of_ble_eq_true rfl) ((by rw [hQ]; simp only [d_heldBy, mrow_self]))
set_option maxHeartbeats 4000000 in
set_option maxRecDepth 3000 in
theorem lp_d_lyingAt_40_4 (z : Zp) (d : Nat) (M : Mem) (Q : Rs → Prop) (x1 : Int32) (nt : Nat) (hnt : nt ≤ 10) (ht : M.1 3 2 = nI nt) (hX : G z mX1_lyingAt (d) 0 0 40 [none, none, some (.int (d_lyingAt_4 (M.1 41) x1 nt)), none] [] M Q) : G z mX1_lyingAt (d) 0 0 4 [some (.ref 40), some (.int x1), some (.int (nI 0)), some (.int (nI 0))] [] M Q := by
  refine down (n := nt) (P := fun i3 => G z mX1_lyingAt (d) 0 0 4 [some (.ref 40), some (.int x1), some (.int (d_lyingAt_4 (M.1 41) x1 i3)), some (.int (nI i3))] [] M Q) ?_ ?_ 0 (Nat.zero_le _)
  · skip
    refine G.sl [(.iload_n 3, 1, 3, 0, 0, 0), (.aload_n 0, 1, 0, 0, 0, 0), (.getfield 18, 3, 1, 2, 79, 0), (.getfield 86, 3, 6, 2, 28, 0)] [] (pc2 := 12) (ls2 := [some (.ref 40), some (.int x1), some (.int (d_lyingAt_4 (M.1 41) x1 nt)), some (.int (nI nt))]) (st2 := [.int (M.1 3 2), .int (nI nt)]) (M2 := M) (Ps := []) (by decide +kernel) rfl rfl trivial ?_
    rw [ht]
    refine G.ic_ge (off := (28)) (tgt := 40) (by decide +kernel) rfl (fun _ => ?_) (fun h9 => absurd (nI_le (by omega) (by omega)) h9)
    refine G.loc (ls2 := [none, none, some (.int (d_lyingAt_4 (M.1 41) x1 nt)), none]) (by simp [subL]) ?_
    exact hX
  · skip
    intro i3 hi ih
    show G z mX1_lyingAt (d) 0 0 4 [some (.ref 40), some (.int x1), some (.int (d_lyingAt_4 (M.1 41) x1 i3)), some (.int (nI i3))] [] M Q
    refine G.sl [(.iload_n 3, 1, 3, 0, 0, 0), (.aload_n 0, 1, 0, 0, 0, 0), (.getfield 18, 3, 1, 2, 79, 0), (.getfield 86, 3, 6, 2, 28, 0)] [] (pc2 := 12) (ls2 := [some (.ref 40), some (.int x1), some (.int (d_lyingAt_4 (M.1 41) x1 i3)), some (.int (nI i3))]) (st2 := [.int (M.1 3 2), .int (nI i3)]) (M2 := M) (Ps := []) (by decide +kernel) rfl rfl trivial ?_
    rw [ht]
    refine G.ic_ge (off := (28)) (tgt := 40) (by decide +kernel) rfl (fun h9 => absurd h9 (nI_ge (by omega) (by omega))) (fun _ => ?_)
    refine G.sl [(.aload_n 0, 1, 0, 0, 0, 0), (.getfield 9, 3, 1, 0, 73, 0), (.bipush 31, 2, 0, 0, 0, nI 31), (.iload_n 3, 1, 3, 0, 0, 0), (.iadd, 1, 0, 0, 0, 0), (.iaload, 1, 0, 0, 0, 0), (.iload_n 1, 1, 1, 0, 0, 0)] [31 + i3] (pc2 := 25) (ls2 := [some (.ref 40), some (.int x1), some (.int (d_lyingAt_4 (M.1 41) x1 i3)), some (.int (nI i3))]) (st2 := [.int x1, .int (M.1 41 (31 + i3))]) (M2 := M) (Ps := [((nI 31) + (nI i3)) = nI (31 + i3) ∧ (31 + i3) < 51]) (by decide +kernel) rfl rfl ⟨⟨(nI_add _ _), (by omega)⟩, trivial⟩ ?_
    refine G.ic_ne (off := (9)) (tgt := 34) (by decide +kernel) rfl (fun c1 => ?_) (fun c1 => ?_)
    · skip
      refine G.sl [(.iinc 3 1, 3, 3, 0, 0, nI 1), (.goto (-33), 3, 4, 0, 0, 0)] [] (pc2 := 4) (ls2 := [some (.ref 40), some (.int x1), some (.int (d_lyingAt_4 (M.1 41) x1 i3)), some (.int ((nI i3) + nI 1))]) (st2 := []) (M2 := M) (Ps := []) (by decide +kernel) rfl rfl trivial ?_
      rw [nI_add i3 1]
      simp only [d_lyingAt_4, if_neg c1] at ih
      exact ih
    · skip
      refine G.sl [(.iload_n 2, 1, 2, 0, 0, 0), (.iconst 1, 1, 0, 0, 0, nI 1), (.iload_n 3, 1, 3, 0, 0, 0), (.ishl, 1, 0, 0, 0, 0), (.ior, 1, 0, 0, 0, 0), (.istore_n 2, 1, 2, 0, 0, 0), (.iinc 3 1, 3, 3, 0, 0, nI 1), (.goto (-33), 3, 4, 0, 0, 0)] [] (pc2 := 4) (ls2 := [some (.ref 40), some (.int x1), some (.int ((d_lyingAt_4 (M.1 41) x1 i3) ||| ((nI 1) <<< ((nI i3) &&& 31)))), some (.int ((nI i3) + nI 1))]) (st2 := []) (M2 := M) (Ps := []) (by decide +kernel) rfl rfl trivial ?_
      rw [nI_add i3 1]
      simp only [d_lyingAt_4, if_pos c1] at ih
      exact ih
set_option maxHeartbeats 4000000 in
set_option maxRecDepth 3000 in
theorem c_d_lyingAt_40 (z : Zp) (d : Nat) (M : Mem) (x1 : Int32) (nt : Nat) (hnt : nt ≤ 10) (ht : M.1 3 2 = nI nt) : GM z mX1_lyingAt (d) [.ref 40, .int x1] M (fun rs => rs = .inl (some (.int (d_lyingAt (M.1 41) nt x1)), M)) := by
  refine GM.of oX1_lyingAt.1 (Nat.le_of_ble_eq_true rfl) ?_
  show G z mX1_lyingAt (d) 0 0 0 [some (.ref 40), some (.int x1), none, none] [] M _
  obtain ⟨Q, hQ⟩ : ∃ Q : Rs → Prop, Q = (fun rs => rs = .inl (some (.int (d_lyingAt (M.1 41) nt x1)), M)) := ⟨_, rfl⟩
  rw [← hQ]
  refine G.sl [(.iconst 0, 1, 0, 0, 0, nI 0), (.istore_n 2, 1, 2, 0, 0, 0), (.iconst 0, 1, 0, 0, 0, nI 0), (.istore_n 3, 1, 3, 0, 0, 0)] [] (pc2 := 4) (ls2 := [some (.ref 40), some (.int x1), some (.int (nI 0)), some (.int (nI 0))]) (st2 := []) (M2 := M) (Ps := []) (by decide +kernel) rfl rfl trivial ?_
  refine lp_d_lyingAt_40_4 z d M Q x1 nt hnt ht ?_
  show G z mX1_lyingAt (d) 0 0 40 [none, none, some (.int (d_lyingAt_4 (M.1 41) x1 nt)), none] [] M Q
  refine G.sl [(.iload_n 2, 1, 2, 0, 0, 0)] [] (pc2 := 41) (ls2 := [none, none, some (.int (d_lyingAt_4 (M.1 41) x1 nt)), none]) (st2 := [.int (d_lyingAt_4 (M.1 41) x1 nt)]) (M2 := M) (Ps := []) (by decide +kernel) rfl rfl trivial ?_
  exact G.reti (by decide +kernel) rfl rfl (Nat.le_of_ble_eq_true rfl) (Nat.le_of_ble_eq_true rfl) ((by rw [hQ]; simp only [d_lyingAt, mrow_self]))
set_option maxHeartbeats 4000000 in
set_option maxRecDepth 3000 in
theorem c_d_dutyOf_40 (z : Zp) (d : Nat) (M : Mem) (n1 : Nat) (n2 : Nat) (nt : Nat) (hnt : nt ≤ 10) (ht : M.1 3 2 = nI nt) (b1 : n1 < 6) (b2 : n2 < 10) (hk : d_dutyOf_ok (M.1 7) (M.1 21) (M.1 22) (M.1 23) (M.1 24) (M.1 41) nt n1 n2) : GM z mX1_dutyOf (d + 2) [.ref 40, .int (nI n1), .int (nI n2)] M (fun rs => rs = .inl (some (.int ((d_dutyOf (M.1 7) (M.1 21) (M.1 22) (M.1 23) (M.1 24) (M.1 41) nt n1 n2).1)), mrow (mrow M 22 ((d_dutyOf (M.1 7) (M.1 21) (M.1 22) (M.1 23) (M.1 24) (M.1 41) nt n1 n2).2.1)) 24 ((d_dutyOf (M.1 7) (M.1 21) (M.1 22) (M.1 23) (M.1 24) (M.1 41) nt n1 n2).2.2))) := by
  simp only [d_dutyOf_ok] at hk
  refine GM.of oX1_dutyOf.1 (Nat.le_of_ble_eq_true rfl) ?_
  show G z mX1_dutyOf (d + 2) 0 0 0 [some (.ref 40), some (.int (nI n1)), some (.int (nI n2))] [] M _
  obtain ⟨Q, hQ⟩ : ∃ Q : Rs → Prop, Q = (fun rs => rs = .inl (some (.int ((d_dutyOf (M.1 7) (M.1 21) (M.1 22) (M.1 23) (M.1 24) (M.1 41) nt n1 n2).1)), mrow (mrow M 22 ((d_dutyOf (M.1 7) (M.1 21) (M.1 22) (M.1 23) (M.1 24) (M.1 41) nt n1 n2).2.1)) 24 ((d_dutyOf (M.1 7) (M.1 21) (M.1 22) (M.1 23) (M.1 24) (M.1 41) nt n1 n2).2.2))) := ⟨_, rfl⟩
  rw [← hQ]
  refine G.sl [(.aload_n 0, 1, 0, 0, 0, 0), (.getfield 22, 3, 1, 3, 80, 0), (.getfield 89, 3, 3, 0, 54, 0), (.iconst 0, 1, 0, 0, 0, nI 0), (.aload_n 0, 1, 0, 0, 0, 0), (.getfield 18, 3, 1, 2, 79, 0), (.getfield 63, 3, 6, 7, 44, 0), (.iload_n 2, 1, 2, 0, 0, 0), (.iaload, 1, 0, 0, 0, 0), (.iastore, 1, 0, 0, 0, 0), (.aload_n 0, 1, 0, 0, 0, 0), (.getfield 22, 3, 1, 3, 80, 0), (.getfield 89, 3, 3, 0, 54, 0), (.iconst 1, 1, 0, 0, 0, nI 1), (.aload_n 0, 1, 0, 0, 0, 0), (.getfield 9, 3, 1, 0, 73, 0), (.bipush 7, 2, 0, 0, 0, nI 7), (.iload_n 1, 1, 1, 0, 0, 0), (.iadd, 1, 0, 0, 0, 0), (.iaload, 1, 0, 0, 0, 0), (.iastore, 1, 0, 0, 0, 0), (.aload_n 0, 1, 0, 0, 0, 0), (.getfield 22, 3, 1, 3, 80, 0), (.getfield 89, 3, 3, 0, 54, 0), (.iconst 2, 1, 0, 0, 0, nI 2), (.aload_n 0, 1, 0, 0, 0, 0), (.iload_n 1, 1, 1, 0, 0, 0)] [n2, 0, 7 + n1, 1] (pc2 := 46) (ls2 := [some (.ref 40), some (.int (nI n1)), some (.int (nI n2))]) (st2 := [.int (nI n1), .ref 40, .int (nI 2), .ref 22]) (M2 := mput (mput M 22 0 (M.1 7 n2)) 22 1 (M.1 41 (7 + n1))) (Ps := [(nI n2) = nI n2 ∧ n2 < 10, (nI 0) = nI 0 ∧ 0 < 8, ((nI 7) + (nI n1)) = nI (7 + n1) ∧ (7 + n1) < 51, (nI 1) = nI 1 ∧ 1 < 8]) (by decide +kernel) rfl rfl ⟨⟨rfl, (by omega)⟩, ⟨rfl, (by omega)⟩, ⟨(nI_add _ _), (by omega)⟩, ⟨rfl, (by omega)⟩, trivial⟩ ?_
  refine G.mem (M' := mrow M 22 (upd (upd (M.1 22) 0 (M.1 7 n2)) 1 (M.1 41 (7 + n1)))) (by first | rfl | (simp only [mput, mrow_same, mrow_hit, mrow_miss, mrow_sw, idr_eq, ne_eq, Nat.reduceEqDiff, not_false_eq_true, Nat.reduceLT, reduceCtorEq]; done)) ?_
  obtain ⟨k1, hk⟩ := hk
  have t2 : GM z mX1_heldBy (d + 1) [.ref 40, .int (nI n1)] (mrow M 22 (upd (upd (M.1 22) 0 (M.1 7 n2)) 1 (M.1 41 (7 + n1)))) (fun rs => rs = .inl (some (.int (d_heldBy (M.1 41) nt (nI n1))), mrow M 22 (upd (upd (M.1 22) 0 (M.1 7 n2)) 1 (M.1 41 (7 + n1))))) := by
    have q9 := c_d_heldBy_40 z (d + 1) (mrow M 22 (upd (upd (M.1 22) 0 (M.1 7 n2)) 1 (M.1 41 (7 + n1)))) (nI n1) nt hnt ht
    try simp only [mput, mrow_same, mrow_hit, mrow_miss, mrow_sw, idr_eq, ne_eq, Nat.reduceEqDiff, not_false_eq_true, Nat.reduceLT, reduceCtorEq] at q9
    exact q9
  refine G.callV (as := [.int (nI n1)]) (rest := [.int (nI 2), .ref 22]) (a := 40) oX1_heldBy lk_EvenFinders_Days_94 (by decide +kernel) rfl rfl ⟨rfl, rfl⟩ (Nat.le_of_ble_eq_true rfl) rfl ⟨Nat.le_of_ble_eq_true rfl, Nat.le_of_ble_eq_true rfl⟩ t2 (fun v9 N9 h3 => ?_) (fun E9 N9 h3 => by cases h3)
  cases h3
  show G z mX1_dutyOf (d + 2) 0 0 49 [some (.ref 40), some (.int (nI n1)), some (.int (nI n2))] [.int (d_heldBy (M.1 41) nt (nI n1)), .int (nI 2), .ref 22] (mrow M 22 (upd (upd (M.1 22) 0 (M.1 7 n2)) 1 (M.1 41 (7 + n1)))) Q
  obtain ⟨k4, hk⟩ := hk
  have t5 : GM z mJ6_bitCount_0f7a4 (d + 1) [.int (d_heldBy (M.1 41) nt (nI n1))] (mrow M 22 (upd (upd (M.1 22) 0 (M.1 7 n2)) 1 (M.1 41 (7 + n1)))) (fun rs => rs = .inl (some (.int (J6_bitCount_0f7a4 (d_heldBy (M.1 41) nt (nI n1)))), mrow M 22 (upd (upd (M.1 22) 0 (M.1 7 n2)) 1 (M.1 41 (7 + n1))))) := by
    have q9 := c_J6_bitCount_0f7a4 z (d + 1) (mrow M 22 (upd (upd (M.1 22) 0 (M.1 7 n2)) 1 (M.1 41 (7 + n1)))) (d_heldBy (M.1 41) nt (nI n1))
    try simp only [mput, mrow_same, mrow_hit, mrow_miss, mrow_sw, idr_eq, ne_eq, Nat.reduceEqDiff, not_false_eq_true, Nat.reduceLT, reduceCtorEq] at q9
    exact q9
  refine G.callS (as := [.int (d_heldBy (M.1 41) nt (nI n1))]) (rest := [.int (nI 2), .ref 22]) oJ6_bitCount_0f7a4 lk_EvenFinders_Days_97 (by decide +kernel) rfl (Nat.le_of_ble_eq_true rfl) rfl ⟨Nat.le_of_ble_eq_true rfl, Nat.le_of_ble_eq_true rfl⟩ t5 (fun v9 N9 h6 => ?_) (fun E9 N9 h6 => by cases h6)
  cases h6
  show G z mX1_dutyOf (d + 2) 0 0 52 [some (.ref 40), some (.int (nI n1)), some (.int (nI n2))] [.int (J6_bitCount_0f7a4 (d_heldBy (M.1 41) nt (nI n1))), .int (nI 2), .ref 22] (mrow M 22 (upd (upd (M.1 22) 0 (M.1 7 n2)) 1 (M.1 41 (7 + n1)))) Q
  refine G.sl [(.iastore, 1, 0, 0, 0, 0), (.aload_n 0, 1, 0, 0, 0, 0), (.getfield 22, 3, 1, 3, 80, 0), (.getfield 89, 3, 3, 0, 54, 0), (.iconst 3, 1, 0, 0, 0, nI 3), (.aload_n 0, 1, 0, 0, 0, 0), (.getfield 9, 3, 1, 0, 73, 0), (.bipush 19, 2, 0, 0, 0, nI 19), (.iload_n 1, 1, 1, 0, 0, 0), (.iadd, 1, 0, 0, 0, 0), (.iaload, 1, 0, 0, 0, 0), (.iastore, 1, 0, 0, 0, 0), (.aload_n 0, 1, 0, 0, 0, 0), (.getfield 22, 3, 1, 3, 80, 0), (.getfield 89, 3, 3, 0, 54, 0), (.iconst 4, 1, 0, 0, 0, nI 4), (.aload_n 0, 1, 0, 0, 0, 0), (.aload_n 0, 1, 0, 0, 0, 0), (.getfield 9, 3, 1, 0, 73, 0), (.iconst 1, 1, 0, 0, 0, nI 1), (.iload_n 1, 1, 1, 0, 0, 0), (.iadd, 1, 0, 0, 0, 0), (.iaload, 1, 0, 0, 0, 0)] [2, 19 + n1, 3, 1 + n1] (pc2 := 88) (ls2 := [some (.ref 40), some (.int (nI n1)), some (.int (nI n2))]) (st2 := [.int (M.1 41 (1 + n1)), .ref 40, .int (nI 4), .ref 22]) (M2 := mput (mput (mrow M 22 (upd (upd (M.1 22) 0 (M.1 7 n2)) 1 (M.1 41 (7 + n1)))) 22 2 (J6_bitCount_0f7a4 (d_heldBy (M.1 41) nt (nI n1)))) 22 3 (M.1 41 (19 + n1))) (Ps := [(nI 2) = nI 2 ∧ 2 < 8, ((nI 19) + (nI n1)) = nI (19 + n1) ∧ (19 + n1) < 51, (nI 3) = nI 3 ∧ 3 < 8, ((nI 1) + (nI n1)) = nI (1 + n1) ∧ (1 + n1) < 51]) (by decide +kernel) rfl rfl ⟨⟨rfl, (by omega)⟩, ⟨(nI_add _ _), (by omega)⟩, ⟨rfl, (by omega)⟩, ⟨(nI_add _ _), (by omega)⟩, trivial⟩ ?_
  refine G.mem (M' := mrow M 22 (upd (upd (upd (upd (M.1 22) 0 (M.1 7 n2)) 1 (M.1 41 (7 + n1))) 2 (J6_bitCount_0f7a4 (d_heldBy (M.1 41) nt (nI n1)))) 3 (M.1 41 (19 + n1)))) (by first | rfl | (simp only [mput, mrow_same, mrow_hit, mrow_miss, mrow_sw, idr_eq, ne_eq, Nat.reduceEqDiff, not_false_eq_true, Nat.reduceLT, reduceCtorEq]; done)) ?_
  obtain ⟨k7, hk⟩ := hk
  have t8 : GM z mX1_lyingAt (d + 1) [.ref 40, .int (M.1 41 (1 + n1))] (mrow M 22 (upd (upd (upd (upd (M.1 22) 0 (M.1 7 n2)) 1 (M.1 41 (7 + n1))) 2 (J6_bitCount_0f7a4 (d_heldBy (M.1 41) nt (nI n1)))) 3 (M.1 41 (19 + n1)))) (fun rs => rs = .inl (some (.int (d_lyingAt (M.1 41) nt (M.1 41 (1 + n1)))), mrow M 22 (upd (upd (upd (upd (M.1 22) 0 (M.1 7 n2)) 1 (M.1 41 (7 + n1))) 2 (J6_bitCount_0f7a4 (d_heldBy (M.1 41) nt (nI n1)))) 3 (M.1 41 (19 + n1))))) := by
    have q9 := c_d_lyingAt_40 z (d + 1) (mrow M 22 (upd (upd (upd (upd (M.1 22) 0 (M.1 7 n2)) 1 (M.1 41 (7 + n1))) 2 (J6_bitCount_0f7a4 (d_heldBy (M.1 41) nt (nI n1)))) 3 (M.1 41 (19 + n1)))) (M.1 41 (1 + n1)) nt hnt ht
    try simp only [mput, mrow_same, mrow_hit, mrow_miss, mrow_sw, idr_eq, ne_eq, Nat.reduceEqDiff, not_false_eq_true, Nat.reduceLT, reduceCtorEq] at q9
    exact q9
  refine G.callV (as := [.int (M.1 41 (1 + n1))]) (rest := [.int (nI 4), .ref 22]) (a := 40) oX1_lyingAt lk_EvenFinders_Days_102 (by decide +kernel) rfl rfl ⟨rfl, rfl⟩ (Nat.le_of_ble_eq_true rfl) rfl ⟨Nat.le_of_ble_eq_true rfl, Nat.le_of_ble_eq_true rfl⟩ t8 (fun v9 N9 h9 => ?_) (fun E9 N9 h9 => by cases h9)
  cases h9
  show G z mX1_dutyOf (d + 2) 0 0 91 [some (.ref 40), some (.int (nI n1)), some (.int (nI n2))] [.int (d_lyingAt (M.1 41) nt (M.1 41 (1 + n1))), .int (nI 4), .ref 22] (mrow M 22 (upd (upd (upd (upd (M.1 22) 0 (M.1 7 n2)) 1 (M.1 41 (7 + n1))) 2 (J6_bitCount_0f7a4 (d_heldBy (M.1 41) nt (nI n1)))) 3 (M.1 41 (19 + n1)))) Q
  obtain ⟨k10, hk⟩ := hk
  have t11 : GM z mJ6_bitCount_0f7a4 (d + 1) [.int (d_lyingAt (M.1 41) nt (M.1 41 (1 + n1)))] (mrow M 22 (upd (upd (upd (upd (M.1 22) 0 (M.1 7 n2)) 1 (M.1 41 (7 + n1))) 2 (J6_bitCount_0f7a4 (d_heldBy (M.1 41) nt (nI n1)))) 3 (M.1 41 (19 + n1)))) (fun rs => rs = .inl (some (.int (J6_bitCount_0f7a4 (d_lyingAt (M.1 41) nt (M.1 41 (1 + n1))))), mrow M 22 (upd (upd (upd (upd (M.1 22) 0 (M.1 7 n2)) 1 (M.1 41 (7 + n1))) 2 (J6_bitCount_0f7a4 (d_heldBy (M.1 41) nt (nI n1)))) 3 (M.1 41 (19 + n1))))) := by
    have q9 := c_J6_bitCount_0f7a4 z (d + 1) (mrow M 22 (upd (upd (upd (upd (M.1 22) 0 (M.1 7 n2)) 1 (M.1 41 (7 + n1))) 2 (J6_bitCount_0f7a4 (d_heldBy (M.1 41) nt (nI n1)))) 3 (M.1 41 (19 + n1)))) (d_lyingAt (M.1 41) nt (M.1 41 (1 + n1)))
    try simp only [mput, mrow_same, mrow_hit, mrow_miss, mrow_sw, idr_eq, ne_eq, Nat.reduceEqDiff, not_false_eq_true, Nat.reduceLT, reduceCtorEq] at q9
    exact q9
  refine G.callS (as := [.int (d_lyingAt (M.1 41) nt (M.1 41 (1 + n1)))]) (rest := [.int (nI 4), .ref 22]) oJ6_bitCount_0f7a4 lk_EvenFinders_Days_97 (by decide +kernel) rfl (Nat.le_of_ble_eq_true rfl) rfl ⟨Nat.le_of_ble_eq_true rfl, Nat.le_of_ble_eq_true rfl⟩ t11 (fun v9 N9 h12 => ?_) (fun E9 N9 h12 => by cases h12)
  cases h12
  show G z mX1_dutyOf (d + 2) 0 0 94 [some (.ref 40), some (.int (nI n1)), some (.int (nI n2))] [.int (J6_bitCount_0f7a4 (d_lyingAt (M.1 41) nt (M.1 41 (1 + n1)))), .int (nI 4), .ref 22] (mrow M 22 (upd (upd (upd (upd (M.1 22) 0 (M.1 7 n2)) 1 (M.1 41 (7 + n1))) 2 (J6_bitCount_0f7a4 (d_heldBy (M.1 41) nt (nI n1)))) 3 (M.1 41 (19 + n1)))) Q
  refine G.sl [(.iastore, 1, 0, 0, 0, 0), (.aload_n 0, 1, 0, 0, 0, 0), (.getfield 22, 3, 1, 3, 80, 0), (.getfield 89, 3, 3, 0, 54, 0), (.iconst 5, 1, 0, 0, 0, nI 5), (.aload_n 0, 1, 0, 0, 0, 0), (.getfield 9, 3, 1, 0, 73, 0), (.iconst 0, 1, 0, 0, 0, nI 0), (.iaload, 1, 0, 0, 0, 0), (.iastore, 1, 0, 0, 0, 0), (.aload_n 0, 1, 0, 0, 0, 0), (.getfield 22, 3, 1, 3, 80, 0), (.getfield 89, 3, 3, 0, 54, 0), (.bipush 6, 2, 0, 0, 0, nI 6), (.aload_n 0, 1, 0, 0, 0, 0), (.getfield 9, 3, 1, 0, 73, 0), (.bipush 25, 2, 0, 0, 0, nI 25), (.iload_n 1, 1, 1, 0, 0, 0), (.iadd, 1, 0, 0, 0, 0), (.iaload, 1, 0, 0, 0, 0), (.iastore, 1, 0, 0, 0, 0), (.aload_n 0, 1, 0, 0, 0, 0), (.getfield 22, 3, 1, 3, 80, 0), (.getfield 89, 3, 3, 0, 54, 0), (.bipush 7, 2, 0, 0, 0, nI 7), (.iload_n 1, 1, 1, 0, 0, 0), (.iastore, 1, 0, 0, 0, 0), (.aload_n 0, 1, 0, 0, 0, 0), (.getfield 22, 3, 1, 3, 80, 0)] [4, 0, 5, 25 + n1, 6, 7] (pc2 := 144) (ls2 := [some (.ref 40), some (.int (nI n1)), some (.int (nI n2))]) (st2 := [.ref 21]) (M2 := mput (mput (mput (mput (mrow M 22 (upd (upd (upd (upd (M.1 22) 0 (M.1 7 n2)) 1 (M.1 41 (7 + n1))) 2 (J6_bitCount_0f7a4 (d_heldBy (M.1 41) nt (nI n1)))) 3 (M.1 41 (19 + n1)))) 22 4 (J6_bitCount_0f7a4 (d_lyingAt (M.1 41) nt (M.1 41 (1 + n1))))) 22 5 (M.1 41 0)) 22 6 (M.1 41 (25 + n1))) 22 7 (nI n1)) (Ps := [(nI 4) = nI 4 ∧ 4 < 8, (nI 0) = nI 0 ∧ 0 < 51, (nI 5) = nI 5 ∧ 5 < 8, ((nI 25) + (nI n1)) = nI (25 + n1) ∧ (25 + n1) < 51, (nI 6) = nI 6 ∧ 6 < 8, (nI 7) = nI 7 ∧ 7 < 8]) (by decide +kernel) rfl rfl ⟨⟨rfl, (by omega)⟩, ⟨rfl, (by omega)⟩, ⟨rfl, (by omega)⟩, ⟨(nI_add _ _), (by omega)⟩, ⟨rfl, (by omega)⟩, ⟨rfl, (by omega)⟩, trivial⟩ ?_
  refine G.mem (M' := mrow M 22 (upd (upd (upd (upd (upd (upd (upd (upd (M.1 22) 0 (M.1 7 n2)) 1 (M.1 41 (7 + n1))) 2 (J6_bitCount_0f7a4 (d_heldBy (M.1 41) nt (nI n1)))) 3 (M.1 41 (19 + n1))) 4 (J6_bitCount_0f7a4 (d_lyingAt (M.1 41) nt (M.1 41 (1 + n1))))) 5 (M.1 41 0)) 6 (M.1 41 (25 + n1))) 7 (nI n1))) (by first | rfl | (simp only [mput, mrow_same, mrow_hit, mrow_miss, mrow_sw, idr_eq, ne_eq, Nat.reduceEqDiff, not_false_eq_true, Nat.reduceLT, reduceCtorEq]; done)) ?_
  obtain ⟨k13, hk⟩ := hk
  rcases g14 : l_comesOut (M.1 21) (upd (upd (upd (upd (upd (upd (upd (upd (M.1 22) 0 (M.1 7 n2)) 1 (M.1 41 (7 + n1))) 2 (J6_bitCount_0f7a4 (d_heldBy (M.1 41) nt (nI n1)))) 3 (M.1 41 (19 + n1))) 4 (J6_bitCount_0f7a4 (d_lyingAt (M.1 41) nt (M.1 41 (1 + n1))))) 5 (M.1 41 0)) 6 (M.1 41 (25 + n1))) 7 (nI n1)) (M.1 23) (M.1 24) with ⟨v15, r16⟩
  have t17 : GM z mX3_comesOut (d + 1) [.ref 21] (mrow M 22 (upd (upd (upd (upd (upd (upd (upd (upd (M.1 22) 0 (M.1 7 n2)) 1 (M.1 41 (7 + n1))) 2 (J6_bitCount_0f7a4 (d_heldBy (M.1 41) nt (nI n1)))) 3 (M.1 41 (19 + n1))) 4 (J6_bitCount_0f7a4 (d_lyingAt (M.1 41) nt (M.1 41 (1 + n1))))) 5 (M.1 41 0)) 6 (M.1 41 (25 + n1))) 7 (nI n1))) (fun rs => rs = .inl (some (.int v15), mrow (mrow M 22 (upd (upd (upd (upd (upd (upd (upd (upd (M.1 22) 0 (M.1 7 n2)) 1 (M.1 41 (7 + n1))) 2 (J6_bitCount_0f7a4 (d_heldBy (M.1 41) nt (nI n1)))) 3 (M.1 41 (19 + n1))) 4 (J6_bitCount_0f7a4 (d_lyingAt (M.1 41) nt (M.1 41 (1 + n1))))) 5 (M.1 41 0)) 6 (M.1 41 (25 + n1))) 7 (nI n1))) 24 r16)) := by
    have q9 := c_l_comesOut_21 z d (mrow M 22 (upd (upd (upd (upd (upd (upd (upd (upd (M.1 22) 0 (M.1 7 n2)) 1 (M.1 41 (7 + n1))) 2 (J6_bitCount_0f7a4 (d_heldBy (M.1 41) nt (nI n1)))) 3 (M.1 41 (19 + n1))) 4 (J6_bitCount_0f7a4 (d_lyingAt (M.1 41) nt (M.1 41 (1 + n1))))) 5 (M.1 41 0)) 6 (M.1 41 (25 + n1))) 7 (nI n1))) k13
    try simp only [mput, mrow_same, mrow_hit, mrow_miss, mrow_sw, idr_eq, ne_eq, Nat.reduceEqDiff, not_false_eq_true, Nat.reduceLT, reduceCtorEq, g14] at q9
    exact q9
  refine G.callV (as := []) (rest := []) (a := 21) oX3_comesOut lk_EvenFinders_Days_105 (by decide +kernel) rfl rfl ⟨rfl, rfl⟩ (Nat.le_of_ble_eq_true rfl) rfl ⟨Nat.le_of_ble_eq_true rfl, Nat.le_of_ble_eq_true rfl⟩ t17 (fun v9 N9 h18 => ?_) (fun E9 N9 h18 => by cases h18)
  cases h18
  show G z mX1_dutyOf (d + 2) 0 0 147 [some (.ref 40), some (.int (nI n1)), some (.int (nI n2))] [.int v15] (mrow (mrow M 22 (upd (upd (upd (upd (upd (upd (upd (upd (M.1 22) 0 (M.1 7 n2)) 1 (M.1 41 (7 + n1))) 2 (J6_bitCount_0f7a4 (d_heldBy (M.1 41) nt (nI n1)))) 3 (M.1 41 (19 + n1))) 4 (J6_bitCount_0f7a4 (d_lyingAt (M.1 41) nt (M.1 41 (1 + n1))))) 5 (M.1 41 0)) 6 (M.1 41 (25 + n1))) 7 (nI n1))) 24 r16) Q
  exact G.reti (by decide +kernel) rfl rfl (Nat.le_of_ble_eq_true rfl) (Nat.le_of_ble_eq_true rfl) ((by rw [hQ]; simp only [d_dutyOf, g14, mrow_self]))
set_option maxHeartbeats 4000000 in
set_option maxRecDepth 3000 in
theorem c_d_finds_40 (z : Zp) (d : Nat) (M : Mem) (n1 : Nat) (n2 : Nat) (nt : Nat) (hnt : nt ≤ 10) (ht : M.1 3 2 = nI nt) (b1 : n1 < 6) (b2 : n2 < 10) (hk : d_finds_ok (M.1 7) (M.1 21) (M.1 22) (M.1 23) (M.1 24) (M.1 41) nt n1 n2) : GM z mX1_finds (d + 3) [.ref 40, .int (nI n1), .int (nI n2)] M (fun rs => rs = .inl (some (.int ((d_finds (M.1 7) (M.1 21) (M.1 22) (M.1 23) (M.1 24) (M.1 41) nt n1 n2).1)), mrow (mrow (mrow M 22 ((d_finds (M.1 7) (M.1 21) (M.1 22) (M.1 23) (M.1 24) (M.1 41) nt n1 n2).2.1)) 24 ((d_finds (M.1 7) (M.1 21) (M.1 22) (M.1 23) (M.1 24) (M.1 41) nt n1 n2).2.2.1)) 41 ((d_finds (M.1 7) (M.1 21) (M.1 22) (M.1 23) (M.1 24) (M.1 41) nt n1 n2).2.2.2))) := by
  simp only [d_finds_ok] at hk
  refine GM.of oX1_finds.1 (Nat.le_of_ble_eq_true rfl) ?_
  show G z mX1_finds (d + 3) 0 0 0 [some (.ref 40), some (.int (nI n1)), some (.int (nI n2))] [] M _
  obtain ⟨Q, hQ⟩ : ∃ Q : Rs → Prop, Q = (fun rs => rs = .inl (some (.int ((d_finds (M.1 7) (M.1 21) (M.1 22) (M.1 23) (M.1 24) (M.1 41) nt n1 n2).1)), mrow (mrow (mrow M 22 ((d_finds (M.1 7) (M.1 21) (M.1 22) (M.1 23) (M.1 24) (M.1 41) nt n1 n2).2.1)) 24 ((d_finds (M.1 7) (M.1 21) (M.1 22) (M.1 23) (M.1 24) (M.1 41) nt n1 n2).2.2.1)) 41 ((d_finds (M.1 7) (M.1 21) (M.1 22) (M.1 23) (M.1 24) (M.1 41) nt n1 n2).2.2.2))) := ⟨_, rfl⟩
  rw [← hQ]
  refine G.sl [(.aload_n 0, 1, 0, 0, 0, 0), (.iload_n 1, 1, 1, 0, 0, 0), (.iload_n 2, 1, 2, 0, 0, 0)] [] (pc2 := 3) (ls2 := [some (.ref 40), some (.int (nI n1)), some (.int (nI n2))]) (st2 := [.int (nI n2), .int (nI n1), .ref 40]) (M2 := M) (Ps := []) (by decide +kernel) rfl rfl trivial ?_
  obtain ⟨k1, hk⟩ := hk
  have t2 : GM z mX1_mayFind (d + 2) [.ref 40, .int (nI n1), .int (nI n2)] M (fun rs => rs = .inl (some (.int (d_mayFind (M.1 41) n1 n2)), M)) := by
    have q9 := c_d_mayFind_40 z (d + 2) M n1 n2 (by omega) (by omega)
    try simp only [mput, mrow_same, mrow_hit, mrow_miss, mrow_sw, idr_eq, ne_eq, Nat.reduceEqDiff, not_false_eq_true, Nat.reduceLT, reduceCtorEq] at q9
    exact q9
  refine G.callV (as := [.int (nI n1), .int (nI n2)]) (rest := []) (a := 40) oX1_mayFind lk_EvenFinders_Days_56 (by decide +kernel) rfl rfl ⟨rfl, rfl⟩ (Nat.le_of_ble_eq_true rfl) rfl ⟨Nat.le_of_ble_eq_true rfl, Nat.le_of_ble_eq_true rfl⟩ t2 (fun v9 N9 h3 => ?_) (fun E9 N9 h3 => by cases h3)
  cases h3
  show G z mX1_finds (d + 3) 0 0 6 [some (.ref 40), some (.int (nI n1)), some (.int (nI n2))] [.int (d_mayFind (M.1 41) n1 n2)] M Q
  refine G.if_ne (off := (5)) (tgt := 11) (by decide +kernel) rfl (fun c4 => ?_) (fun c4 => ?_)
  · skip
    rw [if_neg c4] at hk
    refine G.sl [(.aload_n 0, 1, 0, 0, 0, 0), (.getfield 9, 3, 1, 0, 73, 0), (.bipush 7, 2, 0, 0, 0, nI 7), (.iload_n 1, 1, 1, 0, 0, 0), (.iadd, 1, 0, 0, 0, 0), (.dup2, 1, 0, 0, 0, 0), (.iaload, 1, 0, 0, 0, 0), (.aload_n 0, 1, 0, 0, 0, 0), (.iload_n 1, 1, 1, 0, 0, 0), (.iload_n 2, 1, 2, 0, 0, 0)] [7 + n1] (pc2 := 24) (ls2 := [some (.ref 40), some (.int (nI n1)), some (.int (nI n2))]) (st2 := [.int (nI n2), .int (nI n1), .ref 40, .int (M.1 41 (7 + n1)), .int ((nI 7) + (nI n1)), .ref 41]) (M2 := M) (Ps := [((nI 7) + (nI n1)) = nI (7 + n1) ∧ (7 + n1) < 51]) (by decide +kernel) rfl rfl ⟨⟨(nI_add _ _), (by omega)⟩, trivial⟩ ?_
    obtain ⟨k5, hk⟩ := hk
    rcases g6 : d_dutyOf (M.1 7) (M.1 21) (M.1 22) (M.1 23) (M.1 24) (M.1 41) nt n1 n2 with ⟨v7, r8, r9⟩
    have t10 : GM z mX1_dutyOf (d + 2) [.ref 40, .int (nI n1), .int (nI n2)] M (fun rs => rs = .inl (some (.int v7), mrow (mrow M 22 r8) 24 r9)) := by
      have q9 := c_d_dutyOf_40 z d M n1 n2 nt hnt ht (by omega) (by omega) k5
      try simp only [mput, mrow_same, mrow_hit, mrow_miss, mrow_sw, idr_eq, ne_eq, Nat.reduceEqDiff, not_false_eq_true, Nat.reduceLT, reduceCtorEq, g6] at q9
      exact q9
    refine G.callV (as := [.int (nI n1), .int (nI n2)]) (rest := [.int (M.1 41 (7 + n1)), .int ((nI 7) + (nI n1)), .ref 41]) (a := 40) oX1_dutyOf lk_EvenFinders_Days_60 (by decide +kernel) rfl rfl ⟨rfl, rfl⟩ (Nat.le_of_ble_eq_true rfl) rfl ⟨Nat.le_of_ble_eq_true rfl, Nat.le_of_ble_eq_true rfl⟩ t10 (fun v9 N9 h11 => ?_) (fun E9 N9 h11 => by cases h11)
    cases h11
    show G z mX1_finds (d + 3) 0 0 27 [some (.ref 40), some (.int (nI n1)), some (.int (nI n2))] [.int v7, .int (M.1 41 (7 + n1)), .int ((nI 7) + (nI n1)), .ref 41] (mrow (mrow M 22 r8) 24 r9) Q
    refine G.sl [(.iadd, 1, 0, 0, 0, 0), (.iastore, 1, 0, 0, 0, 0), (.aload_n 0, 1, 0, 0, 0, 0), (.getfield 9, 3, 1, 0, 73, 0), (.bipush 19, 2, 0, 0, 0, nI 19), (.iload_n 1, 1, 1, 0, 0, 0), (.iadd, 1, 0, 0, 0, 0), (.dup2, 1, 0, 0, 0, 0), (.iaload, 1, 0, 0, 0, 0), (.iconst 1, 1, 0, 0, 0, nI 1), (.iadd, 1, 0, 0, 0, 0), (.iastore, 1, 0, 0, 0, 0), (.aload_n 0, 1, 0, 0, 0, 0), (.getfield 9, 3, 1, 0, 73, 0), (.bipush 31, 2, 0, 0, 0, nI 31), (.iload_n 2, 1, 2, 0, 0, 0), (.iadd, 1, 0, 0, 0, 0), (.iconst (-1), 1, 0, 0, 0, (-1)), (.iastore, 1, 0, 0, 0, 0), (.aload_n 0, 1, 0, 0, 0, 0), (.getfield 9, 3, 1, 0, 73, 0), (.bipush 41, 2, 0, 0, 0, nI 41), (.iload_n 2, 1, 2, 0, 0, 0), (.iadd, 1, 0, 0, 0, 0), (.iload_n 1, 1, 1, 0, 0, 0), (.iastore, 1, 0, 0, 0, 0), (.iconst 1, 1, 0, 0, 0, nI 1)] [7 + n1, 19 + n1, 19 + n1, 31 + n2, 41 + n2] (pc2 := 63) (ls2 := [some (.ref 40), some (.int (nI n1)), some (.int (nI n2))]) (st2 := [.int (nI 1)]) (M2 := mput (mput (mput (mput (mrow (mrow M 22 r8) 24 r9) 41 (7 + n1) ((M.1 41 (7 + n1)) + v7)) 41 (19 + n1) (((upd (M.1 41) (7 + n1) ((M.1 41 (7 + n1)) + v7)) (19 + n1)) + (nI 1))) 41 (31 + n2) ((-1))) 41 (41 + n2) (nI n1)) (Ps := [((nI 7) + (nI n1)) = nI (7 + n1) ∧ (7 + n1) < 51, ((nI 19) + (nI n1)) = nI (19 + n1) ∧ (19 + n1) < 51, ((nI 19) + (nI n1)) = nI (19 + n1) ∧ (19 + n1) < 51, ((nI 31) + (nI n2)) = nI (31 + n2) ∧ (31 + n2) < 51, ((nI 41) + (nI n2)) = nI (41 + n2) ∧ (41 + n2) < 51]) (by decide +kernel) rfl rfl ⟨⟨(nI_add _ _), (by omega)⟩, ⟨(nI_add _ _), (by omega)⟩, ⟨(nI_add _ _), (by omega)⟩, ⟨(nI_add _ _), (by omega)⟩, ⟨(nI_add _ _), (by omega)⟩, trivial⟩ ?_
    refine G.mem (M' := mrow (mrow (mrow M 22 r8) 24 r9) 41 (upd (upd (upd (upd (M.1 41) (7 + n1) ((M.1 41 (7 + n1)) + v7)) (19 + n1) (((upd (M.1 41) (7 + n1) ((M.1 41 (7 + n1)) + v7)) (19 + n1)) + (nI 1))) (31 + n2) ((-1))) (41 + n2) (nI n1))) (by first | rfl | (simp only [mput, mrow_same, mrow_hit, mrow_miss, mrow_sw, idr_eq, ne_eq, Nat.reduceEqDiff, not_false_eq_true, Nat.reduceLT, reduceCtorEq]; done)) ?_
    exact G.reti (by decide +kernel) rfl rfl (Nat.le_of_ble_eq_true rfl) (Nat.le_of_ble_eq_true rfl) ((by rw [hQ]; simp only [d_finds, if_neg c4, g6, mrow_self]))
  · skip
    rw [if_pos c4] at hk
    refine G.sl [(.iconst 0, 1, 0, 0, 0, nI 0)] [] (pc2 := 10) (ls2 := [some (.ref 40), some (.int (nI n1)), some (.int (nI n2))]) (st2 := [.int (nI 0)]) (M2 := M) (Ps := []) (by decide +kernel) rfl rfl trivial ?_
    refine G.mem (M' := mrow (mrow (mrow M 22 (M.1 22)) 24 (M.1 24)) 41 (M.1 41)) (((((mrow_id (N := M) (c := 22) (f := M.1 22) (by first | rfl | (simp only [mput, mrow_same, mrow_hit, mrow_miss, mrow_sw, idr_eq, ne_eq, Nat.reduceEqDiff, not_false_eq_true, Nat.reduceLT, reduceCtorEq]; done))).symm).trans (mrow_id (N := mrow M 22 (M.1 22)) (c := 24) (f := M.1 24) (by first | rfl | (simp only [mput, mrow_same, mrow_hit, mrow_miss, mrow_sw, idr_eq, ne_eq, Nat.reduceEqDiff, not_false_eq_true, Nat.reduceLT, reduceCtorEq]; done))).symm).trans (mrow_id (N := mrow (mrow M 22 (M.1 22)) 24 (M.1 24)) (c := 41) (f := M.1 41) (by first | rfl | (simp only [mput, mrow_same, mrow_hit, mrow_miss, mrow_sw, idr_eq, ne_eq, Nat.reduceEqDiff, not_false_eq_true, Nat.reduceLT, reduceCtorEq]; done))).symm).trans (by first | rfl | (simp only [mput, mrow_same, mrow_hit, mrow_miss, mrow_sw, idr_eq, ne_eq, Nat.reduceEqDiff, not_false_eq_true, Nat.reduceLT, reduceCtorEq]; done))) ?_
    exact G.reti (by decide +kernel) rfl rfl (Nat.le_of_ble_eq_true rfl) (Nat.le_of_ble_eq_true rfl) ((by rw [hQ]; simp only [d_finds, if_pos c4, mrow_self]))
set_option maxHeartbeats 4000000 in
set_option maxRecDepth 3000 in
theorem c_v_otherEnd_3 (z : Zp) (d : Nat) (M : Mem) (n1 : Nat) (x2 : Int32) (b1 : n1 < 12) : GM z mX7_otherEnd (d) [.ref 3, .int (nI n1), .int x2] M (fun rs => rs = .inl (some (.int (v_otherEnd (M.1 4) (M.1 5) n1 x2)), M)) := by
  refine GM.of oX7_otherEnd.1 (Nat.le_of_ble_eq_true rfl) ?_
  show G z mX7_otherEnd (d) 0 0 0 [some (.ref 3), some (.int (nI n1)), some (.int x2)] [] M _
  obtain ⟨Q, hQ⟩ : ∃ Q : Rs → Prop, Q = (fun rs => rs = .inl (some (.int (v_otherEnd (M.1 4) (M.1 5) n1 x2)), M)) := ⟨_, rfl⟩
  rw [← hQ]
  refine G.sl [(.aload_n 0, 1, 0, 0, 0, 0), (.getfield 9, 3, 6, 4, 35, 0), (.iload_n 1, 1, 1, 0, 0, 0), (.iaload, 1, 0, 0, 0, 0), (.iload_n 2, 1, 2, 0, 0, 0)] [n1] (pc2 := 7) (ls2 := [some (.ref 3), some (.int (nI n1)), some (.int x2)]) (st2 := [.int x2, .int (M.1 4 n1)]) (M2 := M) (Ps := [(nI n1) = nI n1 ∧ n1 < 12]) (by decide +kernel) rfl rfl ⟨⟨rfl, (by omega)⟩, trivial⟩ ?_
  refine G.ic_ne (off := (10)) (tgt := 17) (by decide +kernel) rfl (fun c1 => ?_) (fun c1 => ?_)
  · skip
    refine G.sl [(.aload_n 0, 1, 0, 0, 0, 0), (.getfield 15, 3, 6, 5, 37, 0), (.iload_n 1, 1, 1, 0, 0, 0), (.iaload, 1, 0, 0, 0, 0), (.iload_n 2, 1, 2, 0, 0, 0)] [n1] (pc2 := 24) (ls2 := [some (.ref 3), some (.int (nI n1)), some (.int x2)]) (st2 := [.int x2, .int (M.1 5 n1)]) (M2 := M) (Ps := [(nI n1) = nI n1 ∧ n1 < 12]) (by decide +kernel) rfl rfl ⟨⟨rfl, (by omega)⟩, trivial⟩ ?_
    refine G.ic_ne (off := (12)) (tgt := 36) (by decide +kernel) rfl (fun c2 => ?_) (fun c2 => ?_)
    · skip
      refine G.sl [(.iconst (-1), 1, 0, 0, 0, (-1))] [] (pc2 := 37) (ls2 := [some (.ref 3), some (.int (nI n1)), some (.int x2)]) (st2 := [.int ((-1))]) (M2 := M) (Ps := []) (by decide +kernel) rfl rfl trivial ?_
      exact G.reti (by decide +kernel) rfl rfl (Nat.le_of_ble_eq_true rfl) (Nat.le_of_ble_eq_true rfl) ((by rw [hQ]; simp only [v_otherEnd, if_neg c1, if_neg c2, mrow_self]))
    · skip
      refine G.sl [(.aload_n 0, 1, 0, 0, 0, 0), (.getfield 9, 3, 6, 4, 35, 0), (.iload_n 1, 1, 1, 0, 0, 0), (.iaload, 1, 0, 0, 0, 0), (.goto 4, 3, 37, 0, 0, 0)] [n1] (pc2 := 37) (ls2 := [some (.ref 3), some (.int (nI n1)), some (.int x2)]) (st2 := [.int (M.1 4 n1)]) (M2 := M) (Ps := [(nI n1) = nI n1 ∧ n1 < 12]) (by decide +kernel) rfl rfl ⟨⟨rfl, (by omega)⟩, trivial⟩ ?_
      exact G.reti (by decide +kernel) rfl rfl (Nat.le_of_ble_eq_true rfl) (Nat.le_of_ble_eq_true rfl) ((by rw [hQ]; simp only [v_otherEnd, if_neg c1, if_pos c2, mrow_self]))
  · skip
    refine G.sl [(.aload_n 0, 1, 0, 0, 0, 0), (.getfield 15, 3, 6, 5, 37, 0), (.iload_n 1, 1, 1, 0, 0, 0), (.iaload, 1, 0, 0, 0, 0)] [n1] (pc2 := 16) (ls2 := [some (.ref 3), some (.int (nI n1)), some (.int x2)]) (st2 := [.int (M.1 5 n1)]) (M2 := M) (Ps := [(nI n1) = nI n1 ∧ n1 < 12]) (by decide +kernel) rfl rfl ⟨⟨rfl, (by omega)⟩, trivial⟩ ?_
    exact G.reti (by decide +kernel) rfl rfl (Nat.le_of_ble_eq_true rfl) (Nat.le_of_ble_eq_true rfl) ((by rw [hQ]; simp only [v_otherEnd, if_pos c1, mrow_self]))
theorem d_walks_01 (RroadA RroadB RroadLength Rrow : Nat → Int32) (n1 : Nat) (n2 : Nat) : (d_walks RroadA RroadB RroadLength Rrow n1 n2).1 = 0 ∨ (d_walks RroadA RroadB RroadLength Rrow n1 n2).1 = 1 := by
  unfold d_walks
  repeat' split
  all_goals first | exact Or.inl rfl | exact Or.inr rfl
set_option maxHeartbeats 4000000 in
set_option maxRecDepth 3000 in
theorem c_d_walks_37 (z : Zp) (d : Nat) (M : Mem) (n1 : Nat) (n2 : Nat) (b1 : n1 < 6) (b2 : n2 < 12) : GM z mX1_walks (d + 1) [.ref 37, .int (nI n1), .int (nI n2)] M (fun rs => rs = .inl (some (.int ((d_walks (M.1 4) (M.1 5) (M.1 6) (M.1 38) n1 n2).1)), mrow M 38 ((d_walks (M.1 4) (M.1 5) (M.1 6) (M.1 38) n1 n2).2))) := by
  refine GM.of oX1_walks.1 (Nat.le_of_ble_eq_true rfl) ?_
  show G z mX1_walks (d + 1) 0 0 0 [some (.ref 37), some (.int (nI n1)), some (.int (nI n2)), none, none] [] M _
  obtain ⟨Q, hQ⟩ : ∃ Q : Rs → Prop, Q = (fun rs => rs = .inl (some (.int ((d_walks (M.1 4) (M.1 5) (M.1 6) (M.1 38) n1 n2).1)), mrow M 38 ((d_walks (M.1 4) (M.1 5) (M.1 6) (M.1 38) n1 n2).2))) := ⟨_, rfl⟩
  rw [← hQ]
  refine G.sl [(.aload_n 0, 1, 0, 0, 0, 0), (.getfield 18, 3, 1, 2, 79, 0), (.iload_n 2, 1, 2, 0, 0, 0), (.aload_n 0, 1, 0, 0, 0, 0), (.getfield 9, 3, 1, 0, 73, 0), (.iconst 1, 1, 0, 0, 0, nI 1), (.iload_n 1, 1, 1, 0, 0, 0), (.iadd, 1, 0, 0, 0, 0), (.iaload, 1, 0, 0, 0, 0)] [1 + n1] (pc2 := 13) (ls2 := [some (.ref 37), some (.int (nI n1)), some (.int (nI n2)), none, none]) (st2 := [.int (M.1 38 (1 + n1)), .int (nI n2), .ref 3]) (M2 := M) (Ps := [((nI 1) + (nI n1)) = nI (1 + n1) ∧ (1 + n1) < 51]) (by decide +kernel) rfl rfl ⟨⟨(nI_add _ _), (by omega)⟩, trivial⟩ ?_
  have t2 : GM z mX7_otherEnd (d) [.ref 3, .int (nI n2), .int (M.1 38 (1 + n1))] M (fun rs => rs = .inl (some (.int (v_otherEnd (M.1 4) (M.1 5) n2 (M.1 38 (1 + n1)))), M)) := by
    have q9 := c_v_otherEnd_3 z d M n2 (M.1 38 (1 + n1)) (by omega)
    try simp only [mput, mrow_same, mrow_hit, mrow_miss, mrow_sw, idr_eq, ne_eq, Nat.reduceEqDiff, not_false_eq_true, Nat.reduceLT, reduceCtorEq] at q9
    exact q9
  refine G.callV (as := [.int (nI n2), .int (M.1 38 (1 + n1))]) (rest := []) (a := 3) oX7_otherEnd lk_EvenFinders_Days_49 (by decide +kernel) rfl rfl ⟨rfl, rfl⟩ (Nat.le_of_ble_eq_true rfl) rfl ⟨Nat.le_of_ble_eq_true rfl, Nat.le_of_ble_eq_true rfl⟩ t2 (fun v9 N9 h3 => ?_) (fun E9 N9 h3 => by cases h3)
  cases h3
  show G z mX1_walks (d + 1) 0 0 16 [some (.ref 37), some (.int (nI n1)), some (.int (nI n2)), none, none] [.int (v_otherEnd (M.1 4) (M.1 5) n2 (M.1 38 (1 + n1)))] M Q
  refine G.sl [(.istore_n 3, 1, 3, 0, 0, 0), (.aload_n 0, 1, 0, 0, 0, 0), (.getfield 9, 3, 1, 0, 73, 0), (.bipush 13, 2, 0, 0, 0, nI 13), (.iload_n 1, 1, 1, 0, 0, 0), (.iadd, 1, 0, 0, 0, 0), (.iaload, 1, 0, 0, 0, 0), (.aload_n 0, 1, 0, 0, 0, 0), (.getfield 18, 3, 1, 2, 79, 0), (.getfield 53, 3, 6, 6, 40, 0), (.iload_n 2, 1, 2, 0, 0, 0), (.iaload, 1, 0, 0, 0, 0), (.iadd, 1, 0, 0, 0, 0), (.istore 4, 2, 4, 0, 0, 0), (.iload_n 3, 1, 3, 0, 0, 0), (.iconst (-1), 1, 0, 0, 0, (-1))] [13 + n1, n2] (pc2 := 40) (ls2 := [some (.ref 37), some (.int (nI n1)), some (.int (nI n2)), some (.int (v_otherEnd (M.1 4) (M.1 5) n2 (M.1 38 (1 + n1)))), some (.int ((M.1 38 (13 + n1)) + (M.1 6 n2)))]) (st2 := [.int ((-1)), .int (v_otherEnd (M.1 4) (M.1 5) n2 (M.1 38 (1 + n1)))]) (M2 := M) (Ps := [((nI 13) + (nI n1)) = nI (13 + n1) ∧ (13 + n1) < 51, (nI n2) = nI n2 ∧ n2 < 12]) (by decide +kernel) rfl rfl ⟨⟨(nI_add _ _), (by omega)⟩, ⟨rfl, (by omega)⟩, trivial⟩ ?_
  refine G.ic_eq (off := (10)) (tgt := 50) (by decide +kernel) rfl (fun c4 => ?_) (fun c4 => ?_)
  · skip
    refine G.sl [(.iconst 0, 1, 0, 0, 0, nI 0)] [] (pc2 := 51) (ls2 := [some (.ref 37), some (.int (nI n1)), some (.int (nI n2)), some (.int (v_otherEnd (M.1 4) (M.1 5) n2 (M.1 38 (1 + n1)))), some (.int ((M.1 38 (13 + n1)) + (M.1 6 n2)))]) (st2 := [.int (nI 0)]) (M2 := M) (Ps := []) (by decide +kernel) rfl rfl trivial ?_
    refine G.mem (M' := mrow M 38 (M.1 38)) (((mrow_id (N := M) (c := 38) (f := M.1 38) (by first | rfl | (simp only [mput, mrow_same, mrow_hit, mrow_miss, mrow_sw, idr_eq, ne_eq, Nat.reduceEqDiff, not_false_eq_true, Nat.reduceLT, reduceCtorEq]; done))).symm).trans (by first | rfl | (simp only [mput, mrow_same, mrow_hit, mrow_miss, mrow_sw, idr_eq, ne_eq, Nat.reduceEqDiff, not_false_eq_true, Nat.reduceLT, reduceCtorEq]; done))) ?_
    exact G.reti (by decide +kernel) rfl rfl (Nat.le_of_ble_eq_true rfl) (Nat.le_of_ble_eq_true rfl) ((by rw [hQ]; simp only [d_walks, if_pos c4, mrow_self]))
  · skip
    refine G.sl [(.iload 4, 2, 4, 0, 0, 0), (.bipush 24, 2, 0, 0, 0, nI 24)] [] (pc2 := 47) (ls2 := [some (.ref 37), some (.int (nI n1)), some (.int (nI n2)), some (.int (v_otherEnd (M.1 4) (M.1 5) n2 (M.1 38 (1 + n1)))), some (.int ((M.1 38 (13 + n1)) + (M.1 6 n2)))]) (st2 := [.int (nI 24), .int ((M.1 38 (13 + n1)) + (M.1 6 n2))]) (M2 := M) (Ps := []) (by decide +kernel) rfl rfl trivial ?_
    refine G.ic_le (off := (5)) (tgt := 52) (by decide +kernel) rfl (fun c5 => ?_) (fun c5 => ?_)
    · skip
      refine G.sl [(.aload_n 0, 1, 0, 0, 0, 0), (.getfield 9, 3, 1, 0, 73, 0), (.iconst 1, 1, 0, 0, 0, nI 1), (.iload_n 1, 1, 1, 0, 0, 0), (.iadd, 1, 0, 0, 0, 0), (.iload_n 3, 1, 3, 0, 0, 0), (.iastore, 1, 0, 0, 0, 0), (.aload_n 0, 1, 0, 0, 0, 0), (.getfield 9, 3, 1, 0, 73, 0), (.bipush 13, 2, 0, 0, 0, nI 13), (.iload_n 1, 1, 1, 0, 0, 0), (.iadd, 1, 0, 0, 0, 0), (.iload 4, 2, 4, 0, 0, 0), (.iastore, 1, 0, 0, 0, 0), (.iconst 1, 1, 0, 0, 0, nI 1)] [1 + n1, 13 + n1] (pc2 := 73) (ls2 := [some (.ref 37), some (.int (nI n1)), some (.int (nI n2)), some (.int (v_otherEnd (M.1 4) (M.1 5) n2 (M.1 38 (1 + n1)))), some (.int ((M.1 38 (13 + n1)) + (M.1 6 n2)))]) (st2 := [.int (nI 1)]) (M2 := mput (mput M 38 (1 + n1) (v_otherEnd (M.1 4) (M.1 5) n2 (M.1 38 (1 + n1)))) 38 (13 + n1) ((M.1 38 (13 + n1)) + (M.1 6 n2))) (Ps := [((nI 1) + (nI n1)) = nI (1 + n1) ∧ (1 + n1) < 51, ((nI 13) + (nI n1)) = nI (13 + n1) ∧ (13 + n1) < 51]) (by decide +kernel) rfl rfl ⟨⟨(nI_add _ _), (by omega)⟩, ⟨(nI_add _ _), (by omega)⟩, trivial⟩ ?_
      refine G.mem (M' := mrow M 38 (upd (upd (M.1 38) (1 + n1) (v_otherEnd (M.1 4) (M.1 5) n2 (M.1 38 (1 + n1)))) (13 + n1) ((M.1 38 (13 + n1)) + (M.1 6 n2)))) (by first | rfl | (simp only [mput, mrow_same, mrow_hit, mrow_miss, mrow_sw, idr_eq, ne_eq, Nat.reduceEqDiff, not_false_eq_true, Nat.reduceLT, reduceCtorEq]; done)) ?_
      exact G.reti (by decide +kernel) rfl rfl (Nat.le_of_ble_eq_true rfl) (Nat.le_of_ble_eq_true rfl) ((by rw [hQ]; simp only [d_walks, if_neg c4, if_pos c5, mrow_self]))
    · skip
      refine G.sl [(.iconst 0, 1, 0, 0, 0, nI 0)] [] (pc2 := 51) (ls2 := [some (.ref 37), some (.int (nI n1)), some (.int (nI n2)), some (.int (v_otherEnd (M.1 4) (M.1 5) n2 (M.1 38 (1 + n1)))), some (.int ((M.1 38 (13 + n1)) + (M.1 6 n2)))]) (st2 := [.int (nI 0)]) (M2 := M) (Ps := []) (by decide +kernel) rfl rfl trivial ?_
      refine G.mem (M' := mrow M 38 (M.1 38)) (((mrow_id (N := M) (c := 38) (f := M.1 38) (by first | rfl | (simp only [mput, mrow_same, mrow_hit, mrow_miss, mrow_sw, idr_eq, ne_eq, Nat.reduceEqDiff, not_false_eq_true, Nat.reduceLT, reduceCtorEq]; done))).symm).trans (by first | rfl | (simp only [mput, mrow_same, mrow_hit, mrow_miss, mrow_sw, idr_eq, ne_eq, Nat.reduceEqDiff, not_false_eq_true, Nat.reduceLT, reduceCtorEq]; done))) ?_
      exact G.reti (by decide +kernel) rfl rfl (Nat.le_of_ble_eq_true rfl) (Nat.le_of_ble_eq_true rfl) ((by rw [hQ]; simp only [d_walks, if_neg c4, if_neg c5, mrow_self]))
