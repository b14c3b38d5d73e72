set_option maxHeartbeats 4000000 in
set_option maxRecDepth 3000 in
theorem lp_t_push_1_3 (z : Zp) (d : Nat) (M : Mem) (Q : Rs → Prop) (x1 : Int32) : ∀ (k0 : Nat) (s2 : Int32) (q1 : (Nat → Int32)) (q2 : (Nat → Int32)), t_push_3_ok x1 k0 s2 q1 q2 → (match t_push_3 x1 k0 s2 q1 q2 with | (s2', q1', q2') => G z mX6_push (d) 0 0 51 [none, none, none] [] (mrow (mrow M 1 (q1')) 2 (q2')) Q) → G z mX6_push (d) 0 0 3 [some (.ref 1), some (.int x1), some (.int s2)] [] (mrow (mrow M 1 q1) 2 q2) Q := by
  intro k0
  induction k0 with
  | zero =>
      intro s2 q1 q2 hk hX
      exact (by simpa only [t_push_3_ok] using hk : False).elim
  | succ k0 ih =>
      intro s2 q1 q2 hk hX
      simp only [t_push_3_ok] at hk
      refine G.sl [(.iload_n 2, 1, 2, 0, 0, 0)] [] (pc2 := 4) (ls2 := [some (.ref 1), some (.int x1), some (.int s2)]) (st2 := [.int s2]) (M2 := mrow (mrow M 1 q1) 2 q2) (Ps := []) (by decide +kernel) rfl rfl trivial ?_
      refine G.if_lt (off := (47)) (tgt := 51) (by decide +kernel) rfl (fun c1 => ?_) (fun c1 => ?_)
      · skip
        rw [if_pos c1] at hk
        refine G.loc (ls2 := [none, none, none]) (by simp [subL]) ?_
        simp only [t_push_3, if_pos c1] at hX
        exact hX
      · skip
        rw [if_neg c1] at hk
        refine G.sl [(.aload_n 0, 1, 0, 0, 0, 0), (.getfield 19, 3, 5, 1, 2, 0), (.aload_n 0, 1, 0, 0, 0, 0), (.getfield 9, 3, 5, 0, 0, 0), (.arraylength, 1, 0, 0, 0, 0)] [] (pc2 := 16) (ls2 := [some (.ref 1), some (.int x1), some (.int s2)]) (st2 := [.int (nI 600), .int (q1 1)]) (M2 := mrow (mrow M 1 q1) 2 q2) (Ps := []) (by decide +kernel) rfl rfl trivial ?_
        refine G.ic_ge (off := (29)) (tgt := 45) (by decide +kernel) rfl (fun c2 => ?_) (fun c2 => ?_)
        · skip
          rw [if_pos c2] at hk
          refine G.sl [(.iinc 2 (-8), 3, 2, 0, 0, (-8)), (.goto (-45), 3, 3, 0, 0, 0)] [] (pc2 := 3) (ls2 := [some (.ref 1), some (.int x1), some (.int (s2 + (-8)))]) (st2 := []) (M2 := mrow (mrow M 1 q1) 2 q2) (Ps := []) (by decide +kernel) rfl rfl trivial ?_
          simp only [t_push_3, if_neg c1, if_pos c2] at hX
          exact ih (s2 + (-8)) q1 q2 hk hX
        · skip
          rw [if_neg c2] at hk
          obtain ⟨k3, k4, hk⟩ := hk
          refine G.sl [(.aload_n 0, 1, 0, 0, 0, 0), (.getfield 9, 3, 5, 0, 0, 0), (.aload_n 0, 1, 0, 0, 0, 0), (.getfield 19, 3, 5, 1, 2, 0), (.iload_n 1, 1, 1, 0, 0, 0), (.iload_n 2, 1, 2, 0, 0, 0), (.iushr, 1, 0, 0, 0, 0), (.sipush 255, 3, 0, 0, 0, nI 255), (.iand, 1, 0, 0, 0, 0), (.iastore, 1, 0, 0, 0, 0), (.aload_n 0, 1, 0, 0, 0, 0), (.dup, 1, 0, 0, 0, 0), (.getfield 19, 3, 5, 1, 2, 0), (.iconst 1, 1, 0, 0, 0, nI 1), (.iadd, 1, 0, 0, 0, 0), (.putfield 19, 3, 5, 1, 2, 0), (.iinc 2 (-8), 3, 2, 0, 0, (-8)), (.goto (-45), 3, 3, 0, 0, 0)] [ix (q1 1)] (pc2 := 3) (ls2 := [some (.ref 1), some (.int x1), some (.int (s2 + (-8)))]) (st2 := []) (M2 := mput (mput (mrow (mrow M 1 q1) 2 q2) 2 (ix (q1 1)) (((x1.toUInt32 >>> (s2.toUInt32 &&& Int32.toUInt32 31)).toInt32) &&& (nI 255))) 1 1 ((q1 1) + (nI 1))) (Ps := [(q1 1) = nI (ix (q1 1)) ∧ (ix (q1 1)) < 600]) (by decide +kernel) rfl rfl ⟨⟨(ixE k3), k4⟩, trivial⟩ ?_
          refine G.mem (M' := mrow (mrow M 1 (upd q1 1 ((q1 1) + (nI 1)))) 2 (upd q2 (ix (q1 1)) (((x1.toUInt32 >>> (s2.toUInt32 &&& Int32.toUInt32 31)).toInt32) &&& (nI 255)))) (by first | rfl | (simp only [mput, mrow_same, mrow_hit, mrow_miss, mrow_sw, idr_eq, ne_eq, Nat.reduceEqDiff, not_false_eq_true, Nat.reduceLT, reduceCtorEq]; done)) ?_
          simp only [t_push_3, if_neg c1, if_neg c2] at hX
          exact ih (s2 + (-8)) (upd q1 1 ((q1 1) + (nI 1))) (upd q2 (ix (q1 1)) (((x1.toUInt32 >>> (s2.toUInt32 &&& Int32.toUInt32 31)).toInt32) &&& (nI 255))) hk hX
set_option maxHeartbeats 4000000 in
set_option maxRecDepth 3000 in
theorem c_t_push_1 (z : Zp) (d : Nat) (M : Mem) (x1 : Int32) (hk : t_push_ok (M.1 1) (M.1 2) x1) : GM z mX6_push (d) [.ref 1, .int x1] M (fun rs => rs = .inl (none, mrow (mrow M 1 ((t_push (M.1 1) (M.1 2) x1).2.1)) 2 ((t_push (M.1 1) (M.1 2) x1).2.2))) := by
  simp only [t_push_ok] at hk
  refine GM.of oX6_push.1 (Nat.le_of_ble_eq_true rfl) ?_
  show G z mX6_push (d) 0 0 0 [some (.ref 1), some (.int x1), none] [] M _
  obtain ⟨Q, hQ⟩ : ∃ Q : Rs → Prop, Q = (fun rs => rs = .inl (none, mrow (mrow M 1 ((t_push (M.1 1) (M.1 2) x1).2.1)) 2 ((t_push (M.1 1) (M.1 2) x1).2.2))) := ⟨_, rfl⟩
  rw [← hQ]
  refine G.sl [(.bipush 24, 2, 0, 0, 0, nI 24), (.istore_n 2, 1, 2, 0, 0, 0)] [] (pc2 := 3) (ls2 := [some (.ref 1), some (.int x1), some (.int (nI 24))]) (st2 := []) (M2 := M) (Ps := []) (by decide +kernel) rfl rfl trivial ?_
  obtain ⟨k5, hk⟩ := hk
  refine G.mem (M' := mrow (mrow M 1 (M.1 1)) 2 (M.1 2)) (by simp only [mrow_self]) ?_
  refine lp_t_push_1_3 z d M Q x1 FU (nI 24) (M.1 1) (M.1 2) (by first | (simp only [mput, mrow_same, mrow_hit, mrow_miss, mrow_sw, idr_eq, ne_eq, Nat.reduceEqDiff, not_false_eq_true, Nat.reduceLT, reduceCtorEq]; exact k5) | exact k5) ?_
  try simp only [mput, mrow_same, mrow_hit, mrow_miss, mrow_sw, idr_eq, ne_eq, Nat.reduceEqDiff, not_false_eq_true, Nat.reduceLT, reduceCtorEq]
  rcases g6 : t_push_3 x1 FU (nI 24) (M.1 1) (M.1 2) with ⟨v7, r8, r9⟩
  show G z mX6_push (d) 0 0 51 [none, none, none] [] (mrow (mrow M 1 r8) 2 r9) Q
  exact G.retv (by decide +kernel) rfl (Nat.le_of_ble_eq_true rfl) (Nat.le_of_ble_eq_true rfl) ((by rw [hQ]; simp only [t_push, g6, mrow_self]))
set_option maxHeartbeats 4000000 in
set_option maxRecDepth 3000 in
theorem c_t_begin_1 (z : Zp) (d : Nat) (M : Mem) (x1 : Int32) : GM z mX6_begin (d + 1) [.ref 1, .int x1] M (fun rs => rs = .inl (none, mrow M 1 ((t_begin (M.1 1) x1).2))) := by
  refine GM.of oX6_begin.1 (Nat.le_of_ble_eq_true rfl) ?_
  show G z mX6_begin (d + 1) 0 0 0 [some (.ref 1), some (.int x1)] [] M _
  obtain ⟨Q, hQ⟩ : ∃ Q : Rs → Prop, Q = (fun rs => rs = .inl (none, mrow M 1 ((t_begin (M.1 1) x1).2))) := ⟨_, rfl⟩
  rw [← hQ]
  refine G.sl [(.aload_n 0, 1, 0, 0, 0, 0), (.iconst 0, 1, 0, 0, 0, nI 0), (.iload_n 1, 1, 1, 0, 0, 0), (.aload_n 0, 1, 0, 0, 0, 0), (.getfield 19, 3, 5, 1, 2, 0)] [] (pc2 := 7) (ls2 := [some (.ref 1), some (.int x1)]) (st2 := [.int (M.1 1 1), .int x1, .int (nI 0), .ref 1]) (M2 := M) (Ps := []) (by decide +kernel) rfl rfl trivial ?_
  refine G.mmin lm_EvenFinders_Tape_22 (by decide +kernel) (Nat.le_of_ble_eq_true rfl) (Nat.le_of_ble_eq_true rfl) (Nat.le_of_ble_eq_true rfl) ?_
  refine G.mmax lm_EvenFinders_Tape_28 (by decide +kernel) (Nat.le_of_ble_eq_true rfl) (Nat.le_of_ble_eq_true rfl) (Nat.le_of_ble_eq_true rfl) ?_
  refine G.sl [(.putfield 31, 3, 5, 5, 12, 0), (.aload_n 0, 1, 0, 0, 0, 0), (.iconst 0, 1, 0, 0, 0, nI 0), (.putfield 34, 3, 5, 6, 13, 0), (.aload_n 0, 1, 0, 0, 0, 0), (.iconst 0, 1, 0, 0, 0, nI 0), (.putfield 19, 3, 5, 1, 2, 0), (.aload_n 0, 1, 0, 0, 0, 0), (.iconst 0, 1, 0, 0, 0, nI 0), (.putfield 37, 3, 5, 2, 3, 0), (.aload_n 0, 1, 0, 0, 0, 0), (.iconst (-1), 1, 0, 0, 0, (-1)), (.putfield 15, 3, 5, 3, 5, 0), (.aload_n 0, 1, 0, 0, 0, 0), (.iconst 0, 1, 0, 0, 0, nI 0), (.putfield 40, 3, 5, 4, 7, 0)] [] (pc2 := 41) (ls2 := [some (.ref 1), some (.int x1)]) (st2 := []) (M2 := mput (mput (mput (mput (mput (mput M 1 5 (if (nI 0) < (if (M.1 1 1) < x1 then (M.1 1 1) else x1) then (if (M.1 1 1) < x1 then (M.1 1 1) else x1) else (nI 0))) 1 6 (nI 0)) 1 1 (nI 0)) 1 2 (nI 0)) 1 3 ((-1))) 1 4 (nI 0)) (Ps := []) (by decide +kernel) rfl rfl trivial ?_
  refine G.mem (M' := mrow M 1 (upd (upd (upd (upd (upd (upd (M.1 1) 5 (if (nI 0) < (if (M.1 1 1) < x1 then (M.1 1 1) else x1) then (if (M.1 1 1) < x1 then (M.1 1 1) else x1) else (nI 0))) 6 (nI 0)) 1 (nI 0)) 2 (nI 0)) 3 ((-1))) 4 (nI 0))) (by first | rfl | (simp only [mput, mrow_same, mrow_hit, mrow_miss, mrow_sw, idr_eq, ne_eq, Nat.reduceEqDiff, not_false_eq_true, Nat.reduceLT, reduceCtorEq]; done)) ?_
  exact G.retv (by decide +kernel) rfl (Nat.le_of_ble_eq_true rfl) (Nat.le_of_ble_eq_true rfl) ((by rw [hQ]; simp only [t_begin, mrow_self]))
theorem t_isFaulty_01 (Rtape : Nat → Int32) : t_isFaulty Rtape = 0 ∨ t_isFaulty Rtape = 1 := by
  unfold t_isFaulty
  repeat' split
  all_goals first | exact Or.inl rfl | exact Or.inr rfl
set_option maxHeartbeats 4000000 in
set_option maxRecDepth 3000 in
theorem c_t_isFaulty_1 (z : Zp) (d : Nat) (M : Mem) : GM z mX6_isFaulty (d) [.ref 1] M (fun rs => rs = .inl (some (.int (t_isFaulty (M.1 1))), M)) := by
  refine GM.of oX6_isFaulty.1 (Nat.le_of_ble_eq_true rfl) ?_
  show G z mX6_isFaulty (d) 0 0 0 [some (.ref 1)] [] M _
  obtain ⟨Q, hQ⟩ : ∃ Q : Rs → Prop, Q = (fun rs => rs = .inl (some (.int (t_isFaulty (M.1 1))), M)) := ⟨_, rfl⟩
  rw [← hQ]
  refine G.sl [(.aload_n 0, 1, 0, 0, 0, 0), (.getfield 37, 3, 5, 2, 3, 0)] [] (pc2 := 4) (ls2 := [some (.ref 1)]) (st2 := [.int (M.1 1 2)]) (M2 := M) (Ps := []) (by decide +kernel) rfl rfl trivial ?_
  refine G.if_eq (off := (7)) (tgt := 11) (by decide +kernel) rfl (fun c1 => ?_) (fun c1 => ?_)
  · skip
    refine G.sl [(.iconst 0, 1, 0, 0, 0, nI 0)] [] (pc2 := 12) (ls2 := [some (.ref 1)]) (st2 := [.int (nI 0)]) (M2 := M) (Ps := []) (by decide +kernel) rfl rfl trivial ?_
    exact G.reti (by decide +kernel) rfl rfl (Nat.le_of_ble_eq_true rfl) (Nat.le_of_ble_eq_true rfl) ((by rw [hQ]; simp only [t_isFaulty, if_pos c1, mrow_self]))
  · skip
    refine G.sl [(.iconst 1, 1, 0, 0, 0, nI 1), (.goto 4, 3, 12, 0, 0, 0)] [] (pc2 := 12) (ls2 := [some (.ref 1)]) (st2 := [.int (nI 1)]) (M2 := M) (Ps := []) (by decide +kernel) rfl rfl trivial ?_
    exact G.reti (by decide +kernel) rfl rfl (Nat.le_of_ble_eq_true rfl) (Nat.le_of_ble_eq_true rfl) ((by rw [hQ]; simp only [t_isFaulty, if_neg c1, mrow_self]))
set_option maxHeartbeats 4000000 in
set_option maxRecDepth 3000 in
theorem c_t_fail_1 (z : Zp) (d : Nat) (M : Mem) (x1 : Int32) (x2 : Int32) : GM z mX6_fail (d) [.ref 1, .int x1, .int x2] M (fun rs => rs = .inl (none, mrow M 1 ((t_fail (M.1 1) x1 x2).2))) := by
  refine GM.of oX6_fail.1 (Nat.le_of_ble_eq_true rfl) ?_
  show G z mX6_fail (d) 0 0 0 [some (.ref 1), some (.int x1), some (.int x2)] [] M _
  obtain ⟨Q, hQ⟩ : ∃ Q : Rs → Prop, Q = (fun rs => rs = .inl (none, mrow M 1 ((t_fail (M.1 1) x1 x2).2))) := ⟨_, rfl⟩
  rw [← hQ]
  refine G.sl [(.aload_n 0, 1, 0, 0, 0, 0), (.getfield 37, 3, 5, 2, 3, 0)] [] (pc2 := 4) (ls2 := [some (.ref 1), some (.int x1), some (.int x2)]) (st2 := [.int (M.1 1 2)]) (M2 := M) (Ps := []) (by decide +kernel) rfl rfl trivial ?_
  refine G.if_ne (off := (13)) (tgt := 17) (by decide +kernel) rfl (fun c1 => ?_) (fun c1 => ?_)
  · skip
    refine G.mem (M' := mrow M 1 (M.1 1)) (((mrow_id (N := M) (c := 1) (f := M.1 1) (by first | rfl | (simp only [mput, mrow_same, mrow_hit, mrow_miss, mrow_sw, idr_eq, ne_eq, Nat.reduceEqDiff, not_false_eq_true, Nat.reduceLT, reduceCtorEq]; done))).symm).trans (by first | rfl | (simp only [mput, mrow_same, mrow_hit, mrow_miss, mrow_sw, idr_eq, ne_eq, Nat.reduceEqDiff, not_false_eq_true, Nat.reduceLT, reduceCtorEq]; done))) ?_
    exact G.retv (by decide +kernel) rfl (Nat.le_of_ble_eq_true rfl) (Nat.le_of_ble_eq_true rfl) ((by rw [hQ]; simp only [t_fail, if_neg c1, mrow_self]))
  · skip
    refine G.sl [(.aload_n 0, 1, 0, 0, 0, 0), (.iload_n 1, 1, 1, 0, 0, 0), (.putfield 37, 3, 5, 2, 3, 0), (.aload_n 0, 1, 0, 0, 0, 0), (.iload_n 2, 1, 2, 0, 0, 0), (.putfield 15, 3, 5, 3, 5, 0)] [] (pc2 := 17) (ls2 := [some (.ref 1), some (.int x1), some (.int x2)]) (st2 := []) (M2 := mput (mput M 1 2 x1) 1 3 x2) (Ps := []) (by decide +kernel) rfl rfl trivial ?_
    refine G.mem (M' := mrow M 1 (upd (upd (M.1 1) 2 x1) 3 x2)) (by first | rfl | (simp only [mput, mrow_same, mrow_hit, mrow_miss, mrow_sw, idr_eq, ne_eq, Nat.reduceEqDiff, not_false_eq_true, Nat.reduceLT, reduceCtorEq]; done)) ?_
    exact G.retv (by decide +kernel) rfl (Nat.le_of_ble_eq_true rfl) (Nat.le_of_ble_eq_true rfl) ((by rw [hQ]; simp only [t_fail, if_pos c1, mrow_self]))
set_option maxHeartbeats 4000000 in
set_option maxRecDepth 3000 in
theorem lp_t_next_1_0 (z : Zp) (d : Nat) (M : Mem) (Q : Rs → Prop) : ∀ (k0 : Nat) (q1 : (Nat → Int32)), t_next_0_ok (M.1 2) k0 q1 → (match t_next_0 (M.1 2) k0 q1 with | q1' => G z mX6_next (d) 0 0 38 [some (.ref 1)] [] (mrow M 1 (q1')) Q) → G z mX6_next (d) 0 0 0 [some (.ref 1)] [] (mrow M 1 q1) Q := by
  intro k0
  induction k0 with
  | zero =>
      intro q1 hk hX
      exact (by simpa only [t_next_0_ok] using hk : False).elim
  | succ k0 ih =>
      intro q1 hk hX
      simp only [t_next_0_ok] at hk
      refine G.sl [(.aload_n 0, 1, 0, 0, 0, 0), (.getfield 34, 3, 5, 6, 13, 0), (.aload_n 0, 1, 0, 0, 0, 0), (.getfield 31, 3, 5, 5, 12, 0)] [] (pc2 := 8) (ls2 := [some (.ref 1)]) (st2 := [.int (q1 5), .int (q1 6)]) (M2 := mrow M 1 q1) (Ps := []) (by decide +kernel) rfl rfl trivial ?_
      refine G.ic_ge (off := (30)) (tgt := 38) (by decide +kernel) rfl (fun c1 => ?_) (fun c1 => ?_)
      · skip
        rw [if_pos c1] at hk
        simp only [t_next_0, if_pos c1] at hX
        exact hX
      · skip
        rw [if_neg c1] at hk
        obtain ⟨k2, k3, hk⟩ := hk
        refine G.sl [(.aload_n 0, 1, 0, 0, 0, 0), (.getfield 9, 3, 5, 0, 0, 0), (.aload_n 0, 1, 0, 0, 0, 0), (.getfield 34, 3, 5, 6, 13, 0), (.iaload, 1, 0, 0, 0, 0), (.bipush 32, 2, 0, 0, 0, nI 32)] [ix (q1 6)] (pc2 := 22) (ls2 := [some (.ref 1)]) (st2 := [.int (nI 32), .int (M.1 2 (ix (q1 6)))]) (M2 := mrow M 1 q1) (Ps := [(q1 6) = nI (ix (q1 6)) ∧ (ix (q1 6)) < 600]) (by decide +kernel) rfl rfl ⟨⟨(ixE k2), k3⟩, trivial⟩ ?_
        refine G.ic_ne (off := (16)) (tgt := 38) (by decide +kernel) rfl (fun c4 => ?_) (fun c4 => ?_)
        · skip
          rw [if_neg c4] at hk
          simp only [t_next_0, if_neg c1, if_neg c4] at hX
          exact hX
        · skip
          rw [if_pos c4] at hk
          refine G.sl [(.aload_n 0, 1, 0, 0, 0, 0), (.dup, 1, 0, 0, 0, 0), (.getfield 34, 3, 5, 6, 13, 0), (.iconst 1, 1, 0, 0, 0, nI 1), (.iadd, 1, 0, 0, 0, 0), (.putfield 34, 3, 5, 6, 13, 0), (.goto (-35), 3, 0, 0, 0, 0)] [] (pc2 := 0) (ls2 := [some (.ref 1)]) (st2 := []) (M2 := mput (mrow M 1 q1) 1 6 ((q1 6) + (nI 1))) (Ps := []) (by decide +kernel) rfl rfl trivial ?_
          refine G.mem (M' := mrow M 1 (upd q1 6 ((q1 6) + (nI 1)))) (by first | rfl | (simp only [mput, mrow_same, mrow_hit, mrow_miss, mrow_sw, idr_eq, ne_eq, Nat.reduceEqDiff, not_false_eq_true, Nat.reduceLT, reduceCtorEq]; done)) ?_
          simp only [t_next_0, if_neg c1, if_pos c4] at hX
          exact ih (upd q1 6 ((q1 6) + (nI 1))) hk hX
set_option maxHeartbeats 4000000 in
set_option maxRecDepth 3000 in
theorem c_t_next_1 (z : Zp) (d : Nat) (M : Mem) (hk : t_next_ok (M.1 1) (M.1 2)) : GM z mX6_next (d) [.ref 1] M (fun rs => rs = .inl (some (.int ((t_next (M.1 1) (M.1 2)).1)), mrow M 1 ((t_next (M.1 1) (M.1 2)).2))) := by
  simp only [t_next_ok] at hk
  refine GM.of oX6_next.1 (Nat.le_of_ble_eq_true rfl) ?_
  show G z mX6_next (d) 0 0 0 [some (.ref 1)] [] M _
  obtain ⟨Q, hQ⟩ : ∃ Q : Rs → Prop, Q = (fun rs => rs = .inl (some (.int ((t_next (M.1 1) (M.1 2)).1)), mrow M 1 ((t_next (M.1 1) (M.1 2)).2))) := ⟨_, rfl⟩
  rw [← hQ]
  obtain ⟨k5, hk⟩ := hk
  refine G.mem (M' := mrow M 1 (M.1 1)) (by simp only [mrow_self]) ?_
  refine lp_t_next_1_0 z d M Q FU (M.1 1) (by first | (simp only [mput, mrow_same, mrow_hit, mrow_miss, mrow_sw, idr_eq, ne_eq, Nat.reduceEqDiff, not_false_eq_true, Nat.reduceLT, reduceCtorEq]; exact k5) | exact k5) ?_
  try simp only [mput, mrow_same, mrow_hit, mrow_miss, mrow_sw, idr_eq, ne_eq, Nat.reduceEqDiff, not_false_eq_true, Nat.reduceLT, reduceCtorEq]
  show G z mX6_next (d) 0 0 38 [some (.ref 1)] [] (mrow M 1 (t_next_0 (M.1 2) FU (M.1 1))) Q
  refine G.sl [(.aload_n 0, 1, 0, 0, 0, 0), (.aload_n 0, 1, 0, 0, 0, 0), (.getfield 34, 3, 5, 6, 13, 0), (.putfield 40, 3, 5, 4, 7, 0), (.aload_n 0, 1, 0, 0, 0, 0), (.getfield 34, 3, 5, 6, 13, 0), (.aload_n 0, 1, 0, 0, 0, 0), (.getfield 31, 3, 5, 5, 12, 0)] [] (pc2 := 54) (ls2 := [some (.ref 1)]) (st2 := [.int ((t_next_0 (M.1 2) FU (M.1 1)) 5), .int ((t_next_0 (M.1 2) FU (M.1 1)) 6)]) (M2 := mput (mrow M 1 (t_next_0 (M.1 2) FU (M.1 1))) 1 4 ((t_next_0 (M.1 2) FU (M.1 1)) 6)) (Ps := []) (by decide +kernel) rfl rfl trivial ?_
  refine G.mem (M' := mrow M 1 (upd (t_next_0 (M.1 2) FU (M.1 1)) 4 ((t_next_0 (M.1 2) FU (M.1 1)) 6))) (by first | rfl | (simp only [mput, mrow_same, mrow_hit, mrow_miss, mrow_sw, idr_eq, ne_eq, Nat.reduceEqDiff, not_false_eq_true, Nat.reduceLT, reduceCtorEq]; done)) ?_
  refine G.ic_ge (off := (22)) (tgt := 76) (by decide +kernel) rfl (fun c6 => ?_) (fun c6 => ?_)
  · skip
    rw [if_pos c6] at hk
    refine G.sl [(.iconst (-1), 1, 0, 0, 0, (-1))] [] (pc2 := 77) (ls2 := [some (.ref 1)]) (st2 := [.int ((-1))]) (M2 := mrow M 1 (upd (t_next_0 (M.1 2) FU (M.1 1)) 4 ((t_next_0 (M.1 2) FU (M.1 1)) 6))) (Ps := []) (by decide +kernel) rfl rfl trivial ?_
    exact G.reti (by decide +kernel) rfl rfl (Nat.le_of_ble_eq_true rfl) (Nat.le_of_ble_eq_true rfl) ((by rw [hQ]; simp only [t_next, if_pos c6, mrow_self]))
  · skip
    rw [if_neg c6] at hk
    refine G.sl [(.aload_n 0, 1, 0, 0, 0, 0), (.getfield 37, 3, 5, 2, 3, 0)] [] (pc2 := 61) (ls2 := [some (.ref 1)]) (st2 := [.int ((t_next_0 (M.1 2) FU (M.1 1)) 2)]) (M2 := mrow M 1 (upd (t_next_0 (M.1 2) FU (M.1 1)) 4 ((t_next_0 (M.1 2) FU (M.1 1)) 6))) (Ps := []) (by decide +kernel) rfl rfl trivial ?_
    refine G.if_ne (off := (15)) (tgt := 76) (by decide +kernel) rfl (fun c7 => ?_) (fun c7 => ?_)
    · skip
      rw [if_neg c7] at hk
      refine G.sl [(.iconst (-1), 1, 0, 0, 0, (-1))] [] (pc2 := 77) (ls2 := [some (.ref 1)]) (st2 := [.int ((-1))]) (M2 := mrow M 1 (upd (t_next_0 (M.1 2) FU (M.1 1)) 4 ((t_next_0 (M.1 2) FU (M.1 1)) 6))) (Ps := []) (by decide +kernel) rfl rfl trivial ?_
      exact G.reti (by decide +kernel) rfl rfl (Nat.le_of_ble_eq_true rfl) (Nat.le_of_ble_eq_true rfl) ((by rw [hQ]; simp only [t_next, if_neg c6, if_neg c7, mrow_self]))
    · skip
      rw [if_pos c7] at hk
      obtain ⟨k8, k9, hk⟩ := hk
      refine G.sl [(.aload_n 0, 1, 0, 0, 0, 0), (.getfield 9, 3, 5, 0, 0, 0), (.aload_n 0, 1, 0, 0, 0, 0), (.getfield 34, 3, 5, 6, 13, 0), (.iaload, 1, 0, 0, 0, 0), (.goto 4, 3, 77, 0, 0, 0)] [ix ((t_next_0 (M.1 2) FU (M.1 1)) 6)] (pc2 := 77) (ls2 := [some (.ref 1)]) (st2 := [.int (M.1 2 (ix ((t_next_0 (M.1 2) FU (M.1 1)) 6)))]) (M2 := mrow M 1 (upd (t_next_0 (M.1 2) FU (M.1 1)) 4 ((t_next_0 (M.1 2) FU (M.1 1)) 6))) (Ps := [((t_next_0 (M.1 2) FU (M.1 1)) 6) = nI (ix ((t_next_0 (M.1 2) FU (M.1 1)) 6)) ∧ (ix ((t_next_0 (M.1 2) FU (M.1 1)) 6)) < 600]) (by decide +kernel) rfl rfl ⟨⟨(ixE k8), k9⟩, trivial⟩ ?_
      exact G.reti (by decide +kernel) rfl rfl (Nat.le_of_ble_eq_true rfl) (Nat.le_of_ble_eq_true rfl) ((by rw [hQ]; simp only [t_next, if_neg c6, if_pos c7, mrow_self]))
set_option maxHeartbeats 4000000 in
set_option maxRecDepth 3000 in
theorem c_t_needSign_1 (z : Zp) (d : Nat) (M : Mem) (x1 : Int32) (hk : t_needSign_ok (M.1 1) (M.1 2) x1) : GM z mX6_needSign (d + 1) [.ref 1, .int x1] M (fun rs => rs = .inl (none, mrow M 1 ((t_needSign (M.1 1) (M.1 2) x1).2))) := by
  simp only [t_needSign_ok] at hk
  refine GM.of oX6_needSign.1 (Nat.le_of_ble_eq_true rfl) ?_
  show G z mX6_needSign (d + 1) 0 0 0 [some (.ref 1), some (.int x1)] [] M _
  obtain ⟨Q, hQ⟩ : ∃ Q : Rs → Prop, Q = (fun rs => rs = .inl (none, mrow M 1 ((t_needSign (M.1 1) (M.1 2) x1).2))) := ⟨_, rfl⟩
  rw [← hQ]
  refine G.sl [(.aload_n 0, 1, 0, 0, 0, 0)] [] (pc2 := 1) (ls2 := [some (.ref 1), some (.int x1)]) (st2 := [.ref 1]) (M2 := M) (Ps := []) (by decide +kernel) rfl rfl trivial ?_
  obtain ⟨k1, hk⟩ := hk
  rcases g2 : t_next (M.1 1) (M.1 2) with ⟨v3, r4⟩
  have t5 : GM z mX6_next (d) [.ref 1] M (fun rs => rs = .inl (some (.int v3), mrow M 1 r4)) := by
    have q9 := c_t_next_1 z d M k1
    try simp only [mput, mrow_same, mrow_hit, mrow_miss, mrow_sw, idr_eq, ne_eq, Nat.reduceEqDiff, not_false_eq_true, Nat.reduceLT, reduceCtorEq, g2] at q9
    exact q9
  refine G.callV (as := []) (rest := []) (a := 1) oX6_next lk_EvenFinders_Tape_43 (by decide +kernel) rfl rfl ⟨rfl, rfl⟩ (Nat.le_of_ble_eq_true rfl) rfl ⟨Nat.le_of_ble_eq_true rfl, Nat.le_of_ble_eq_true rfl⟩ t5 (fun v9 N9 h6 => ?_) (fun E9 N9 h6 => by cases h6)
  cases h6
  show G z mX6_needSign (d + 1) 0 0 4 [some (.ref 1), some (.int x1)] [.int v3] (mrow M 1 r4) Q
  refine G.sl [(.iload_n 1, 1, 1, 0, 0, 0)] [] (pc2 := 5) (ls2 := [some (.ref 1), some (.int x1)]) (st2 := [.int x1, .int v3]) (M2 := mrow M 1 r4) (Ps := []) (by decide +kernel) rfl rfl trivial ?_
  refine G.ic_ne (off := (16)) (tgt := 21) (by decide +kernel) rfl (fun c7 => ?_) (fun c7 => ?_)
  · skip
    refine G.sl [(.aload_n 0, 1, 0, 0, 0, 0), (.iconst 1, 1, 0, 0, 0, nI 1), (.aload_n 0, 1, 0, 0, 0, 0), (.getfield 34, 3, 5, 6, 13, 0)] [] (pc2 := 27) (ls2 := [some (.ref 1), some (.int x1)]) (st2 := [.int (r4 6), .int (nI 1), .ref 1]) (M2 := mrow M 1 r4) (Ps := []) (by decide +kernel) rfl rfl trivial ?_
    rcases g9 : t_fail r4 (nI 1) (r4 6) with ⟨u10, r11⟩
    have t12 : GM z mX6_fail (d) [.ref 1, .int (nI 1), .int (r4 6)] (mrow M 1 r4) (fun rs => rs = .inl (none, mrow M 1 r11)) := by
      have q9 := c_t_fail_1 z d (mrow M 1 r4) (nI 1) (r4 6)
      try simp only [mput, mrow_same, mrow_hit, mrow_miss, mrow_sw, idr_eq, ne_eq, Nat.reduceEqDiff, not_false_eq_true, Nat.reduceLT, reduceCtorEq, g9] at q9
      exact q9
    refine G.callV (as := [.int (nI 1), .int (r4 6)]) (rest := []) (a := 1) oX6_fail lk_EvenFinders_Tape_47 (by decide +kernel) rfl rfl ⟨rfl, rfl⟩ (Nat.le_of_ble_eq_true rfl) rfl ⟨Nat.le_of_ble_eq_true rfl, Nat.le_of_ble_eq_true rfl⟩ t12 (fun v9 N9 h13 => ?_) (fun E9 N9 h13 => by cases h13)
    cases h13
    show G z mX6_needSign (d + 1) 0 0 30 [some (.ref 1), some (.int x1)] [] (mrow M 1 r11) Q
    exact G.retv (by decide +kernel) rfl (Nat.le_of_ble_eq_true rfl) (Nat.le_of_ble_eq_true rfl) ((by rw [hQ]; simp only [t_needSign, g2, if_neg c7, g9, mrow_self]))
  · skip
    refine G.sl [(.aload_n 0, 1, 0, 0, 0, 0), (.dup, 1, 0, 0, 0, 0), (.getfield 34, 3, 5, 6, 13, 0), (.iconst 1, 1, 0, 0, 0, nI 1), (.iadd, 1, 0, 0, 0, 0), (.putfield 34, 3, 5, 6, 13, 0), (.goto 12, 3, 30, 0, 0, 0)] [] (pc2 := 30) (ls2 := [some (.ref 1), some (.int x1)]) (st2 := []) (M2 := mput (mrow M 1 r4) 1 6 ((r4 6) + (nI 1))) (Ps := []) (by decide +kernel) rfl rfl trivial ?_
    refine G.mem (M' := mrow M 1 (upd r4 6 ((r4 6) + (nI 1)))) (by first | rfl | (simp only [mput, mrow_same, mrow_hit, mrow_miss, mrow_sw, idr_eq, ne_eq, Nat.reduceEqDiff, not_false_eq_true, Nat.reduceLT, reduceCtorEq]; done)) ?_
    exact G.retv (by decide +kernel) rfl (Nat.le_of_ble_eq_true rfl) (Nat.le_of_ble_eq_true rfl) ((by rw [hQ]; simp only [t_needSign, g2, if_pos c7, mrow_self]))
theorem t_isDigit_01 (x0 : Int32) : t_isDigit x0 = 0 ∨ t_isDigit x0 = 1 := by
  unfold t_isDigit
  repeat' split
  all_goals first | exact Or.inl rfl | exact Or.inr rfl
set_option maxHeartbeats 4000000 in
set_option maxRecDepth 3000 in
theorem c_t_isDigit (z : Zp) (d : Nat) (M : Mem) (x0 : Int32) : GM z mX6_isDigit (d) [.int x0] M (fun rs => rs = .inl (some (.int (t_isDigit x0)), M)) := by
  refine GM.of oX6_isDigit.1 (Nat.le_of_ble_eq_true rfl) ?_
  show G z mX6_isDigit (d) 0 0 0 [some (.int x0)] [] M _
  obtain ⟨Q, hQ⟩ : ∃ Q : Rs → Prop, Q = (fun rs => rs = .inl (some (.int (t_isDigit x0)), M)) := ⟨_, rfl⟩
  rw [← hQ]
  refine G.sl [(.iload_n 0, 1, 0, 0, 0, 0), (.bipush 48, 2, 0, 0, 0, nI 48)] [] (pc2 := 3) (ls2 := [some (.int x0)]) (st2 := [.int (nI 48), .int x0]) (M2 := M) (Ps := []) (by decide +kernel) rfl rfl trivial ?_
  refine G.ic_lt (off := (13)) (tgt := 16) (by decide +kernel) rfl (fun c1 => ?_) (fun c1 => ?_)
  · skip
    refine G.sl [(.iconst 0, 1, 0, 0, 0, nI 0)] [] (pc2 := 17) (ls2 := [some (.int x0)]) (st2 := [.int (nI 0)]) (M2 := M) (Ps := []) (by decide +kernel) rfl rfl trivial ?_
    exact G.reti (by decide +kernel) rfl rfl (Nat.le_of_ble_eq_true rfl) (Nat.le_of_ble_eq_true rfl) ((by rw [hQ]; simp only [t_isDigit, if_pos c1, mrow_self]))
  · skip
    refine G.sl [(.iload_n 0, 1, 0, 0, 0, 0), (.bipush 57, 2, 0, 0, 0, nI 57)] [] (pc2 := 9) (ls2 := [some (.int x0)]) (st2 := [.int (nI 57), .int x0]) (M2 := M) (Ps := []) (by decide +kernel) rfl rfl trivial ?_
    refine G.ic_gt (off := (7)) (tgt := 16) (by decide +kernel) rfl (fun c2 => ?_) (fun c2 => ?_)
    · skip
      refine G.sl [(.iconst 0, 1, 0, 0, 0, nI 0)] [] (pc2 := 17) (ls2 := [some (.int x0)]) (st2 := [.int (nI 0)]) (M2 := M) (Ps := []) (by decide +kernel) rfl rfl trivial ?_
      exact G.reti (by decide +kernel) rfl rfl (Nat.le_of_ble_eq_true rfl) (Nat.le_of_ble_eq_true rfl) ((by rw [hQ]; simp only [t_isDigit, if_neg c1, if_pos c2, mrow_self]))
    · skip
      refine G.sl [(.iconst 1, 1, 0, 0, 0, nI 1), (.goto 4, 3, 17, 0, 0, 0)] [] (pc2 := 17) (ls2 := [some (.int x0)]) (st2 := [.int (nI 1)]) (M2 := M) (Ps := []) (by decide +kernel) rfl rfl trivial ?_
      exact G.reti (by decide +kernel) rfl rfl (Nat.le_of_ble_eq_true rfl) (Nat.le_of_ble_eq_true rfl) ((by rw [hQ]; simp only [t_isDigit, if_neg c1, if_neg c2, mrow_self]))
set_option maxHeartbeats 4000000 in
set_option maxRecDepth 3000 in
theorem lp_t_number_1_16 (z : Zp) (d : Nat) (M : Mem) (Q : Rs → Prop) (x1 : Int32) (x2 : Int32) : ∀ (k0 : Nat) (s3 : Int32) (q1 : (Nat → Int32)), t_number_16_ok (M.1 2) x1 x2 k0 s3 q1 → (match t_number_16 (M.1 2) x1 x2 k0 s3 q1 with | (s3', q1') => G z mX6_number (d + 1) 0 0 79 [some (.ref 1), some (.int x1), some (.int x2), some (.int (s3'))] [] (mrow M 1 (q1')) Q) → G z mX6_number (d + 1) 0 0 16 [some (.ref 1), some (.int x1), some (.int x2), some (.int s3)] [] (mrow M 1 q1) Q := by
  intro k0
  induction k0 with
  | zero =>
      intro s3 q1 hk hX
      exact (by simpa only [t_number_16_ok] using hk : False).elim
  | succ k0 ih =>
      intro s3 q1 hk hX
      simp only [t_number_16_ok] at hk
      refine G.sl [(.aload_n 0, 1, 0, 0, 0, 0), (.getfield 34, 3, 5, 6, 13, 0), (.aload_n 0, 1, 0, 0, 0, 0), (.getfield 31, 3, 5, 5, 12, 0)] [] (pc2 := 24) (ls2 := [some (.ref 1), some (.int x1), some (.int x2), some (.int s3)]) (st2 := [.int (q1 5), .int (q1 6)]) (M2 := mrow M 1 q1) (Ps := []) (by decide +kernel) rfl rfl trivial ?_
      refine G.ic_ge (off := (55)) (tgt := 79) (by decide +kernel) rfl (fun c8 => ?_) (fun c8 => ?_)
      · skip
        rw [if_pos c8] at hk
        simp only [t_number_16, if_pos c8] at hX
        exact hX
      · skip
        rw [if_neg c8] at hk
        obtain ⟨k9, k10, hk⟩ := hk
        refine G.sl [(.aload_n 0, 1, 0, 0, 0, 0), (.getfield 9, 3, 5, 0, 0, 0), (.aload_n 0, 1, 0, 0, 0, 0), (.getfield 34, 3, 5, 6, 13, 0), (.iaload, 1, 0, 0, 0, 0)] [ix (q1 6)] (pc2 := 36) (ls2 := [some (.ref 1), some (.int x1), some (.int x2), some (.int s3)]) (st2 := [.int (M.1 2 (ix (q1 6)))]) (M2 := mrow M 1 q1) (Ps := [(q1 6) = nI (ix (q1 6)) ∧ (ix (q1 6)) < 600]) (by decide +kernel) rfl rfl ⟨⟨(ixE k9), k10⟩, trivial⟩ ?_
        obtain ⟨k11, hk⟩ := hk
        have t12 : GM z mX6_isDigit (d) [.int (M.1 2 (ix (q1 6)))] (mrow M 1 q1) (fun rs => rs = .inl (some (.int (t_isDigit (M.1 2 (ix (q1 6))))), mrow M 1 q1)) := by
          have q9 := c_t_isDigit z d (mrow M 1 q1) (M.1 2 (ix (q1 6)))
          try simp only [mput, mrow_same, mrow_hit, mrow_miss, mrow_sw, idr_eq, ne_eq, Nat.reduceEqDiff, not_false_eq_true, Nat.reduceLT, reduceCtorEq] at q9
          exact q9
        refine G.callS (as := [.int (M.1 2 (ix (q1 6)))]) (rest := []) oX6_isDigit lk_EvenFinders_Tape_51 (by decide +kernel) rfl (Nat.le_of_ble_eq_true rfl) rfl ⟨Nat.le_of_ble_eq_true rfl, Nat.le_of_ble_eq_true rfl⟩ t12 (fun v9 N9 h13 => ?_) (fun E9 N9 h13 => by cases h13)
        cases h13
        show G z mX6_number (d + 1) 0 0 39 [some (.ref 1), some (.int x1), some (.int x2), some (.int s3)] [.int (t_isDigit (M.1 2 (ix (q1 6))))] (mrow M 1 q1) Q
        refine G.if_eq (off := (40)) (tgt := 79) (by decide +kernel) rfl (fun c14 => ?_) (fun c14 => ?_)
        · skip
          rw [if_pos c14] at hk
          simp only [t_number_16, if_neg c8, if_pos c14] at hX
          exact hX
        · skip
          rw [if_neg c14] at hk
          refine G.sl [(.iload_n 3, 1, 3, 0, 0, 0), (.bipush 10, 2, 0, 0, 0, nI 10), (.imul, 1, 0, 0, 0, 0), (.aload_n 0, 1, 0, 0, 0, 0), (.getfield 9, 3, 5, 0, 0, 0), (.aload_n 0, 1, 0, 0, 0, 0), (.getfield 34, 3, 5, 6, 13, 0), (.iaload, 1, 0, 0, 0, 0), (.iadd, 1, 0, 0, 0, 0), (.bipush 48, 2, 0, 0, 0, nI 48), (.isub, 1, 0, 0, 0, 0), (.sipush 10000, 3, 0, 0, 0, nI 10000)] [ix (q1 6)] (pc2 := 62) (ls2 := [some (.ref 1), some (.int x1), some (.int x2), some (.int s3)]) (st2 := [.int (nI 10000), .int (((s3 * (nI 10)) + (M.1 2 (ix (q1 6)))) - (nI 48))]) (M2 := mrow M 1 q1) (Ps := [(q1 6) = nI (ix (q1 6)) ∧ (ix (q1 6)) < 600]) (by decide +kernel) rfl rfl ⟨⟨(ixE k9), k10⟩, trivial⟩ ?_
          refine G.mmin lm_EvenFinders_Tape_22 (by decide +kernel) (Nat.le_of_ble_eq_true rfl) (Nat.le_of_ble_eq_true rfl) (Nat.le_of_ble_eq_true rfl) ?_
          refine G.sl [(.istore_n 3, 1, 3, 0, 0, 0), (.aload_n 0, 1, 0, 0, 0, 0), (.dup, 1, 0, 0, 0, 0), (.getfield 34, 3, 5, 6, 13, 0), (.iconst 1, 1, 0, 0, 0, nI 1), (.iadd, 1, 0, 0, 0, 0), (.putfield 34, 3, 5, 6, 13, 0), (.goto (-60), 3, 16, 0, 0, 0)] [] (pc2 := 16) (ls2 := [some (.ref 1), some (.int x1), some (.int x2), some (.int (if (nI 10000) < (((s3 * (nI 10)) + (M.1 2 (ix (q1 6)))) - (nI 48)) then (nI 10000) else (((s3 * (nI 10)) + (M.1 2 (ix (q1 6)))) - (nI 48))))]) (st2 := []) (M2 := mput (mrow M 1 q1) 1 6 ((q1 6) + (nI 1))) (Ps := []) (by decide +kernel) rfl rfl trivial ?_
          refine G.mem (M' := mrow M 1 (upd q1 6 ((q1 6) + (nI 1)))) (by first | rfl | (simp only [mput, mrow_same, mrow_hit, mrow_miss, mrow_sw, idr_eq, ne_eq, Nat.reduceEqDiff, not_false_eq_true, Nat.reduceLT, reduceCtorEq]; done)) ?_
          simp only [t_number_16, if_neg c8, if_neg c14] at hX
          exact ih (if (nI 10000) < (((s3 * (nI 10)) + (M.1 2 (ix (q1 6)))) - (nI 48)) then (nI 10000) else (((s3 * (nI 10)) + (M.1 2 (ix (q1 6)))) - (nI 48))) (upd q1 6 ((q1 6) + (nI 1))) hk hX
set_option maxHeartbeats 4000000 in
set_option maxRecDepth 3000 in
theorem c_t_number_1 (z : Zp) (d : Nat) (M : Mem) (x1 : Int32) (x2 : Int32) (hk : t_number_ok (M.1 1) (M.1 2) x1 x2) : GM z mX6_number (d + 1) [.ref 1, .int x1, .int x2] M (fun rs => rs = .inl (some (.int ((t_number (M.1 1) (M.1 2) x1 x2).1)), mrow M 1 ((t_number (M.1 1) (M.1 2) x1 x2).2))) := by
  simp only [t_number_ok] at hk
  refine GM.of oX6_number.1 (Nat.le_of_ble_eq_true rfl) ?_
  show G z mX6_number (d + 1) 0 0 0 [some (.ref 1), some (.int x1), some (.int x2), none] [] M _
  obtain ⟨Q, hQ⟩ : ∃ Q : Rs → Prop, Q = (fun rs => rs = .inl (some (.int ((t_number (M.1 1) (M.1 2) x1 x2).1)), mrow M 1 ((t_number (M.1 1) (M.1 2) x1 x2).2))) := ⟨_, rfl⟩
  rw [← hQ]
  refine G.sl [(.aload_n 0, 1, 0, 0, 0, 0)] [] (pc2 := 1) (ls2 := [some (.ref 1), some (.int x1), some (.int x2), none]) (st2 := [.ref 1]) (M2 := M) (Ps := []) (by decide +kernel) rfl rfl trivial ?_
  obtain ⟨k1, hk⟩ := hk
  rcases g2 : t_next (M.1 1) (M.1 2) with ⟨v3, r4⟩
  try simp only [g2] at hk
  have t5 : GM z mX6_next (d) [.ref 1] M (fun rs => rs = .inl (some (.int v3), mrow M 1 r4)) := by
    have q9 := c_t_next_1 z d M k1
    try simp only [mput, mrow_same, mrow_hit, mrow_miss, mrow_sw, idr_eq, ne_eq, Nat.reduceEqDiff, not_false_eq_true, Nat.reduceLT, reduceCtorEq, g2] at q9
    exact q9
  refine G.callV (as := []) (rest := []) (a := 1) oX6_next lk_EvenFinders_Tape_43 (by decide +kernel) rfl rfl ⟨rfl, rfl⟩ (Nat.le_of_ble_eq_true rfl) rfl ⟨Nat.le_of_ble_eq_true rfl, Nat.le_of_ble_eq_true rfl⟩ t5 (fun v9 N9 h6 => ?_) (fun E9 N9 h6 => by cases h6)
  cases h6
  show G z mX6_number (d + 1) 0 0 4 [some (.ref 1), some (.int x1), some (.int x2), none] [.int v3] (mrow M 1 r4) Q
  refine G.sl [(.pop, 1, 0, 0, 0, 0), (.aload_n 0, 1, 0, 0, 0, 0), (.getfield 37, 3, 5, 2, 3, 0)] [] (pc2 := 9) (ls2 := [some (.ref 1), some (.int x1), some (.int x2), none]) (st2 := [.int (r4 2)]) (M2 := mrow M 1 r4) (Ps := []) (by decide +kernel) rfl rfl trivial ?_
  refine G.if_eq (off := (5)) (tgt := 14) (by decide +kernel) rfl (fun c7 => ?_) (fun c7 => ?_)
  · skip
    rw [if_pos c7] at hk
    refine G.sl [(.iconst 0, 1, 0, 0, 0, nI 0), (.istore_n 3, 1, 3, 0, 0, 0)] [] (pc2 := 16) (ls2 := [some (.ref 1), some (.int x1), some (.int x2), some (.int (nI 0))]) (st2 := []) (M2 := mrow M 1 r4) (Ps := []) (by decide +kernel) rfl rfl trivial ?_
    obtain ⟨k15, hk⟩ := hk
    refine G.mem (M' := mrow (mrow M 1 r4) 1 ((mrow M 1 r4).1 1)) (by simp only [mrow_self]) ?_
    refine lp_t_number_1_16 z d (mrow M 1 r4) Q x1 x2 FU (nI 0) ((mrow M 1 r4).1 1) (by first | (simp only [mput, mrow_same, mrow_hit, mrow_miss, mrow_sw, idr_eq, ne_eq, Nat.reduceEqDiff, not_false_eq_true, Nat.reduceLT, reduceCtorEq]; exact k15) | exact k15) ?_
    try simp only [mput, mrow_same, mrow_hit, mrow_miss, mrow_sw, idr_eq, ne_eq, Nat.reduceEqDiff, not_false_eq_true, Nat.reduceLT, reduceCtorEq]
    rcases g16 : t_number_16 (M.1 2) x1 x2 FU (nI 0) r4 with ⟨v17, r18⟩
    show G z mX6_number (d + 1) 0 0 79 [some (.ref 1), some (.int x1), some (.int x2), some (.int v17)] [] (mrow M 1 r18) Q
    refine G.sl [(.aload_n 0, 1, 0, 0, 0, 0), (.getfield 34, 3, 5, 6, 13, 0), (.aload_n 0, 1, 0, 0, 0, 0), (.getfield 40, 3, 5, 4, 7, 0)] [] (pc2 := 87) (ls2 := [some (.ref 1), some (.int x1), some (.int x2), some (.int v17)]) (st2 := [.int (r18 4), .int (r18 6)]) (M2 := mrow M 1 r18) (Ps := []) (by decide +kernel) rfl rfl trivial ?_
    refine G.ic_ne (off := (15)) (tgt := 102) (by decide +kernel) rfl (fun c19 => ?_) (fun c19 => ?_)
    · skip
      refine G.sl [(.iload_n 3, 1, 3, 0, 0, 0), (.iload_n 1, 1, 1, 0, 0, 0)] [] (pc2 := 104) (ls2 := [some (.ref 1), some (.int x1), some (.int x2), some (.int v17)]) (st2 := [.int x1, .int v17]) (M2 := mrow M 1 r18) (Ps := []) (by decide +kernel) rfl rfl trivial ?_
      refine G.ic_lt (off := (8)) (tgt := 112) (by decide +kernel) rfl (fun c20 => ?_) (fun c20 => ?_)
      · skip
        refine G.sl [(.aload_n 0, 1, 0, 0, 0, 0), (.iconst 2, 1, 0, 0, 0, nI 2), (.aload_n 0, 1, 0, 0, 0, 0), (.getfield 40, 3, 5, 4, 7, 0)] [] (pc2 := 118) (ls2 := [some (.ref 1), some (.int x1), some (.int x2), some (.int v17)]) (st2 := [.int (r18 4), .int (nI 2), .ref 1]) (M2 := mrow M 1 r18) (Ps := []) (by decide +kernel) rfl rfl trivial ?_
        rcases g22 : t_fail r18 (nI 2) (r18 4) with ⟨u23, r24⟩
        have t25 : GM z mX6_fail (d) [.ref 1, .int (nI 2), .int (r18 4)] (mrow M 1 r18) (fun rs => rs = .inl (none, mrow M 1 r24)) := by
          have q9 := c_t_fail_1 z d (mrow M 1 r18) (nI 2) (r18 4)
          try simp only [mput, mrow_same, mrow_hit, mrow_miss, mrow_sw, idr_eq, ne_eq, Nat.reduceEqDiff, not_false_eq_true, Nat.reduceLT, reduceCtorEq, g22] at q9
          exact q9
        refine G.callV (as := [.int (nI 2), .int (r18 4)]) (rest := []) (a := 1) oX6_fail lk_EvenFinders_Tape_47 (by decide +kernel) rfl rfl ⟨rfl, rfl⟩ (Nat.le_of_ble_eq_true rfl) rfl ⟨Nat.le_of_ble_eq_true rfl, Nat.le_of_ble_eq_true rfl⟩ t25 (fun v9 N9 h26 => ?_) (fun E9 N9 h26 => by cases h26)
        cases h26
        show G z mX6_number (d + 1) 0 0 121 [some (.ref 1), some (.int x1), some (.int x2), some (.int v17)] [] (mrow M 1 r24) Q
        refine G.sl [(.iload_n 3, 1, 3, 0, 0, 0)] [] (pc2 := 122) (ls2 := [some (.ref 1), some (.int x1), some (.int x2), some (.int v17)]) (st2 := [.int v17]) (M2 := mrow M 1 r24) (Ps := []) (by decide +kernel) rfl rfl trivial ?_
        exact G.reti (by decide +kernel) rfl rfl (Nat.le_of_ble_eq_true rfl) (Nat.le_of_ble_eq_true rfl) ((by rw [hQ]; simp only [t_number, g2, if_pos c7, g16, if_neg c19, if_pos c20, g22, mrow_self]))
      · skip
        refine G.sl [(.iload_n 3, 1, 3, 0, 0, 0), (.iload_n 2, 1, 2, 0, 0, 0)] [] (pc2 := 109) (ls2 := [some (.ref 1), some (.int x1), some (.int x2), some (.int v17)]) (st2 := [.int x2, .int v17]) (M2 := mrow M 1 r18) (Ps := []) (by decide +kernel) rfl rfl trivial ?_
        refine G.ic_le (off := (12)) (tgt := 121) (by decide +kernel) rfl (fun c27 => ?_) (fun c27 => ?_)
        · skip
          refine G.sl [(.iload_n 3, 1, 3, 0, 0, 0)] [] (pc2 := 122) (ls2 := [some (.ref 1), some (.int x1), some (.int x2), some (.int v17)]) (st2 := [.int v17]) (M2 := mrow M 1 r18) (Ps := []) (by decide +kernel) rfl rfl trivial ?_
          exact G.reti (by decide +kernel) rfl rfl (Nat.le_of_ble_eq_true rfl) (Nat.le_of_ble_eq_true rfl) ((by rw [hQ]; simp only [t_number, g2, if_pos c7, g16, if_neg c19, if_neg c20, if_pos c27, mrow_self]))
        · skip
          refine G.sl [(.aload_n 0, 1, 0, 0, 0, 0), (.iconst 2, 1, 0, 0, 0, nI 2), (.aload_n 0, 1, 0, 0, 0, 0), (.getfield 40, 3, 5, 4, 7, 0)] [] (pc2 := 118) (ls2 := [some (.ref 1), some (.int x1), some (.int x2), some (.int v17)]) (st2 := [.int (r18 4), .int (nI 2), .ref 1]) (M2 := mrow M 1 r18) (Ps := []) (by decide +kernel) rfl rfl trivial ?_
          rcases g29 : t_fail r18 (nI 2) (r18 4) with ⟨u30, r31⟩
          have t32 : GM z mX6_fail (d) [.ref 1, .int (nI 2), .int (r18 4)] (mrow M 1 r18) (fun rs => rs = .inl (none, mrow M 1 r31)) := by
            have q9 := c_t_fail_1 z d (mrow M 1 r18) (nI 2) (r18 4)
            try simp only [mput, mrow_same, mrow_hit, mrow_miss, mrow_sw, idr_eq, ne_eq, Nat.reduceEqDiff, not_false_eq_true, Nat.reduceLT, reduceCtorEq, g29] at q9
            exact q9
          refine G.callV (as := [.int (nI 2), .int (r18 4)]) (rest := []) (a := 1) oX6_fail lk_EvenFinders_Tape_47 (by decide +kernel) rfl rfl ⟨rfl, rfl⟩ (Nat.le_of_ble_eq_true rfl) rfl ⟨Nat.le_of_ble_eq_true rfl, Nat.le_of_ble_eq_true rfl⟩ t32 (fun v9 N9 h33 => ?_) (fun E9 N9 h33 => by cases h33)
          cases h33
          show G z mX6_number (d + 1) 0 0 121 [some (.ref 1), some (.int x1), some (.int x2), some (.int v17)] [] (mrow M 1 r31) Q
          refine G.sl [(.iload_n 3, 1, 3, 0, 0, 0)] [] (pc2 := 122) (ls2 := [some (.ref 1), some (.int x1), some (.int x2), some (.int v17)]) (st2 := [.int v17]) (M2 := mrow M 1 r31) (Ps := []) (by decide +kernel) rfl rfl trivial ?_
          exact G.reti (by decide +kernel) rfl rfl (Nat.le_of_ble_eq_true rfl) (Nat.le_of_ble_eq_true rfl) ((by rw [hQ]; simp only [t_number, g2, if_pos c7, g16, if_neg c19, if_neg c20, if_neg c27, g29, mrow_self]))
    · skip
      refine G.sl [(.aload_n 0, 1, 0, 0, 0, 0), (.iconst 1, 1, 0, 0, 0, nI 1), (.aload_n 0, 1, 0, 0, 0, 0), (.getfield 40, 3, 5, 4, 7, 0)] [] (pc2 := 96) (ls2 := [some (.ref 1), some (.int x1), some (.int x2), some (.int v17)]) (st2 := [.int (r18 4), .int (nI 1), .ref 1]) (M2 := mrow M 1 r18) (Ps := []) (by decide +kernel) rfl rfl trivial ?_
      rcases g35 : t_fail r18 (nI 1) (r18 4) with ⟨u36, r37⟩
      have t38 : GM z mX6_fail (d) [.ref 1, .int (nI 1), .int (r18 4)] (mrow M 1 r18) (fun rs => rs = .inl (none, mrow M 1 r37)) := by
        have q9 := c_t_fail_1 z d (mrow M 1 r18) (nI 1) (r18 4)
        try simp only [mput, mrow_same, mrow_hit, mrow_miss, mrow_sw, idr_eq, ne_eq, Nat.reduceEqDiff, not_false_eq_true, Nat.reduceLT, reduceCtorEq, g35] at q9
        exact q9
      refine G.callV (as := [.int (nI 1), .int (r18 4)]) (rest := []) (a := 1) oX6_fail lk_EvenFinders_Tape_47 (by decide +kernel) rfl rfl ⟨rfl, rfl⟩ (Nat.le_of_ble_eq_true rfl) rfl ⟨Nat.le_of_ble_eq_true rfl, Nat.le_of_ble_eq_true rfl⟩ t38 (fun v9 N9 h39 => ?_) (fun E9 N9 h39 => by cases h39)
      cases h39
      show G z mX6_number (d + 1) 0 0 99 [some (.ref 1), some (.int x1), some (.int x2), some (.int v17)] [] (mrow M 1 r37) Q
      refine G.sl [(.goto 22, 3, 121, 0, 0, 0), (.iload_n 3, 1, 3, 0, 0, 0)] [] (pc2 := 122) (ls2 := [some (.ref 1), some (.int x1), some (.int x2), some (.int v17)]) (st2 := [.int v17]) (M2 := mrow M 1 r37) (Ps := []) (by decide +kernel) rfl rfl trivial ?_
      exact G.reti (by decide +kernel) rfl rfl (Nat.le_of_ble_eq_true rfl) (Nat.le_of_ble_eq_true rfl) ((by rw [hQ]; simp only [t_number, g2, if_pos c7, g16, if_pos c19, g35, mrow_self]))
  · skip
    rw [if_neg c7] at hk
    refine G.sl [(.iconst 0, 1, 0, 0, 0, nI 0)] [] (pc2 := 13) (ls2 := [some (.ref 1), some (.int x1), some (.int x2), none]) (st2 := [.int (nI 0)]) (M2 := mrow M 1 r4) (Ps := []) (by decide +kernel) rfl rfl trivial ?_
    exact G.reti (by decide +kernel) rfl rfl (Nat.le_of_ble_eq_true rfl) (Nat.le_of_ble_eq_true rfl) ((by rw [hQ]; simp only [t_number, g2, if_neg c7, mrow_self]))
theorem v_isFull_01 (Rtown : Nat → Int32) (x1 : Int32) : v_isFull Rtown x1 = 0 ∨ v_isFull Rtown x1 = 1 := by
  unfold v_isFull
  repeat' split
  all_goals first | exact Or.inl rfl | exact Or.inr rfl
set_option maxHeartbeats 4000000 in
set_option maxRecDepth 3000 in
theorem c_v_isFull_12 (z : Zp) (d : Nat) (M : Mem) (x1 : Int32) : GM z mX7_isFull (d) [.ref 12, .int x1] M (fun rs => rs = .inl (some (.int (v_isFull (M.1 12) x1)), M)) := by
  refine GM.of oX7_isFull.1 (Nat.le_of_ble_eq_true rfl) ?_
  show G z mX7_isFull (d) 0 0 0 [some (.ref 12), some (.int x1)] [] M _
  obtain ⟨Q, hQ⟩ : ∃ Q : Rs → Prop, Q = (fun rs => rs = .inl (some (.int (v_isFull (M.1 12) x1)), M)) := ⟨_, rfl⟩
  rw [← hQ]
  refine G.sl [(.iload_n 1, 1, 1, 0, 0, 0)] [] (pc2 := 1) (ls2 := [some (.ref 12), some (.int x1)]) (st2 := [.int x1]) (M2 := M) (Ps := []) (by decide +kernel) rfl rfl trivial ?_
  by_cases c1 : x1 = nI 0
  · skip
    refine G.tabIn (dflt := 63) (lo := 0) (hi := 3) (offs := #[31, 33, 63, 48]) (len := 31) (off := 31) (tgt := 32) (by decide +kernel) (by rw [c1]; decide) (by rw [c1]; decide) (by rw [c1]; rfl) rfl ?_
    refine G.sl [(.iconst 0, 1, 0, 0, 0, nI 0)] [] (pc2 := 33) (ls2 := [some (.ref 12), some (.int x1)]) (st2 := [.int (nI 0)]) (M2 := M) (Ps := []) (by decide +kernel) rfl rfl trivial ?_
    exact G.reti (by decide +kernel) rfl rfl (Nat.le_of_ble_eq_true rfl) (Nat.le_of_ble_eq_true rfl) ((by rw [hQ]; simp only [v_isFull, if_pos c1, mrow_self]))
  · skip
    by_cases c2 : x1 = nI 1
    · skip
      refine G.tabIn (dflt := 63) (lo := 0) (hi := 3) (offs := #[31, 33, 63, 48]) (len := 31) (off := 33) (tgt := 34) (by decide +kernel) (by rw [c2]; decide) (by rw [c2]; decide) (by rw [c2]; rfl) rfl ?_
      refine G.sl [(.aload_n 0, 1, 0, 0, 0, 0), (.getfield 40, 3, 6, 1, 18, 0), (.bipush 12, 2, 0, 0, 0, nI 12)] [] (pc2 := 40) (ls2 := [some (.ref 12), some (.int x1)]) (st2 := [.int (nI 12), .int (M.1 12 1)]) (M2 := M) (Ps := []) (by decide +kernel) rfl rfl trivial ?_
      refine G.ic_lt (off := (7)) (tgt := 47) (by decide +kernel) rfl (fun c3 => ?_) (fun c3 => ?_)
      · skip
        refine G.sl [(.iconst 0, 1, 0, 0, 0, nI 0)] [] (pc2 := 48) (ls2 := [some (.ref 12), some (.int x1)]) (st2 := [.int (nI 0)]) (M2 := M) (Ps := []) (by decide +kernel) rfl rfl trivial ?_
        exact G.reti (by decide +kernel) rfl rfl (Nat.le_of_ble_eq_true rfl) (Nat.le_of_ble_eq_true rfl) ((by rw [hQ]; simp only [v_isFull, if_neg c1, if_pos c2, if_pos c3, mrow_self]))
      · skip
        refine G.sl [(.iconst 1, 1, 0, 0, 0, nI 1), (.goto 4, 3, 48, 0, 0, 0)] [] (pc2 := 48) (ls2 := [some (.ref 12), some (.int x1)]) (st2 := [.int (nI 1)]) (M2 := M) (Ps := []) (by decide +kernel) rfl rfl trivial ?_
        exact G.reti (by decide +kernel) rfl rfl (Nat.le_of_ble_eq_true rfl) (Nat.le_of_ble_eq_true rfl) ((by rw [hQ]; simp only [v_isFull, if_neg c1, if_pos c2, if_neg c3, mrow_self]))
    · skip
      by_cases c4 : x1 = nI 2
      · skip
        refine G.tabIn (dflt := 63) (lo := 0) (hi := 3) (offs := #[31, 33, 63, 48]) (len := 31) (off := 63) (tgt := 64) (by decide +kernel) (by rw [c4]; decide) (by rw [c4]; decide) (by rw [c4]; rfl) rfl ?_
        refine G.sl [(.aload_n 0, 1, 0, 0, 0, 0), (.getfield 43, 3, 6, 2, 22, 0), (.bipush 10, 2, 0, 0, 0, nI 10)] [] (pc2 := 70) (ls2 := [some (.ref 12), some (.int x1)]) (st2 := [.int (nI 10), .int (M.1 12 2)]) (M2 := M) (Ps := []) (by decide +kernel) rfl rfl trivial ?_
        refine G.ic_lt (off := (7)) (tgt := 77) (by decide +kernel) rfl (fun c5 => ?_) (fun c5 => ?_)
        · skip
          refine G.sl [(.iconst 0, 1, 0, 0, 0, nI 0)] [] (pc2 := 78) (ls2 := [some (.ref 12), some (.int x1)]) (st2 := [.int (nI 0)]) (M2 := M) (Ps := []) (by decide +kernel) rfl rfl trivial ?_
          exact G.reti (by decide +kernel) rfl rfl (Nat.le_of_ble_eq_true rfl) (Nat.le_of_ble_eq_true rfl) ((by rw [hQ]; simp only [v_isFull, if_neg c1, if_neg c2, if_pos c4, if_pos c5, mrow_self]))
        · skip
          refine G.sl [(.iconst 1, 1, 0, 0, 0, nI 1), (.goto 4, 3, 78, 0, 0, 0)] [] (pc2 := 78) (ls2 := [some (.ref 12), some (.int x1)]) (st2 := [.int (nI 1)]) (M2 := M) (Ps := []) (by decide +kernel) rfl rfl trivial ?_
          exact G.reti (by decide +kernel) rfl rfl (Nat.le_of_ble_eq_true rfl) (Nat.le_of_ble_eq_true rfl) ((by rw [hQ]; simp only [v_isFull, if_neg c1, if_neg c2, if_pos c4, if_neg c5, mrow_self]))
      · skip
        by_cases c6 : x1 = nI 3
        · skip
          refine G.tabIn (dflt := 63) (lo := 0) (hi := 3) (offs := #[31, 33, 63, 48]) (len := 31) (off := 48) (tgt := 49) (by decide +kernel) (by rw [c6]; decide) (by rw [c6]; decide) (by rw [c6]; rfl) rfl ?_
          refine G.sl [(.aload_n 0, 1, 0, 0, 0, 0), (.getfield 46, 3, 6, 3, 30, 0), (.bipush 6, 2, 0, 0, 0, nI 6)] [] (pc2 := 55) (ls2 := [some (.ref 12), some (.int x1)]) (st2 := [.int (nI 6), .int (M.1 12 3)]) (M2 := M) (Ps := []) (by decide +kernel) rfl rfl trivial ?_
          refine G.ic_lt (off := (7)) (tgt := 62) (by decide +kernel) rfl (fun c7 => ?_) (fun c7 => ?_)
          · skip
            refine G.sl [(.iconst 0, 1, 0, 0, 0, nI 0)] [] (pc2 := 63) (ls2 := [some (.ref 12), some (.int x1)]) (st2 := [.int (nI 0)]) (M2 := M) (Ps := []) (by decide +kernel) rfl rfl trivial ?_
            exact G.reti (by decide +kernel) rfl rfl (Nat.le_of_ble_eq_true rfl) (Nat.le_of_ble_eq_true rfl) ((by rw [hQ]; simp only [v_isFull, if_neg c1, if_neg c2, if_neg c4, if_pos c6, if_pos c7, mrow_self]))
          · skip
            refine G.sl [(.iconst 1, 1, 0, 0, 0, nI 1), (.goto 4, 3, 63, 0, 0, 0)] [] (pc2 := 63) (ls2 := [some (.ref 12), some (.int x1)]) (st2 := [.int (nI 1)]) (M2 := M) (Ps := []) (by decide +kernel) rfl rfl trivial ?_
            exact G.reti (by decide +kernel) rfl rfl (Nat.le_of_ble_eq_true rfl) (Nat.le_of_ble_eq_true rfl) ((by rw [hQ]; simp only [v_isFull, if_neg c1, if_neg c2, if_neg c4, if_pos c6, if_neg c7, mrow_self]))
        · skip
          refine G.tabOut (dflt := 63) (lo := 0) (hi := 3) (offs := #[31, 33, 63, 48]) (len := 31) (tgt := 64) (by decide +kernel) (by have q0 := toInt_ne c1; simp only [toInt_nI0] at q0; have q1 := toInt_ne c2; simp only [toInt_nI1] at q1; have q2 := toInt_ne c4; simp only [toInt_nI2] at q2; have q3 := toInt_ne c6; simp only [toInt_nI3] at q3; omega) rfl ?_
          refine G.sl [(.aload_n 0, 1, 0, 0, 0, 0), (.getfield 43, 3, 6, 2, 22, 0), (.bipush 10, 2, 0, 0, 0, nI 10)] [] (pc2 := 70) (ls2 := [some (.ref 12), some (.int x1)]) (st2 := [.int (nI 10), .int (M.1 12 2)]) (M2 := M) (Ps := []) (by decide +kernel) rfl rfl trivial ?_
          refine G.ic_lt (off := (7)) (tgt := 77) (by decide +kernel) rfl (fun c8 => ?_) (fun c8 => ?_)
          · skip
            refine G.sl [(.iconst 0, 1, 0, 0, 0, nI 0)] [] (pc2 := 78) (ls2 := [some (.ref 12), some (.int x1)]) (st2 := [.int (nI 0)]) (M2 := M) (Ps := []) (by decide +kernel) rfl rfl trivial ?_
            exact G.reti (by decide +kernel) rfl rfl (Nat.le_of_ble_eq_true rfl) (Nat.le_of_ble_eq_true rfl) ((by rw [hQ]; simp only [v_isFull, if_neg c1, if_neg c2, if_neg c4, if_neg c6, if_pos c8, mrow_self]))
          · skip
            refine G.sl [(.iconst 1, 1, 0, 0, 0, nI 1), (.goto 4, 3, 78, 0, 0, 0)] [] (pc2 := 78) (ls2 := [some (.ref 12), some (.int x1)]) (st2 := [.int (nI 1)]) (M2 := M) (Ps := []) (by decide +kernel) rfl rfl trivial ?_
            exact G.reti (by decide +kernel) rfl rfl (Nat.le_of_ble_eq_true rfl) (Nat.le_of_ble_eq_true rfl) ((by rw [hQ]; simp only [v_isFull, if_neg c1, if_neg c2, if_neg c4, if_neg c6, if_neg c8, mrow_self]))
set_option maxHeartbeats 4000000 in
set_option maxRecDepth 3000 in
theorem c_v_readPlaces_12_1 (z : Zp) (d : Nat) (M : Mem) (hk : v_readPlaces_ok (M.1 1) (M.1 2) (M.1 12)) : GM z mX7_readPlaces (d + 2) [.ref 12, .ref 1] M (fun rs => rs = .inl (none, mrow (mrow M 1 ((v_readPlaces (M.1 1) (M.1 2) (M.1 12)).2.1)) 12 ((v_readPlaces (M.1 1) (M.1 2) (M.1 12)).2.2))) := by
  simp only [v_readPlaces_ok] at hk
  refine GM.of oX7_readPlaces.1 (Nat.le_of_ble_eq_true rfl) ?_
  show G z mX7_readPlaces (d + 2) 0 0 0 [some (.ref 12), some (.ref 1), none] [] M _
  obtain ⟨Q, hQ⟩ : ∃ Q : Rs → Prop, Q = (fun rs => rs = .inl (none, mrow (mrow M 1 ((v_readPlaces (M.1 1) (M.1 2) (M.1 12)).2.1)) 12 ((v_readPlaces (M.1 1) (M.1 2) (M.1 12)).2.2))) := ⟨_, rfl⟩
  rw [← hQ]
  refine G.sl [(.aload_n 1, 1, 1, 0, 0, 0), (.iconst 1, 1, 0, 0, 0, nI 1), (.bipush 8, 2, 0, 0, 0, nI 8), (.aload_n 0, 1, 0, 0, 0, 0), (.getfield 36, 3, 6, 0, 14, 0), (.isub, 1, 0, 0, 0, 0)] [] (pc2 := 9) (ls2 := [some (.ref 12), some (.ref 1), none]) (st2 := [.int ((nI 8) - (M.1 12 0)), .int (nI 1), .ref 1]) (M2 := M) (Ps := []) (by decide +kernel) rfl rfl trivial ?_
  obtain ⟨k1, hk⟩ := hk
  rcases g2 : t_number (M.1 1) (M.1 2) (nI 1) ((nI 8) - (M.1 12 0)) with ⟨v3, r4⟩
  have t5 : GM z mX6_number (d + 1) [.ref 1, .int (nI 1), .int ((nI 8) - (M.1 12 0))] M (fun rs => rs = .inl (some (.int v3), mrow M 1 r4)) := by
    have q9 := c_t_number_1 z d M (nI 1) ((nI 8) - (M.1 12 0)) k1
    try simp only [mput, mrow_same, mrow_hit, mrow_miss, mrow_sw, idr_eq, ne_eq, Nat.reduceEqDiff, not_false_eq_true, Nat.reduceLT, reduceCtorEq, g2] at q9
    exact q9
  refine G.callV (as := [.int (nI 1), .int ((nI 8) - (M.1 12 0))]) (rest := []) (a := 1) oX6_number lk_EvenFinders_Town_100 (by decide +kernel) rfl rfl ⟨rfl, rfl⟩ (Nat.le_of_ble_eq_true rfl) rfl ⟨Nat.le_of_ble_eq_true rfl, Nat.le_of_ble_eq_true rfl⟩ t5 (fun v9 N9 h6 => ?_) (fun E9 N9 h6 => by cases h6)
  cases h6
  show G z mX7_readPlaces (d + 2) 0 0 12 [some (.ref 12), some (.ref 1), none] [.int v3] (mrow M 1 r4) Q
  refine G.sl [(.istore_n 2, 1, 2, 0, 0, 0), (.aload_n 1, 1, 1, 0, 0, 0)] [] (pc2 := 14) (ls2 := [some (.ref 12), some (.ref 1), some (.int v3)]) (st2 := [.ref 1]) (M2 := mrow M 1 r4) (Ps := []) (by decide +kernel) rfl rfl trivial ?_
  have t8 : GM z mX6_isFaulty (d + 1) [.ref 1] (mrow M 1 r4) (fun rs => rs = .inl (some (.int (t_isFaulty r4)), mrow M 1 r4)) := by
    have q9 := c_t_isFaulty_1 z (d + 1) (mrow M 1 r4) 
    try simp only [mput, mrow_same, mrow_hit, mrow_miss, mrow_sw, idr_eq, ne_eq, Nat.reduceEqDiff, not_false_eq_true, Nat.reduceLT, reduceCtorEq] at q9
    exact q9
  refine G.callV (as := []) (rest := []) (a := 1) oX6_isFaulty lk_EvenFinders_Town_89 (by decide +kernel) rfl rfl ⟨rfl, rfl⟩ (Nat.le_of_ble_eq_true rfl) rfl ⟨Nat.le_of_ble_eq_true rfl, Nat.le_of_ble_eq_true rfl⟩ t8 (fun v9 N9 h9 => ?_) (fun E9 N9 h9 => by cases h9)
  cases h9
  show G z mX7_readPlaces (d + 2) 0 0 17 [some (.ref 12), some (.ref 1), some (.int v3)] [.int (t_isFaulty r4)] (mrow M 1 r4) Q
  refine G.if_ne (off := (13)) (tgt := 30) (by decide +kernel) rfl (fun c10 => ?_) (fun c10 => ?_)
  · skip
    refine G.mem (M' := mrow (mrow M 1 r4) 12 (M.1 12)) (((mrow_id (N := mrow M 1 r4) (c := 12) (f := M.1 12) (by first | rfl | (simp only [mput, mrow_same, mrow_hit, mrow_miss, mrow_sw, idr_eq, ne_eq, Nat.reduceEqDiff, not_false_eq_true, Nat.reduceLT, reduceCtorEq]; done))).symm).trans (by first | rfl | (simp only [mput, mrow_same, mrow_hit, mrow_miss, mrow_sw, idr_eq, ne_eq, Nat.reduceEqDiff, not_false_eq_true, Nat.reduceLT, reduceCtorEq]; done))) ?_
    exact G.retv (by decide +kernel) rfl (Nat.le_of_ble_eq_true rfl) (Nat.le_of_ble_eq_true rfl) ((by rw [hQ]; simp only [v_readPlaces, g2, if_neg c10, mrow_self]))
  · skip
    refine G.sl [(.aload_n 0, 1, 0, 0, 0, 0), (.dup, 1, 0, 0, 0, 0), (.getfield 36, 3, 6, 0, 14, 0), (.iload_n 2, 1, 2, 0, 0, 0), (.iadd, 1, 0, 0, 0, 0), (.putfield 36, 3, 6, 0, 14, 0)] [] (pc2 := 30) (ls2 := [some (.ref 12), some (.ref 1), some (.int v3)]) (st2 := []) (M2 := mput (mrow M 1 r4) 12 0 ((M.1 12 0) + v3)) (Ps := []) (by decide +kernel) rfl rfl trivial ?_
    refine G.mem (M' := mrow (mrow M 1 r4) 12 (upd (M.1 12) 0 ((M.1 12 0) + v3))) (by first | rfl | (simp only [mput, mrow_same, mrow_hit, mrow_miss, mrow_sw, idr_eq, ne_eq, Nat.reduceEqDiff, not_false_eq_true, Nat.reduceLT, reduceCtorEq]; done)) ?_
    exact G.retv (by decide +kernel) rfl (Nat.le_of_ble_eq_true rfl) (Nat.le_of_ble_eq_true rfl) ((by rw [hQ]; simp only [v_readPlaces, g2, if_pos c10, mrow_self]))
set_option maxHeartbeats 4000000 in
set_option maxRecDepth 3000 in
theorem c_v_readRoad_12_1 (z : Zp) (d : Nat) (M : Mem) (hk : v_readRoad_ok (M.1 1) (M.1 2) (M.1 12) (M.1 13) (M.1 14) (M.1 15)) : GM z mX7_readRoad (d + 2) [.ref 12, .ref 1] M (fun rs => rs = .inl (none, mrow (mrow (mrow (mrow (mrow M 1 ((v_readRoad (M.1 1) (M.1 2) (M.1 12) (M.1 13) (M.1 14) (M.1 15)).2.1)) 12 ((v_readRoad (M.1 1) (M.1 2) (M.1 12) (M.1 13) (M.1 14) (M.1 15)).2.2.1)) 13 ((v_readRoad (M.1 1) (M.1 2) (M.1 12) (M.1 13) (M.1 14) (M.1 15)).2.2.2.1)) 14 ((v_readRoad (M.1 1) (M.1 2) (M.1 12) (M.1 13) (M.1 14) (M.1 15)).2.2.2.2.1)) 15 ((v_readRoad (M.1 1) (M.1 2) (M.1 12) (M.1 13) (M.1 14) (M.1 15)).2.2.2.2.2))) := by
  simp only [v_readRoad_ok] at hk
  refine GM.of oX7_readRoad.1 (Nat.le_of_ble_eq_true rfl) ?_
  show G z mX7_readRoad (d + 2) 0 0 0 [some (.ref 12), some (.ref 1), none, none, none] [] M _
  obtain ⟨Q, hQ⟩ : ∃ Q : Rs → Prop, Q = (fun rs => rs = .inl (none, mrow (mrow (mrow (mrow (mrow M 1 ((v_readRoad (M.1 1) (M.1 2) (M.1 12) (M.1 13) (M.1 14) (M.1 15)).2.1)) 12 ((v_readRoad (M.1 1) (M.1 2) (M.1 12) (M.1 13) (M.1 14) (M.1 15)).2.2.1)) 13 ((v_readRoad (M.1 1) (M.1 2) (M.1 12) (M.1 13) (M.1 14) (M.1 15)).2.2.2.1)) 14 ((v_readRoad (M.1 1) (M.1 2) (M.1 12) (M.1 13) (M.1 14) (M.1 15)).2.2.2.2.1)) 15 ((v_readRoad (M.1 1) (M.1 2) (M.1 12) (M.1 13) (M.1 14) (M.1 15)).2.2.2.2.2))) := ⟨_, rfl⟩
  rw [← hQ]
  refine G.sl [(.aload_n 1, 1, 1, 0, 0, 0), (.iconst 0, 1, 0, 0, 0, nI 0), (.aload_n 0, 1, 0, 0, 0, 0), (.getfield 36, 3, 6, 0, 14, 0), (.iconst 1, 1, 0, 0, 0, nI 1), (.isub, 1, 0, 0, 0, 0)] [] (pc2 := 8) (ls2 := [some (.ref 12), some (.ref 1), none, none, none]) (st2 := [.int ((M.1 12 0) - (nI 1)), .int (nI 0), .ref 1]) (M2 := M) (Ps := []) (by decide +kernel) rfl rfl trivial ?_
  obtain ⟨k1, hk⟩ := hk
  rcases g2 : t_number (M.1 1) (M.1 2) (nI 0) ((M.1 12 0) - (nI 1)) with ⟨v3, r4⟩
  try simp only [g2] at hk
  have t5 : GM z mX6_number (d + 1) [.ref 1, .int (nI 0), .int ((M.1 12 0) - (nI 1))] M (fun rs => rs = .inl (some (.int v3), mrow M 1 r4)) := by
    have q9 := c_t_number_1 z d M (nI 0) ((M.1 12 0) - (nI 1)) k1
    try simp only [mput, mrow_same, mrow_hit, mrow_miss, mrow_sw, idr_eq, ne_eq, Nat.reduceEqDiff, not_false_eq_true, Nat.reduceLT, reduceCtorEq, g2] at q9
    exact q9
  refine G.callV (as := [.int (nI 0), .int ((M.1 12 0) - (nI 1))]) (rest := []) (a := 1) oX6_number lk_EvenFinders_Town_100 (by decide +kernel) rfl rfl ⟨rfl, rfl⟩ (Nat.le_of_ble_eq_true rfl) rfl ⟨Nat.le_of_ble_eq_true rfl, Nat.le_of_ble_eq_true rfl⟩ t5 (fun v9 N9 h6 => ?_) (fun E9 N9 h6 => by cases h6)
  cases h6
  show G z mX7_readRoad (d + 2) 0 0 11 [some (.ref 12), some (.ref 1), none, none, none] [.int v3] (mrow M 1 r4) Q
  refine G.sl [(.istore_n 2, 1, 2, 0, 0, 0), (.aload_n 1, 1, 1, 0, 0, 0), (.iconst 0, 1, 0, 0, 0, nI 0), (.aload_n 0, 1, 0, 0, 0, 0), (.getfield 36, 3, 6, 0, 14, 0), (.iconst 1, 1, 0, 0, 0, nI 1), (.isub, 1, 0, 0, 0, 0)] [] (pc2 := 20) (ls2 := [some (.ref 12), some (.ref 1), some (.int v3), none, none]) (st2 := [.int ((M.1 12 0) - (nI 1)), .int (nI 0), .ref 1]) (M2 := mrow M 1 r4) (Ps := []) (by decide +kernel) rfl rfl trivial ?_
  obtain ⟨k7, hk⟩ := hk
  rcases g8 : t_number r4 (M.1 2) (nI 0) ((M.1 12 0) - (nI 1)) with ⟨v9, r10⟩
  try simp only [g8] at hk
  have t11 : GM z mX6_number (d + 1) [.ref 1, .int (nI 0), .int ((M.1 12 0) - (nI 1))] (mrow M 1 r4) (fun rs => rs = .inl (some (.int v9), mrow M 1 r10)) := by
    have q9 := c_t_number_1 z d (mrow M 1 r4) (nI 0) ((M.1 12 0) - (nI 1)) k7
    try simp only [mput, mrow_same, mrow_hit, mrow_miss, mrow_sw, idr_eq, ne_eq, Nat.reduceEqDiff, not_false_eq_true, Nat.reduceLT, reduceCtorEq, g8] at q9
    exact q9
  refine G.callV (as := [.int (nI 0), .int ((M.1 12 0) - (nI 1))]) (rest := []) (a := 1) oX6_number lk_EvenFinders_Town_100 (by decide +kernel) rfl rfl ⟨rfl, rfl⟩ (Nat.le_of_ble_eq_true rfl) rfl ⟨Nat.le_of_ble_eq_true rfl, Nat.le_of_ble_eq_true rfl⟩ t11 (fun v9 N9 h12 => ?_) (fun E9 N9 h12 => by cases h12)
  cases h12
  show G z mX7_readRoad (d + 2) 0 0 23 [some (.ref 12), some (.ref 1), some (.int v3), none, none] [.int v9] (mrow M 1 r10) Q
  refine G.sl [(.istore_n 3, 1, 3, 0, 0, 0), (.iload_n 2, 1, 2, 0, 0, 0), (.iload_n 3, 1, 3, 0, 0, 0)] [] (pc2 := 26) (ls2 := [some (.ref 12), some (.ref 1), some (.int v3), some (.int v9), none]) (st2 := [.int v9, .int v3]) (M2 := mrow M 1 r10) (Ps := []) (by decide +kernel) rfl rfl trivial ?_
  refine G.ic_ne (off := (12)) (tgt := 38) (by decide +kernel) rfl (fun c13 => ?_) (fun c13 => ?_)
  · skip
    rw [if_neg c13] at hk
    refine G.sl [(.aload_n 1, 1, 1, 0, 0, 0), (.iconst 1, 1, 0, 0, 0, nI 1), (.bipush 9, 2, 0, 0, 0, nI 9)] [] (pc2 := 42) (ls2 := [some (.ref 12), some (.ref 1), some (.int v3), some (.int v9), none]) (st2 := [.int (nI 9), .int (nI 1), .ref 1]) (M2 := mrow M 1 r10) (Ps := []) (by decide +kernel) rfl rfl trivial ?_
    obtain ⟨k14, hk⟩ := hk
    rcases g15 : t_number r10 (M.1 2) (nI 1) (nI 9) with ⟨v16, r17⟩
    try simp only [g15] at hk
    have t18 : GM z mX6_number (d + 1) [.ref 1, .int (nI 1), .int (nI 9)] (mrow M 1 r10) (fun rs => rs = .inl (some (.int v16), mrow M 1 r17)) := by
      have q9 := c_t_number_1 z d (mrow M 1 r10) (nI 1) (nI 9) k14
      try simp only [mput, mrow_same, mrow_hit, mrow_miss, mrow_sw, idr_eq, ne_eq, Nat.reduceEqDiff, not_false_eq_true, Nat.reduceLT, reduceCtorEq, g15] at q9
      exact q9
    refine G.callV (as := [.int (nI 1), .int (nI 9)]) (rest := []) (a := 1) oX6_number lk_EvenFinders_Town_100 (by decide +kernel) rfl rfl ⟨rfl, rfl⟩ (Nat.le_of_ble_eq_true rfl) rfl ⟨Nat.le_of_ble_eq_true rfl, Nat.le_of_ble_eq_true rfl⟩ t18 (fun v9 N9 h19 => ?_) (fun E9 N9 h19 => by cases h19)
    cases h19
    show G z mX7_readRoad (d + 2) 0 0 45 [some (.ref 12), some (.ref 1), some (.int v3), some (.int v9), none] [.int v16] (mrow M 1 r17) Q
    refine G.sl [(.istore 4, 2, 4, 0, 0, 0), (.aload_n 1, 1, 1, 0, 0, 0)] [] (pc2 := 48) (ls2 := [some (.ref 12), some (.ref 1), some (.int v3), some (.int v9), some (.int v16)]) (st2 := [.ref 1]) (M2 := mrow M 1 r17) (Ps := []) (by decide +kernel) rfl rfl trivial ?_
    obtain ⟨k20, hk⟩ := hk
    have t21 : GM z mX6_isFaulty (d + 1) [.ref 1] (mrow M 1 r17) (fun rs => rs = .inl (some (.int (t_isFaulty r17)), mrow M 1 r17)) := by
      have q9 := c_t_isFaulty_1 z (d + 1) (mrow M 1 r17) 
      try simp only [mput, mrow_same, mrow_hit, mrow_miss, mrow_sw, idr_eq, ne_eq, Nat.reduceEqDiff, not_false_eq_true, Nat.reduceLT, reduceCtorEq] at q9
      exact q9
    refine G.callV (as := []) (rest := []) (a := 1) oX6_isFaulty lk_EvenFinders_Town_89 (by decide +kernel) rfl rfl ⟨rfl, rfl⟩ (Nat.le_of_ble_eq_true rfl) rfl ⟨Nat.le_of_ble_eq_true rfl, Nat.le_of_ble_eq_true rfl⟩ t21 (fun v9 N9 h22 => ?_) (fun E9 N9 h22 => by cases h22)
    cases h22
    show G z mX7_readRoad (d + 2) 0 0 51 [some (.ref 12), some (.ref 1), some (.int v3), some (.int v9), some (.int v16)] [.int (t_isFaulty r17)] (mrow M 1 r17) Q
    refine G.if_ne (off := (53)) (tgt := 104) (by decide +kernel) rfl (fun c23 => ?_) (fun c23 => ?_)
    · skip
      rw [if_neg c23] at hk
      refine G.mem (M' := mrow (mrow (mrow (mrow (mrow M 1 r17) 12 (M.1 12)) 13 (M.1 13)) 14 (M.1 14)) 15 (M.1 15)) ((((((mrow_id (N := mrow M 1 r17) (c := 12) (f := M.1 12) (by first | rfl | (simp only [mput, mrow_same, mrow_hit, mrow_miss, mrow_sw, idr_eq, ne_eq, Nat.reduceEqDiff, not_false_eq_true, Nat.reduceLT, reduceCtorEq]; done))).symm).trans (mrow_id (N := mrow (mrow M 1 r17) 12 (M.1 12)) (c := 13) (f := M.1 13) (by first | rfl | (simp only [mput, mrow_same, mrow_hit, mrow_miss, mrow_sw, idr_eq, ne_eq, Nat.reduceEqDiff, not_false_eq_true, Nat.reduceLT, reduceCtorEq]; done))).symm).trans (mrow_id (N := mrow (mrow (mrow M 1 r17) 12 (M.1 12)) 13 (M.1 13)) (c := 14) (f := M.1 14) (by first | rfl | (simp only [mput, mrow_same, mrow_hit, mrow_miss, mrow_sw, idr_eq, ne_eq, Nat.reduceEqDiff, not_false_eq_true, Nat.reduceLT, reduceCtorEq]; done))).symm).trans (mrow_id (N := mrow (mrow (mrow (mrow M 1 r17) 12 (M.1 12)) 13 (M.1 13)) 14 (M.1 14)) (c := 15) (f := M.1 15) (by first | rfl | (simp only [mput, mrow_same, mrow_hit, mrow_miss, mrow_sw, idr_eq, ne_eq, Nat.reduceEqDiff, not_false_eq_true, Nat.reduceLT, reduceCtorEq]; done))).symm).trans (by first | rfl | (simp only [mput, mrow_same, mrow_hit, mrow_miss, mrow_sw, idr_eq, ne_eq, Nat.reduceEqDiff, not_false_eq_true, Nat.reduceLT, reduceCtorEq]; done))) ?_
      exact G.retv (by decide +kernel) rfl (Nat.le_of_ble_eq_true rfl) (Nat.le_of_ble_eq_true rfl) ((by rw [hQ]; simp only [v_readRoad, g2, g8, if_neg c13, g15, if_neg c23, mrow_self]))
    · skip
      rw [if_pos c23] at hk
      refine G.sl [(.aload_n 0, 1, 0, 0, 0, 0), (.getfield 40, 3, 6, 1, 18, 0), (.bipush 12, 2, 0, 0, 0, nI 12)] [] (pc2 := 60) (ls2 := [some (.ref 12), some (.ref 1), some (.int v3), some (.int v9), some (.int v16)]) (st2 := [.int (nI 12), .int (M.1 12 1)]) (M2 := mrow M 1 r17) (Ps := []) (by decide +kernel) rfl rfl trivial ?_
      refine G.ic_ge (off := (44)) (tgt := 104) (by decide +kernel) rfl (fun c24 => ?_) (fun c24 => ?_)
      · skip
        rw [if_pos c24] at hk
        refine G.mem (M' := mrow (mrow (mrow (mrow (mrow M 1 r17) 12 (M.1 12)) 13 (M.1 13)) 14 (M.1 14)) 15 (M.1 15)) ((((((mrow_id (N := mrow M 1 r17) (c := 12) (f := M.1 12) (by first | rfl | (simp only [mput, mrow_same, mrow_hit, mrow_miss, mrow_sw, idr_eq, ne_eq, Nat.reduceEqDiff, not_false_eq_true, Nat.reduceLT, reduceCtorEq]; done))).symm).trans (mrow_id (N := mrow (mrow M 1 r17) 12 (M.1 12)) (c := 13) (f := M.1 13) (by first | rfl | (simp only [mput, mrow_same, mrow_hit, mrow_miss, mrow_sw, idr_eq, ne_eq, Nat.reduceEqDiff, not_false_eq_true, Nat.reduceLT, reduceCtorEq]; done))).symm).trans (mrow_id (N := mrow (mrow (mrow M 1 r17) 12 (M.1 12)) 13 (M.1 13)) (c := 14) (f := M.1 14) (by first | rfl | (simp only [mput, mrow_same, mrow_hit, mrow_miss, mrow_sw, idr_eq, ne_eq, Nat.reduceEqDiff, not_false_eq_true, Nat.reduceLT, reduceCtorEq]; done))).symm).trans (mrow_id (N := mrow (mrow (mrow (mrow M 1 r17) 12 (M.1 12)) 13 (M.1 13)) 14 (M.1 14)) (c := 15) (f := M.1 15) (by first | rfl | (simp only [mput, mrow_same, mrow_hit, mrow_miss, mrow_sw, idr_eq, ne_eq, Nat.reduceEqDiff, not_false_eq_true, Nat.reduceLT, reduceCtorEq]; done))).symm).trans (by first | rfl | (simp only [mput, mrow_same, mrow_hit, mrow_miss, mrow_sw, idr_eq, ne_eq, Nat.reduceEqDiff, not_false_eq_true, Nat.reduceLT, reduceCtorEq]; done))) ?_
        exact G.retv (by decide +kernel) rfl (Nat.le_of_ble_eq_true rfl) (Nat.le_of_ble_eq_true rfl) ((by rw [hQ]; simp only [v_readRoad, g2, g8, if_neg c13, g15, if_pos c23, if_pos c24, mrow_self]))
      · skip
        rw [if_neg c24] at hk
        obtain ⟨k25, k26, hk⟩ := hk
        refine G.sl [(.aload_n 0, 1, 0, 0, 0, 0), (.getfield 9, 3, 6, 4, 35, 0), (.aload_n 0, 1, 0, 0, 0, 0), (.getfield 40, 3, 6, 1, 18, 0), (.iload_n 2, 1, 2, 0, 0, 0), (.iastore, 1, 0, 0, 0, 0), (.aload_n 0, 1, 0, 0, 0, 0), (.getfield 15, 3, 6, 5, 37, 0), (.aload_n 0, 1, 0, 0, 0, 0), (.getfield 40, 3, 6, 1, 18, 0), (.iload_n 3, 1, 3, 0, 0, 0), (.iastore, 1, 0, 0, 0, 0), (.aload_n 0, 1, 0, 0, 0, 0), (.getfield 18, 3, 6, 6, 39, 0), (.aload_n 0, 1, 0, 0, 0, 0), (.getfield 40, 3, 6, 1, 18, 0), (.iload 4, 2, 4, 0, 0, 0), (.iastore, 1, 0, 0, 0, 0), (.aload_n 0, 1, 0, 0, 0, 0), (.dup, 1, 0, 0, 0, 0), (.getfield 40, 3, 6, 1, 18, 0), (.iconst 1, 1, 0, 0, 0, nI 1), (.iadd, 1, 0, 0, 0, 0), (.putfield 40, 3, 6, 1, 18, 0)] [ix (M.1 12 1), ix (M.1 12 1), ix (M.1 12 1)] (pc2 := 104) (ls2 := [some (.ref 12), some (.ref 1), some (.int v3), some (.int v9), some (.int v16)]) (st2 := []) (M2 := mput (mput (mput (mput (mrow M 1 r17) 13 (ix (M.1 12 1)) v3) 14 (ix (M.1 12 1)) v9) 15 (ix (M.1 12 1)) v16) 12 1 ((M.1 12 1) + (nI 1))) (Ps := [(M.1 12 1) = nI (ix (M.1 12 1)) ∧ (ix (M.1 12 1)) < 12, (M.1 12 1) = nI (ix (M.1 12 1)) ∧ (ix (M.1 12 1)) < 12, (M.1 12 1) = nI (ix (M.1 12 1)) ∧ (ix (M.1 12 1)) < 12]) (by decide +kernel) rfl rfl ⟨⟨(ixE k25), k26⟩, ⟨(ixE k25), k26⟩, ⟨(ixE k25), k26⟩, trivial⟩ ?_
        refine G.mem (M' := mrow (mrow (mrow (mrow (mrow M 1 r17) 12 (upd (M.1 12) 1 ((M.1 12 1) + (nI 1)))) 13 (upd (M.1 13) (ix (M.1 12 1)) v3)) 14 (upd (M.1 14) (ix (M.1 12 1)) v9)) 15 (upd (M.1 15) (ix (M.1 12 1)) v16)) (by first | rfl | (simp only [mput, mrow_same, mrow_hit, mrow_miss, mrow_sw, idr_eq, ne_eq, Nat.reduceEqDiff, not_false_eq_true, Nat.reduceLT, reduceCtorEq]; done)) ?_
        exact G.retv (by decide +kernel) rfl (Nat.le_of_ble_eq_true rfl) (Nat.le_of_ble_eq_true rfl) ((by rw [hQ]; simp only [v_readRoad, g2, g8, if_neg c13, g15, if_pos c23, if_neg c24, mrow_self]))
  · skip
    rw [if_pos c13] at hk
    refine G.sl [(.aload_n 1, 1, 1, 0, 0, 0), (.iconst 2, 1, 0, 0, 0, nI 2), (.aload_n 1, 1, 1, 0, 0, 0), (.getfield 74, 3, 5, 4, 8, 0)] [] (pc2 := 35) (ls2 := [some (.ref 12), some (.ref 1), some (.int v3), some (.int v9), none]) (st2 := [.int (r10 4), .int (nI 2), .ref 1]) (M2 := mrow M 1 r10) (Ps := []) (by decide +kernel) rfl rfl trivial ?_
    obtain ⟨k27, hk⟩ := hk
    rcases g28 : t_fail r10 (nI 2) (r10 4) with ⟨u29, r30⟩
    try simp only [g28] at hk
    have t31 : GM z mX6_fail (d + 1) [.ref 1, .int (nI 2), .int (r10 4)] (mrow M 1 r10) (fun rs => rs = .inl (none, mrow M 1 r30)) := by
      have q9 := c_t_fail_1 z (d + 1) (mrow M 1 r10) (nI 2) (r10 4)
      try simp only [mput, mrow_same, mrow_hit, mrow_miss, mrow_sw, idr_eq, ne_eq, Nat.reduceEqDiff, not_false_eq_true, Nat.reduceLT, reduceCtorEq, g28] at q9
      exact q9
    refine G.callV (as := [.int (nI 2), .int (r10 4)]) (rest := []) (a := 1) oX6_fail lk_EvenFinders_Town_77 (by decide +kernel) rfl rfl ⟨rfl, rfl⟩ (Nat.le_of_ble_eq_true rfl) rfl ⟨Nat.le_of_ble_eq_true rfl, Nat.le_of_ble_eq_true rfl⟩ t31 (fun v9 N9 h32 => ?_) (fun E9 N9 h32 => by cases h32)
    cases h32
    show G z mX7_readRoad (d + 2) 0 0 38 [some (.ref 12), some (.ref 1), some (.int v3), some (.int v9), none] [] (mrow M 1 r30) Q
    refine G.sl [(.aload_n 1, 1, 1, 0, 0, 0), (.iconst 1, 1, 0, 0, 0, nI 1), (.bipush 9, 2, 0, 0, 0, nI 9)] [] (pc2 := 42) (ls2 := [some (.ref 12), some (.ref 1), some (.int v3), some (.int v9), none]) (st2 := [.int (nI 9), .int (nI 1), .ref 1]) (M2 := mrow M 1 r30) (Ps := []) (by decide +kernel) rfl rfl trivial ?_
    obtain ⟨k33, hk⟩ := hk
    rcases g34 : t_number r30 (M.1 2) (nI 1) (nI 9) with ⟨v35, r36⟩
    try simp only [g34] at hk
    have t37 : GM z mX6_number (d + 1) [.ref 1, .int (nI 1), .int (nI 9)] (mrow M 1 r30) (fun rs => rs = .inl (some (.int v35), mrow M 1 r36)) := by
      have q9 := c_t_number_1 z d (mrow M 1 r30) (nI 1) (nI 9) k33
      try simp only [mput, mrow_same, mrow_hit, mrow_miss, mrow_sw, idr_eq, ne_eq, Nat.reduceEqDiff, not_false_eq_true, Nat.reduceLT, reduceCtorEq, g34] at q9
      exact q9
    refine G.callV (as := [.int (nI 1), .int (nI 9)]) (rest := []) (a := 1) oX6_number lk_EvenFinders_Town_100 (by decide +kernel) rfl rfl ⟨rfl, rfl⟩ (Nat.le_of_ble_eq_true rfl) rfl ⟨Nat.le_of_ble_eq_true rfl, Nat.le_of_ble_eq_true rfl⟩ t37 (fun v9 N9 h38 => ?_) (fun E9 N9 h38 => by cases h38)
    cases h38
    show G z mX7_readRoad (d + 2) 0 0 45 [some (.ref 12), some (.ref 1), some (.int v3), some (.int v9), none] [.int v35] (mrow M 1 r36) Q
    refine G.sl [(.istore 4, 2, 4, 0, 0, 0), (.aload_n 1, 1, 1, 0, 0, 0)] [] (pc2 := 48) (ls2 := [some (.ref 12), some (.ref 1), some (.int v3), some (.int v9), some (.int v35)]) (st2 := [.ref 1]) (M2 := mrow M 1 r36) (Ps := []) (by decide +kernel) rfl rfl trivial ?_
    obtain ⟨k39, hk⟩ := hk
    have t40 : GM z mX6_isFaulty (d + 1) [.ref 1] (mrow M 1 r36) (fun rs => rs = .inl (some (.int (t_isFaulty r36)), mrow M 1 r36)) := by
      have q9 := c_t_isFaulty_1 z (d + 1) (mrow M 1 r36) 
      try simp only [mput, mrow_same, mrow_hit, mrow_miss, mrow_sw, idr_eq, ne_eq, Nat.reduceEqDiff, not_false_eq_true, Nat.reduceLT, reduceCtorEq] at q9
      exact q9
    refine G.callV (as := []) (rest := []) (a := 1) oX6_isFaulty lk_EvenFinders_Town_89 (by decide +kernel) rfl rfl ⟨rfl, rfl⟩ (Nat.le_of_ble_eq_true rfl) rfl ⟨Nat.le_of_ble_eq_true rfl, Nat.le_of_ble_eq_true rfl⟩ t40 (fun v9 N9 h41 => ?_) (fun E9 N9 h41 => by cases h41)
    cases h41
    show G z mX7_readRoad (d + 2) 0 0 51 [some (.ref 12), some (.ref 1), some (.int v3), some (.int v9), some (.int v35)] [.int (t_isFaulty r36)] (mrow M 1 r36) Q
    refine G.if_ne (off := (53)) (tgt := 104) (by decide +kernel) rfl (fun c42 => ?_) (fun c42 => ?_)
    · skip
      rw [if_neg c42] at hk
      refine G.mem (M' := mrow (mrow (mrow (mrow (mrow M 1 r36) 12 (M.1 12)) 13 (M.1 13)) 14 (M.1 14)) 15 (M.1 15)) ((((((mrow_id (N := mrow M 1 r36) (c := 12) (f := M.1 12) (by first | rfl | (simp only [mput, mrow_same, mrow_hit, mrow_miss, mrow_sw, idr_eq, ne_eq, Nat.reduceEqDiff, not_false_eq_true, Nat.reduceLT, reduceCtorEq]; done))).symm).trans (mrow_id (N := mrow (mrow M 1 r36) 12 (M.1 12)) (c := 13) (f := M.1 13) (by first | rfl | (simp only [mput, mrow_same, mrow_hit, mrow_miss, mrow_sw, idr_eq, ne_eq, Nat.reduceEqDiff, not_false_eq_true, Nat.reduceLT, reduceCtorEq]; done))).symm).trans (mrow_id (N := mrow (mrow (mrow M 1 r36) 12 (M.1 12)) 13 (M.1 13)) (c := 14) (f := M.1 14) (by first | rfl | (simp only [mput, mrow_same, mrow_hit, mrow_miss, mrow_sw, idr_eq, ne_eq, Nat.reduceEqDiff, not_false_eq_true, Nat.reduceLT, reduceCtorEq]; done))).symm).trans (mrow_id (N := mrow (mrow (mrow (mrow M 1 r36) 12 (M.1 12)) 13 (M.1 13)) 14 (M.1 14)) (c := 15) (f := M.1 15) (by first | rfl | (simp only [mput, mrow_same, mrow_hit, mrow_miss, mrow_sw, idr_eq, ne_eq, Nat.reduceEqDiff, not_false_eq_true, Nat.reduceLT, reduceCtorEq]; done))).symm).trans (by first | rfl | (simp only [mput, mrow_same, mrow_hit, mrow_miss, mrow_sw, idr_eq, ne_eq, Nat.reduceEqDiff, not_false_eq_true, Nat.reduceLT, reduceCtorEq]; done))) ?_
      exact G.retv (by decide +kernel) rfl (Nat.le_of_ble_eq_true rfl) (Nat.le_of_ble_eq_true rfl) ((by rw [hQ]; simp only [v_readRoad, g2, g8, if_pos c13, g28, g34, if_neg c42, mrow_self]))
    · skip
      rw [if_pos c42] at hk
      refine G.sl [(.aload_n 0, 1, 0, 0, 0, 0), (.getfield 40, 3, 6, 1, 18, 0), (.bipush 12, 2, 0, 0, 0, nI 12)] [] (pc2 := 60) (ls2 := [some (.ref 12), some (.ref 1), some (.int v3), some (.int v9), some (.int v35)]) (st2 := [.int (nI 12), .int (M.1 12 1)]) (M2 := mrow M 1 r36) (Ps := []) (by decide +kernel) rfl rfl trivial ?_
      refine G.ic_ge (off := (44)) (tgt := 104) (by decide +kernel) rfl (fun c43 => ?_) (fun c43 => ?_)
      · skip
        rw [if_pos c43] at hk
        refine G.mem (M' := mrow (mrow (mrow (mrow (mrow M 1 r36) 12 (M.1 12)) 13 (M.1 13)) 14 (M.1 14)) 15 (M.1 15)) ((((((mrow_id (N := mrow M 1 r36) (c := 12) (f := M.1 12) (by first | rfl | (simp only [mput, mrow_same, mrow_hit, mrow_miss, mrow_sw, idr_eq, ne_eq, Nat.reduceEqDiff, not_false_eq_true, Nat.reduceLT, reduceCtorEq]; done))).symm).trans (mrow_id (N := mrow (mrow M 1 r36) 12 (M.1 12)) (c := 13) (f := M.1 13) (by first | rfl | (simp only [mput, mrow_same, mrow_hit, mrow_miss, mrow_sw, idr_eq, ne_eq, Nat.reduceEqDiff, not_false_eq_true, Nat.reduceLT, reduceCtorEq]; done))).symm).trans (mrow_id (N := mrow (mrow (mrow M 1 r36) 12 (M.1 12)) 13 (M.1 13)) (c := 14) (f := M.1 14) (by first | rfl | (simp only [mput, mrow_same, mrow_hit, mrow_miss, mrow_sw, idr_eq, ne_eq, Nat.reduceEqDiff, not_false_eq_true, Nat.reduceLT, reduceCtorEq]; done))).symm).trans (mrow_id (N := mrow (mrow (mrow (mrow M 1 r36) 12 (M.1 12)) 13 (M.1 13)) 14 (M.1 14)) (c := 15) (f := M.1 15) (by first | rfl | (simp only [mput, mrow_same, mrow_hit, mrow_miss, mrow_sw, idr_eq, ne_eq, Nat.reduceEqDiff, not_false_eq_true, Nat.reduceLT, reduceCtorEq]; done))).symm).trans (by first | rfl | (simp only [mput, mrow_same, mrow_hit, mrow_miss, mrow_sw, idr_eq, ne_eq, Nat.reduceEqDiff, not_false_eq_true, Nat.reduceLT, reduceCtorEq]; done))) ?_
        exact G.retv (by decide +kernel) rfl (Nat.le_of_ble_eq_true rfl) (Nat.le_of_ble_eq_true rfl) ((by rw [hQ]; simp only [v_readRoad, g2, g8, if_pos c13, g28, g34, if_pos c42, if_pos c43, mrow_self]))
      · skip
        rw [if_neg c43] at hk
        obtain ⟨k44, k45, hk⟩ := hk
        refine G.sl [(.aload_n 0, 1, 0, 0, 0, 0), (.getfield 9, 3, 6, 4, 35, 0), (.aload_n 0, 1, 0, 0, 0, 0), (.getfield 40, 3, 6, 1, 18, 0), (.iload_n 2, 1, 2, 0, 0, 0), (.iastore, 1, 0, 0, 0, 0), (.aload_n 0, 1, 0, 0, 0, 0), (.getfield 15, 3, 6, 5, 37, 0), (.aload_n 0, 1, 0, 0, 0, 0), (.getfield 40, 3, 6, 1, 18, 0), (.iload_n 3, 1, 3, 0, 0, 0), (.iastore, 1, 0, 0, 0, 0), (.aload_n 0, 1, 0, 0, 0, 0), (.getfield 18, 3, 6, 6, 39, 0), (.aload_n 0, 1, 0, 0, 0, 0), (.getfield 40, 3, 6, 1, 18, 0), (.iload 4, 2, 4, 0, 0, 0), (.iastore, 1, 0, 0, 0, 0), (.aload_n 0, 1, 0, 0, 0, 0), (.dup, 1, 0, 0, 0, 0), (.getfield 40, 3, 6, 1, 18, 0), (.iconst 1, 1, 0, 0, 0, nI 1), (.iadd, 1, 0, 0, 0, 0), (.putfield 40, 3, 6, 1, 18, 0)] [ix (M.1 12 1), ix (M.1 12 1), ix (M.1 12 1)] (pc2 := 104) (ls2 := [some (.ref 12), some (.ref 1), some (.int v3), some (.int v9), some (.int v35)]) (st2 := []) (M2 := mput (mput (mput (mput (mrow M 1 r36) 13 (ix (M.1 12 1)) v3) 14 (ix (M.1 12 1)) v9) 15 (ix (M.1 12 1)) v35) 12 1 ((M.1 12 1) + (nI 1))) (Ps := [(M.1 12 1) = nI (ix (M.1 12 1)) ∧ (ix (M.1 12 1)) < 12, (M.1 12 1) = nI (ix (M.1 12 1)) ∧ (ix (M.1 12 1)) < 12, (M.1 12 1) = nI (ix (M.1 12 1)) ∧ (ix (M.1 12 1)) < 12]) (by decide +kernel) rfl rfl ⟨⟨(ixE k44), k45⟩, ⟨(ixE k44), k45⟩, ⟨(ixE k44), k45⟩, trivial⟩ ?_
        refine G.mem (M' := mrow (mrow (mrow (mrow (mrow M 1 r36) 12 (upd (M.1 12) 1 ((M.1 12 1) + (nI 1)))) 13 (upd (M.1 13) (ix (M.1 12 1)) v3)) 14 (upd (M.1 14) (ix (M.1 12 1)) v9)) 15 (upd (M.1 15) (ix (M.1 12 1)) v35)) (by first | rfl | (simp only [mput, mrow_same, mrow_hit, mrow_miss, mrow_sw, idr_eq, ne_eq, Nat.reduceEqDiff, not_false_eq_true, Nat.reduceLT, reduceCtorEq]; done)) ?_
        exact G.retv (by decide +kernel) rfl (Nat.le_of_ble_eq_true rfl) (Nat.le_of_ble_eq_true rfl) ((by rw [hQ]; simp only [v_readRoad, g2, g8, if_pos c13, g28, g34, if_pos c42, if_neg c43, mrow_self]))
set_option maxHeartbeats 4000000 in
set_option maxRecDepth 3000 in
theorem c_v_addThing_12_1 (z : Zp) (d : Nat) (M : Mem) (x2 : Int32) (x3 : Int32) (hk : v_addThing_ok (M.1 1) (M.1 2) (M.1 12) (M.1 16) (M.1 17) (M.1 18) x2 x3) : GM z mX7_addThing (d + 2) [.ref 12, .ref 1, .int x2, .int x3] M (fun rs => rs = .inl (none, mrow (mrow (mrow (mrow (mrow M 1 ((v_addThing (M.1 1) (M.1 2) (M.1 12) (M.1 16) (M.1 17) (M.1 18) x2 x3).2.1)) 12 ((v_addThing (M.1 1) (M.1 2) (M.1 12) (M.1 16) (M.1 17) (M.1 18) x2 x3).2.2.1)) 16 ((v_addThing (M.1 1) (M.1 2) (M.1 12) (M.1 16) (M.1 17) (M.1 18) x2 x3).2.2.2.1)) 17 ((v_addThing (M.1 1) (M.1 2) (M.1 12) (M.1 16) (M.1 17) (M.1 18) x2 x3).2.2.2.2.1)) 18 ((v_addThing (M.1 1) (M.1 2) (M.1 12) (M.1 16) (M.1 17) (M.1 18) x2 x3).2.2.2.2.2))) := by
  simp only [v_addThing_ok] at hk
  refine GM.of oX7_addThing.1 (Nat.le_of_ble_eq_true rfl) ?_
  show G z mX7_addThing (d + 2) 0 0 0 [some (.ref 12), some (.ref 1), some (.int x2), some (.int x3), none] [] M _
  obtain ⟨Q, hQ⟩ : ∃ Q : Rs → Prop, Q = (fun rs => rs = .inl (none, mrow (mrow (mrow (mrow (mrow M 1 ((v_addThing (M.1 1) (M.1 2) (M.1 12) (M.1 16) (M.1 17) (M.1 18) x2 x3).2.1)) 12 ((v_addThing (M.1 1) (M.1 2) (M.1 12) (M.1 16) (M.1 17) (M.1 18) x2 x3).2.2.1)) 16 ((v_addThing (M.1 1) (M.1 2) (M.1 12) (M.1 16) (M.1 17) (M.1 18) x2 x3).2.2.2.1)) 17 ((v_addThing (M.1 1) (M.1 2) (M.1 12) (M.1 16) (M.1 17) (M.1 18) x2 x3).2.2.2.2.1)) 18 ((v_addThing (M.1 1) (M.1 2) (M.1 12) (M.1 16) (M.1 17) (M.1 18) x2 x3).2.2.2.2.2))) := ⟨_, rfl⟩
  rw [← hQ]
  refine G.sl [(.aload_n 1, 1, 1, 0, 0, 0), (.iconst 1, 1, 0, 0, 0, nI 1), (.bipush 60, 2, 0, 0, 0, nI 60)] [] (pc2 := 4) (ls2 := [some (.ref 12), some (.ref 1), some (.int x2), some (.int x3), none]) (st2 := [.int (nI 60), .int (nI 1), .ref 1]) (M2 := M) (Ps := []) (by decide +kernel) rfl rfl trivial ?_
  obtain ⟨k1, hk⟩ := hk
  rcases g2 : t_number (M.1 1) (M.1 2) (nI 1) (nI 60) with ⟨v3, r4⟩
  try simp only [g2] at hk
  have t5 : GM z mX6_number (d + 1) [.ref 1, .int (nI 1), .int (nI 60)] M (fun rs => rs = .inl (some (.int v3), mrow M 1 r4)) := by
    have q9 := c_t_number_1 z d M (nI 1) (nI 60) k1
    try simp only [mput, mrow_same, mrow_hit, mrow_miss, mrow_sw, idr_eq, ne_eq, Nat.reduceEqDiff, not_false_eq_true, Nat.reduceLT, reduceCtorEq, g2] at q9
    exact q9
  refine G.callV (as := [.int (nI 1), .int (nI 60)]) (rest := []) (a := 1) oX6_number lk_EvenFinders_Town_100 (by decide +kernel) rfl rfl ⟨rfl, rfl⟩ (Nat.le_of_ble_eq_true rfl) rfl ⟨Nat.le_of_ble_eq_true rfl, Nat.le_of_ble_eq_true rfl⟩ t5 (fun v9 N9 h6 => ?_) (fun E9 N9 h6 => by cases h6)
  cases h6
  show G z mX7_addThing (d + 2) 0 0 7 [some (.ref 12), some (.ref 1), some (.int x2), some (.int x3), none] [.int v3] (mrow M 1 r4) Q
  refine G.sl [(.istore 4, 2, 4, 0, 0, 0), (.aload_n 1, 1, 1, 0, 0, 0)] [] (pc2 := 10) (ls2 := [some (.ref 12), some (.ref 1), some (.int x2), some (.int x3), some (.int v3)]) (st2 := [.ref 1]) (M2 := mrow M 1 r4) (Ps := []) (by decide +kernel) rfl rfl trivial ?_
  obtain ⟨k7, hk⟩ := hk
  have t8 : GM z mX6_isFaulty (d + 1) [.ref 1] (mrow M 1 r4) (fun rs => rs = .inl (some (.int (t_isFaulty r4)), mrow M 1 r4)) := by
    have q9 := c_t_isFaulty_1 z (d + 1) (mrow M 1 r4) 
    try simp only [mput, mrow_same, mrow_hit, mrow_miss, mrow_sw, idr_eq, ne_eq, Nat.reduceEqDiff, not_false_eq_true, Nat.reduceLT, reduceCtorEq] at q9
    exact q9
  refine G.callV (as := []) (rest := []) (a := 1) oX6_isFaulty lk_EvenFinders_Town_89 (by decide +kernel) rfl rfl ⟨rfl, rfl⟩ (Nat.le_of_ble_eq_true rfl) rfl ⟨Nat.le_of_ble_eq_true rfl, Nat.le_of_ble_eq_true rfl⟩ t8 (fun v9 N9 h9 => ?_) (fun E9 N9 h9 => by cases h9)
  cases h9
  show G z mX7_addThing (d + 2) 0 0 13 [some (.ref 12), some (.ref 1), some (.int x2), some (.int x3), some (.int v3)] [.int (t_isFaulty r4)] (mrow M 1 r4) Q
  refine G.if_ne (off := (53)) (tgt := 66) (by decide +kernel) rfl (fun c10 => ?_) (fun c10 => ?_)
  · skip
    rw [if_neg c10] at hk
    refine G.mem (M' := mrow (mrow (mrow (mrow (mrow M 1 r4) 12 (M.1 12)) 16 (M.1 16)) 17 (M.1 17)) 18 (M.1 18)) ((((((mrow_id (N := mrow M 1 r4) (c := 12) (f := M.1 12) (by first | rfl | (simp only [mput, mrow_same, mrow_hit, mrow_miss, mrow_sw, idr_eq, ne_eq, Nat.reduceEqDiff, not_false_eq_true, Nat.reduceLT, reduceCtorEq]; done))).symm).trans (mrow_id (N := mrow (mrow M 1 r4) 12 (M.1 12)) (c := 16) (f := M.1 16) (by first | rfl | (simp only [mput, mrow_same, mrow_hit, mrow_miss, mrow_sw, idr_eq, ne_eq, Nat.reduceEqDiff, not_false_eq_true, Nat.reduceLT, reduceCtorEq]; done))).symm).trans (mrow_id (N := mrow (mrow (mrow M 1 r4) 12 (M.1 12)) 16 (M.1 16)) (c := 17) (f := M.1 17) (by first | rfl | (simp only [mput, mrow_same, mrow_hit, mrow_miss, mrow_sw, idr_eq, ne_eq, Nat.reduceEqDiff, not_false_eq_true, Nat.reduceLT, reduceCtorEq]; done))).symm).trans (mrow_id (N := mrow (mrow (mrow (mrow M 1 r4) 12 (M.1 12)) 16 (M.1 16)) 17 (M.1 17)) (c := 18) (f := M.1 18) (by first | rfl | (simp only [mput, mrow_same, mrow_hit, mrow_miss, mrow_sw, idr_eq, ne_eq, Nat.reduceEqDiff, not_false_eq_true, Nat.reduceLT, reduceCtorEq]; done))).symm).trans (by first | rfl | (simp only [mput, mrow_same, mrow_hit, mrow_miss, mrow_sw, idr_eq, ne_eq, Nat.reduceEqDiff, not_false_eq_true, Nat.reduceLT, reduceCtorEq]; done))) ?_
    exact G.retv (by decide +kernel) rfl (Nat.le_of_ble_eq_true rfl) (Nat.le_of_ble_eq_true rfl) ((by rw [hQ]; simp only [v_addThing, g2, if_neg c10, mrow_self]))
  · skip
    rw [if_pos c10] at hk
    refine G.sl [(.aload_n 0, 1, 0, 0, 0, 0), (.getfield 43, 3, 6, 2, 22, 0), (.bipush 10, 2, 0, 0, 0, nI 10)] [] (pc2 := 22) (ls2 := [some (.ref 12), some (.ref 1), some (.int x2), some (.int x3), some (.int v3)]) (st2 := [.int (nI 10), .int (M.1 12 2)]) (M2 := mrow M 1 r4) (Ps := []) (by decide +kernel) rfl rfl trivial ?_
    refine G.ic_ge (off := (44)) (tgt := 66) (by decide +kernel) rfl (fun c11 => ?_) (fun c11 => ?_)
    · skip
      rw [if_pos c11] at hk
      refine G.mem (M' := mrow (mrow (mrow (mrow (mrow M 1 r4) 12 (M.1 12)) 16 (M.1 16)) 17 (M.1 17)) 18 (M.1 18)) ((((((mrow_id (N := mrow M 1 r4) (c := 12) (f := M.1 12) (by first | rfl | (simp only [mput, mrow_same, mrow_hit, mrow_miss, mrow_sw, idr_eq, ne_eq, Nat.reduceEqDiff, not_false_eq_true, Nat.reduceLT, reduceCtorEq]; done))).symm).trans (mrow_id (N := mrow (mrow M 1 r4) 12 (M.1 12)) (c := 16) (f := M.1 16) (by first | rfl | (simp only [mput, mrow_same, mrow_hit, mrow_miss, mrow_sw, idr_eq, ne_eq, Nat.reduceEqDiff, not_false_eq_true, Nat.reduceLT, reduceCtorEq]; done))).symm).trans (mrow_id (N := mrow (mrow (mrow M 1 r4) 12 (M.1 12)) 16 (M.1 16)) (c := 17) (f := M.1 17) (by first | rfl | (simp only [mput, mrow_same, mrow_hit, mrow_miss, mrow_sw, idr_eq, ne_eq, Nat.reduceEqDiff, not_false_eq_true, Nat.reduceLT, reduceCtorEq]; done))).symm).trans (mrow_id (N := mrow (mrow (mrow (mrow M 1 r4) 12 (M.1 12)) 16 (M.1 16)) 17 (M.1 17)) (c := 18) (f := M.1 18) (by first | rfl | (simp only [mput, mrow_same, mrow_hit, mrow_miss, mrow_sw, idr_eq, ne_eq, Nat.reduceEqDiff, not_false_eq_true, Nat.reduceLT, reduceCtorEq]; done))).symm).trans (by first | rfl | (simp only [mput, mrow_same, mrow_hit, mrow_miss, mrow_sw, idr_eq, ne_eq, Nat.reduceEqDiff, not_false_eq_true, Nat.reduceLT, reduceCtorEq]; done))) ?_
      exact G.retv (by decide +kernel) rfl (Nat.le_of_ble_eq_true rfl) (Nat.le_of_ble_eq_true rfl) ((by rw [hQ]; simp only [v_addThing, g2, if_pos c10, if_pos c11, mrow_self]))
    · skip
      rw [if_neg c11] at hk
      obtain ⟨k12, k13, hk⟩ := hk
      refine G.sl [(.aload_n 0, 1, 0, 0, 0, 0), (.getfield 21, 3, 6, 7, 42, 0), (.aload_n 0, 1, 0, 0, 0, 0), (.getfield 43, 3, 6, 2, 22, 0), (.iload 4, 2, 4, 0, 0, 0), (.iastore, 1, 0, 0, 0, 0), (.aload_n 0, 1, 0, 0, 0, 0), (.getfield 24, 3, 6, 8, 46, 0), (.aload_n 0, 1, 0, 0, 0, 0), (.getfield 43, 3, 6, 2, 22, 0), (.iload_n 2, 1, 2, 0, 0, 0), (.iastore, 1, 0, 0, 0, 0), (.aload_n 0, 1, 0, 0, 0, 0), (.getfield 27, 3, 6, 9, 48, 0), (.aload_n 0, 1, 0, 0, 0, 0), (.getfield 43, 3, 6, 2, 22, 0), (.iload_n 3, 1, 3, 0, 0, 0), (.iastore, 1, 0, 0, 0, 0), (.aload_n 0, 1, 0, 0, 0, 0), (.dup, 1, 0, 0, 0, 0), (.getfield 43, 3, 6, 2, 22, 0), (.iconst 1, 1, 0, 0, 0, nI 1), (.iadd, 1, 0, 0, 0, 0), (.putfield 43, 3, 6, 2, 22, 0)] [ix (M.1 12 2), ix (M.1 12 2), ix (M.1 12 2)] (pc2 := 66) (ls2 := [some (.ref 12), some (.ref 1), some (.int x2), some (.int x3), some (.int v3)]) (st2 := []) (M2 := mput (mput (mput (mput (mrow M 1 r4) 16 (ix (M.1 12 2)) v3) 17 (ix (M.1 12 2)) x2) 18 (ix (M.1 12 2)) x3) 12 2 ((M.1 12 2) + (nI 1))) (Ps := [(M.1 12 2) = nI (ix (M.1 12 2)) ∧ (ix (M.1 12 2)) < 10, (M.1 12 2) = nI (ix (M.1 12 2)) ∧ (ix (M.1 12 2)) < 10, (M.1 12 2) = nI (ix (M.1 12 2)) ∧ (ix (M.1 12 2)) < 10]) (by decide +kernel) rfl rfl ⟨⟨(ixE k12), k13⟩, ⟨(ixE k12), k13⟩, ⟨(ixE k12), k13⟩, trivial⟩ ?_
      refine G.mem (M' := mrow (mrow (mrow (mrow (mrow M 1 r4) 12 (upd (M.1 12) 2 ((M.1 12 2) + (nI 1)))) 16 (upd (M.1 16) (ix (M.1 12 2)) v3)) 17 (upd (M.1 17) (ix (M.1 12 2)) x2)) 18 (upd (M.1 18) (ix (M.1 12 2)) x3)) (by first | rfl | (simp only [mput, mrow_same, mrow_hit, mrow_miss, mrow_sw, idr_eq, ne_eq, Nat.reduceEqDiff, not_false_eq_true, Nat.reduceLT, reduceCtorEq]; done)) ?_
      exact G.retv (by decide +kernel) rfl (Nat.le_of_ble_eq_true rfl) (Nat.le_of_ble_eq_true rfl) ((by rw [hQ]; simp only [v_addThing, g2, if_pos c10, if_neg c11, mrow_self]))
set_option maxHeartbeats 4000000 in
set_option maxRecDepth 3000 in
theorem c_v_readFinder_12_1 (z : Zp) (d : Nat) (M : Mem) (hk : v_readFinder_ok (M.1 1) (M.1 2) (M.1 12) (M.1 19)) : GM z mX7_readFinder (d + 2) [.ref 12, .ref 1] M (fun rs => rs = .inl (none, mrow (mrow (mrow M 1 ((v_readFinder (M.1 1) (M.1 2) (M.1 12) (M.1 19)).2.1)) 12 ((v_readFinder (M.1 1) (M.1 2) (M.1 12) (M.1 19)).2.2.1)) 19 ((v_readFinder (M.1 1) (M.1 2) (M.1 12) (M.1 19)).2.2.2))) := by
  simp only [v_readFinder_ok] at hk
  refine GM.of oX7_readFinder.1 (Nat.le_of_ble_eq_true rfl) ?_
  show G z mX7_readFinder (d + 2) 0 0 0 [some (.ref 12), some (.ref 1), none] [] M _
  obtain ⟨Q, hQ⟩ : ∃ Q : Rs → Prop, Q = (fun rs => rs = .inl (none, mrow (mrow (mrow M 1 ((v_readFinder (M.1 1) (M.1 2) (M.1 12) (M.1 19)).2.1)) 12 ((v_readFinder (M.1 1) (M.1 2) (M.1 12) (M.1 19)).2.2.1)) 19 ((v_readFinder (M.1 1) (M.1 2) (M.1 12) (M.1 19)).2.2.2))) := ⟨_, rfl⟩
  rw [← hQ]
  refine G.sl [(.aload_n 1, 1, 1, 0, 0, 0), (.iconst 0, 1, 0, 0, 0, nI 0), (.aload_n 0, 1, 0, 0, 0, 0), (.getfield 36, 3, 6, 0, 14, 0), (.iconst 1, 1, 0, 0, 0, nI 1), (.isub, 1, 0, 0, 0, 0)] [] (pc2 := 8) (ls2 := [some (.ref 12), some (.ref 1), none]) (st2 := [.int ((M.1 12 0) - (nI 1)), .int (nI 0), .ref 1]) (M2 := M) (Ps := []) (by decide +kernel) rfl rfl trivial ?_
  obtain ⟨k1, hk⟩ := hk
  rcases g2 : t_number (M.1 1) (M.1 2) (nI 0) ((M.1 12 0) - (nI 1)) with ⟨v3, r4⟩
  try simp only [g2] at hk
  have t5 : GM z mX6_number (d + 1) [.ref 1, .int (nI 0), .int ((M.1 12 0) - (nI 1))] M (fun rs => rs = .inl (some (.int v3), mrow M 1 r4)) := by
    have q9 := c_t_number_1 z d M (nI 0) ((M.1 12 0) - (nI 1)) k1
    try simp only [mput, mrow_same, mrow_hit, mrow_miss, mrow_sw, idr_eq, ne_eq, Nat.reduceEqDiff, not_false_eq_true, Nat.reduceLT, reduceCtorEq, g2] at q9
    exact q9
  refine G.callV (as := [.int (nI 0), .int ((M.1 12 0) - (nI 1))]) (rest := []) (a := 1) oX6_number lk_EvenFinders_Town_100 (by decide +kernel) rfl rfl ⟨rfl, rfl⟩ (Nat.le_of_ble_eq_true rfl) rfl ⟨Nat.le_of_ble_eq_true rfl, Nat.le_of_ble_eq_true rfl⟩ t5 (fun v9 N9 h6 => ?_) (fun E9 N9 h6 => by cases h6)
  cases h6
  show G z mX7_readFinder (d + 2) 0 0 11 [some (.ref 12), some (.ref 1), none] [.int v3] (mrow M 1 r4) Q
  refine G.sl [(.istore_n 2, 1, 2, 0, 0, 0), (.aload_n 1, 1, 1, 0, 0, 0)] [] (pc2 := 13) (ls2 := [some (.ref 12), some (.ref 1), some (.int v3)]) (st2 := [.ref 1]) (M2 := mrow M 1 r4) (Ps := []) (by decide +kernel) rfl rfl trivial ?_
  obtain ⟨k7, hk⟩ := hk
  have t8 : GM z mX6_isFaulty (d + 1) [.ref 1] (mrow M 1 r4) (fun rs => rs = .inl (some (.int (t_isFaulty r4)), mrow M 1 r4)) := by
    have q9 := c_t_isFaulty_1 z (d + 1) (mrow M 1 r4) 
    try simp only [mput, mrow_same, mrow_hit, mrow_miss, mrow_sw, idr_eq, ne_eq, Nat.reduceEqDiff, not_false_eq_true, Nat.reduceLT, reduceCtorEq] at q9
    exact q9
  refine G.callV (as := []) (rest := []) (a := 1) oX6_isFaulty lk_EvenFinders_Town_89 (by decide +kernel) rfl rfl ⟨rfl, rfl⟩ (Nat.le_of_ble_eq_true rfl) rfl ⟨Nat.le_of_ble_eq_true rfl, Nat.le_of_ble_eq_true rfl⟩ t8 (fun v9 N9 h9 => ?_) (fun E9 N9 h9 => by cases h9)
  cases h9
  show G z mX7_readFinder (d + 2) 0 0 16 [some (.ref 12), some (.ref 1), some (.int v3)] [.int (t_isFaulty r4)] (mrow M 1 r4) Q
  refine G.if_ne (off := (32)) (tgt := 48) (by decide +kernel) rfl (fun c10 => ?_) (fun c10 => ?_)
  · skip
    rw [if_neg c10] at hk
    refine G.mem (M' := mrow (mrow (mrow M 1 r4) 12 (M.1 12)) 19 (M.1 19)) ((((mrow_id (N := mrow M 1 r4) (c := 12) (f := M.1 12) (by first | rfl | (simp only [mput, mrow_same, mrow_hit, mrow_miss, mrow_sw, idr_eq, ne_eq, Nat.reduceEqDiff, not_false_eq_true, Nat.reduceLT, reduceCtorEq]; done))).symm).trans (mrow_id (N := mrow (mrow M 1 r4) 12 (M.1 12)) (c := 19) (f := M.1 19) (by first | rfl | (simp only [mput, mrow_same, mrow_hit, mrow_miss, mrow_sw, idr_eq, ne_eq, Nat.reduceEqDiff, not_false_eq_true, Nat.reduceLT, reduceCtorEq]; done))).symm).trans (by first | rfl | (simp only [mput, mrow_same, mrow_hit, mrow_miss, mrow_sw, idr_eq, ne_eq, Nat.reduceEqDiff, not_false_eq_true, Nat.reduceLT, reduceCtorEq]; done))) ?_
    exact G.retv (by decide +kernel) rfl (Nat.le_of_ble_eq_true rfl) (Nat.le_of_ble_eq_true rfl) ((by rw [hQ]; simp only [v_readFinder, g2, if_neg c10, mrow_self]))
  · skip
    rw [if_pos c10] at hk
    refine G.sl [(.aload_n 0, 1, 0, 0, 0, 0), (.getfield 46, 3, 6, 3, 30, 0), (.bipush 6, 2, 0, 0, 0, nI 6)] [] (pc2 := 25) (ls2 := [some (.ref 12), some (.ref 1), some (.int v3)]) (st2 := [.int (nI 6), .int (M.1 12 3)]) (M2 := mrow M 1 r4) (Ps := []) (by decide +kernel) rfl rfl trivial ?_
    refine G.ic_ge (off := (23)) (tgt := 48) (by decide +kernel) rfl (fun c11 => ?_) (fun c11 => ?_)
    · skip
      rw [if_pos c11] at hk
      refine G.mem (M' := mrow (mrow (mrow M 1 r4) 12 (M.1 12)) 19 (M.1 19)) ((((mrow_id (N := mrow M 1 r4) (c := 12) (f := M.1 12) (by first | rfl | (simp only [mput, mrow_same, mrow_hit, mrow_miss, mrow_sw, idr_eq, ne_eq, Nat.reduceEqDiff, not_false_eq_true, Nat.reduceLT, reduceCtorEq]; done))).symm).trans (mrow_id (N := mrow (mrow M 1 r4) 12 (M.1 12)) (c := 19) (f := M.1 19) (by first | rfl | (simp only [mput, mrow_same, mrow_hit, mrow_miss, mrow_sw, idr_eq, ne_eq, Nat.reduceEqDiff, not_false_eq_true, Nat.reduceLT, reduceCtorEq]; done))).symm).trans (by first | rfl | (simp only [mput, mrow_same, mrow_hit, mrow_miss, mrow_sw, idr_eq, ne_eq, Nat.reduceEqDiff, not_false_eq_true, Nat.reduceLT, reduceCtorEq]; done))) ?_
      exact G.retv (by decide +kernel) rfl (Nat.le_of_ble_eq_true rfl) (Nat.le_of_ble_eq_true rfl) ((by rw [hQ]; simp only [v_readFinder, g2, if_pos c10, if_pos c11, mrow_self]))
    · skip
      rw [if_neg c11] at hk
      obtain ⟨k12, k13, hk⟩ := hk
      refine G.sl [(.aload_n 0, 1, 0, 0, 0, 0), (.getfield 30, 3, 6, 10, 50, 0), (.aload_n 0, 1, 0, 0, 0, 0), (.getfield 46, 3, 6, 3, 30, 0), (.iload_n 2, 1, 2, 0, 0, 0), (.iastore, 1, 0, 0, 0, 0), (.aload_n 0, 1, 0, 0, 0, 0), (.dup, 1, 0, 0, 0, 0), (.getfield 46, 3, 6, 3, 30, 0), (.iconst 1, 1, 0, 0, 0, nI 1), (.iadd, 1, 0, 0, 0, 0), (.putfield 46, 3, 6, 3, 30, 0)] [ix (M.1 12 3)] (pc2 := 48) (ls2 := [some (.ref 12), some (.ref 1), some (.int v3)]) (st2 := []) (M2 := mput (mput (mrow M 1 r4) 19 (ix (M.1 12 3)) v3) 12 3 ((M.1 12 3) + (nI 1))) (Ps := [(M.1 12 3) = nI (ix (M.1 12 3)) ∧ (ix (M.1 12 3)) < 6]) (by decide +kernel) rfl rfl ⟨⟨(ixE k12), k13⟩, trivial⟩ ?_
      refine G.mem (M' := mrow (mrow (mrow M 1 r4) 12 (upd (M.1 12) 3 ((M.1 12 3) + (nI 1)))) 19 (upd (M.1 19) (ix (M.1 12 3)) v3)) (by first | rfl | (simp only [mput, mrow_same, mrow_hit, mrow_miss, mrow_sw, idr_eq, ne_eq, Nat.reduceEqDiff, not_false_eq_true, Nat.reduceLT, reduceCtorEq]; done)) ?_
      exact G.retv (by decide +kernel) rfl (Nat.le_of_ble_eq_true rfl) (Nat.le_of_ble_eq_true rfl) ((by rw [hQ]; simp only [v_readFinder, g2, if_pos c10, if_neg c11, mrow_self]))
set_option maxHeartbeats 4000000 in
set_option maxRecDepth 3000 in
theorem c_v_readClause_12_1 (z : Zp) (d : Nat) (M : Mem) (x2 : Int32) (hk : v_readClause_ok (M.1 1) (M.1 2) (M.1 12) (M.1 13) (M.1 14) (M.1 15) (M.1 16) (M.1 17) (M.1 18) (M.1 19) x2) : GM z mX7_readClause (d + 3) [.ref 12, .ref 1, .int x2] M (fun rs => rs = .inl (none, mrow (mrow (mrow (mrow (mrow (mrow (mrow (mrow (mrow M 1 ((v_readClause (M.1 1) (M.1 2) (M.1 12) (M.1 13) (M.1 14) (M.1 15) (M.1 16) (M.1 17) (M.1 18) (M.1 19) x2).2.1)) 12 ((v_readClause (M.1 1) (M.1 2) (M.1 12) (M.1 13) (M.1 14) (M.1 15) (M.1 16) (M.1 17) (M.1 18) (M.1 19) x2).2.2.1)) 13 ((v_readClause (M.1 1) (M.1 2) (M.1 12) (M.1 13) (M.1 14) (M.1 15) (M.1 16) (M.1 17) (M.1 18) (M.1 19) x2).2.2.2.1)) 14 ((v_readClause (M.1 1) (M.1 2) (M.1 12) (M.1 13) (M.1 14) (M.1 15) (M.1 16) (M.1 17) (M.1 18) (M.1 19) x2).2.2.2.2.1)) 15 ((v_readClause (M.1 1) (M.1 2) (M.1 12) (M.1 13) (M.1 14) (M.1 15) (M.1 16) (M.1 17) (M.1 18) (M.1 19) x2).2.2.2.2.2.1)) 16 ((v_readClause (M.1 1) (M.1 2) (M.1 12) (M.1 13) (M.1 14) (M.1 15) (M.1 16) (M.1 17) (M.1 18) (M.1 19) x2).2.2.2.2.2.2.1)) 17 ((v_readClause (M.1 1) (M.1 2) (M.1 12) (M.1 13) (M.1 14) (M.1 15) (M.1 16) (M.1 17) (M.1 18) (M.1 19) x2).2.2.2.2.2.2.2.1)) 18 ((v_readClause (M.1 1) (M.1 2) (M.1 12) (M.1 13) (M.1 14) (M.1 15) (M.1 16) (M.1 17) (M.1 18) (M.1 19) x2).2.2.2.2.2.2.2.2.1)) 19 ((v_readClause (M.1 1) (M.1 2) (M.1 12) (M.1 13) (M.1 14) (M.1 15) (M.1 16) (M.1 17) (M.1 18) (M.1 19) x2).2.2.2.2.2.2.2.2.2))) := by
  simp only [v_readClause_ok] at hk
  refine GM.of oX7_readClause.1 (Nat.le_of_ble_eq_true rfl) ?_
  show G z mX7_readClause (d + 3) 0 0 0 [some (.ref 12), some (.ref 1), some (.int x2)] [] M _
  obtain ⟨Q, hQ⟩ : ∃ Q : Rs → Prop, Q = (fun rs => rs = .inl (none, mrow (mrow (mrow (mrow (mrow (mrow (mrow (mrow (mrow M 1 ((v_readClause (M.1 1) (M.1 2) (M.1 12) (M.1 13) (M.1 14) (M.1 15) (M.1 16) (M.1 17) (M.1 18) (M.1 19) x2).2.1)) 12 ((v_readClause (M.1 1) (M.1 2) (M.1 12) (M.1 13) (M.1 14) (M.1 15) (M.1 16) (M.1 17) (M.1 18) (M.1 19) x2).2.2.1)) 13 ((v_readClause (M.1 1) (M.1 2) (M.1 12) (M.1 13) (M.1 14) (M.1 15) (M.1 16) (M.1 17) (M.1 18) (M.1 19) x2).2.2.2.1)) 14 ((v_readClause (M.1 1) (M.1 2) (M.1 12) (M.1 13) (M.1 14) (M.1 15) (M.1 16) (M.1 17) (M.1 18) (M.1 19) x2).2.2.2.2.1)) 15 ((v_readClause (M.1 1) (M.1 2) (M.1 12) (M.1 13) (M.1 14) (M.1 15) (M.1 16) (M.1 17) (M.1 18) (M.1 19) x2).2.2.2.2.2.1)) 16 ((v_readClause (M.1 1) (M.1 2) (M.1 12) (M.1 13) (M.1 14) (M.1 15) (M.1 16) (M.1 17) (M.1 18) (M.1 19) x2).2.2.2.2.2.2.1)) 17 ((v_readClause (M.1 1) (M.1 2) (M.1 12) (M.1 13) (M.1 14) (M.1 15) (M.1 16) (M.1 17) (M.1 18) (M.1 19) x2).2.2.2.2.2.2.2.1)) 18 ((v_readClause (M.1 1) (M.1 2) (M.1 12) (M.1 13) (M.1 14) (M.1 15) (M.1 16) (M.1 17) (M.1 18) (M.1 19) x2).2.2.2.2.2.2.2.2.1)) 19 ((v_readClause (M.1 1) (M.1 2) (M.1 12) (M.1 13) (M.1 14) (M.1 15) (M.1 16) (M.1 17) (M.1 18) (M.1 19) x2).2.2.2.2.2.2.2.2.2))) := ⟨_, rfl⟩
  rw [← hQ]
  refine G.sl [(.aload_n 1, 1, 1, 0, 0, 0)] [] (pc2 := 1) (ls2 := [some (.ref 12), some (.ref 1), some (.int x2)]) (st2 := [.ref 1]) (M2 := M) (Ps := []) (by decide +kernel) rfl rfl trivial ?_
  obtain ⟨k1, hk⟩ := hk
  have t2 : GM z mX6_isFaulty (d + 2) [.ref 1] M (fun rs => rs = .inl (some (.int (t_isFaulty (M.1 1))), M)) := by
    have q9 := c_t_isFaulty_1 z (d + 2) M 
    try simp only [mput, mrow_same, mrow_hit, mrow_miss, mrow_sw, idr_eq, ne_eq, Nat.reduceEqDiff, not_false_eq_true, Nat.reduceLT, reduceCtorEq] at q9
    exact q9
  refine G.callV (as := []) (rest := []) (a := 1) oX6_isFaulty lk_EvenFinders_Town_89 (by decide +kernel) rfl rfl ⟨rfl, rfl⟩ (Nat.le_of_ble_eq_true rfl) rfl ⟨Nat.le_of_ble_eq_true rfl, Nat.le_of_ble_eq_true rfl⟩ t2 (fun v9 N9 h3 => ?_) (fun E9 N9 h3 => by cases h3)
  cases h3
  show G z mX7_readClause (d + 3) 0 0 4 [some (.ref 12), some (.ref 1), some (.int x2)] [.int (t_isFaulty (M.1 1))] M Q
  refine G.if_eq (off := (4)) (tgt := 8) (by decide +kernel) rfl (fun c4 => ?_) (fun c4 => ?_)
  · skip
    rw [if_pos c4] at hk
    refine G.sl [(.iload_n 2, 1, 2, 0, 0, 0)] [] (pc2 := 9) (ls2 := [some (.ref 12), some (.ref 1), some (.int x2)]) (st2 := [.int x2]) (M2 := M) (Ps := []) (by decide +kernel) rfl rfl trivial ?_
    by_cases c5 : x2 = nI 0
    · skip
      rw [if_pos c5] at hk
      refine G.tabIn (dflt := 75) (lo := 0) (hi := 3) (offs := #[31, 39, 47, 67]) (len := 31) (off := 31) (tgt := 40) (by decide +kernel) (by rw [c5]; decide) (by rw [c5]; decide) (by rw [c5]; rfl) rfl ?_
      refine G.sl [(.aload_n 0, 1, 0, 0, 0, 0), (.aload_n 1, 1, 1, 0, 0, 0)] [] (pc2 := 42) (ls2 := [some (.ref 12), some (.ref 1), some (.int x2)]) (st2 := [.ref 1, .ref 12]) (M2 := M) (Ps := []) (by decide +kernel) rfl rfl trivial ?_
      obtain ⟨k6, hk⟩ := hk
      rcases g7 : v_readPlaces (M.1 1) (M.1 2) (M.1 12) with ⟨u8, r9, r10⟩
      have t11 : GM z mX7_readPlaces (d + 2) [.ref 12, .ref 1] M (fun rs => rs = .inl (none, mrow (mrow M 1 r9) 12 r10)) := by
        have q9 := c_v_readPlaces_12_1 z d M k6
        try simp only [mput, mrow_same, mrow_hit, mrow_miss, mrow_sw, idr_eq, ne_eq, Nat.reduceEqDiff, not_false_eq_true, Nat.reduceLT, reduceCtorEq, g7] at q9
        exact q9
      refine G.callV (as := [.ref 1]) (rest := []) (a := 12) oX7_readPlaces lk_EvenFinders_Town_93 (by decide +kernel) rfl rfl ⟨rfl, rfl⟩ (Nat.le_of_ble_eq_true rfl) rfl ⟨Nat.le_of_ble_eq_true rfl, Nat.le_of_ble_eq_true rfl⟩ t11 (fun v9 N9 h12 => ?_) (fun E9 N9 h12 => by cases h12)
      cases h12
      show G z mX7_readClause (d + 3) 0 0 45 [some (.ref 12), some (.ref 1), some (.int x2)] [] (mrow (mrow M 1 r9) 12 r10) Q
      refine G.sl [(.goto 56, 3, 101, 0, 0, 0)] [] (pc2 := 101) (ls2 := [some (.ref 12), some (.ref 1), some (.int x2)]) (st2 := []) (M2 := mrow (mrow M 1 r9) 12 r10) (Ps := []) (by decide +kernel) rfl rfl trivial ?_
      refine G.mem (M' := mrow (mrow (mrow (mrow (mrow (mrow (mrow (mrow (mrow M 1 r9) 12 r10) 13 (M.1 13)) 14 (M.1 14)) 15 (M.1 15)) 16 (M.1 16)) 17 (M.1 17)) 18 (M.1 18)) 19 (M.1 19)) (((((((((mrow_id (N := mrow (mrow M 1 r9) 12 r10) (c := 13) (f := M.1 13) (by first | rfl | (simp only [mput, mrow_same, mrow_hit, mrow_miss, mrow_sw, idr_eq, ne_eq, Nat.reduceEqDiff, not_false_eq_true, Nat.reduceLT, reduceCtorEq]; done))).symm).trans (mrow_id (N := mrow (mrow (mrow M 1 r9) 12 r10) 13 (M.1 13)) (c := 14) (f := M.1 14) (by first | rfl | (simp only [mput, mrow_same, mrow_hit, mrow_miss, mrow_sw, idr_eq, ne_eq, Nat.reduceEqDiff, not_false_eq_true, Nat.reduceLT, reduceCtorEq]; done))).symm).trans (mrow_id (N := mrow (mrow (mrow (mrow M 1 r9) 12 r10) 13 (M.1 13)) 14 (M.1 14)) (c := 15) (f := M.1 15) (by first | rfl | (simp only [mput, mrow_same, mrow_hit, mrow_miss, mrow_sw, idr_eq, ne_eq, Nat.reduceEqDiff, not_false_eq_true, Nat.reduceLT, reduceCtorEq]; done))).symm).trans (mrow_id (N := mrow (mrow (mrow (mrow (mrow M 1 r9) 12 r10) 13 (M.1 13)) 14 (M.1 14)) 15 (M.1 15)) (c := 16) (f := M.1 16) (by first | rfl | (simp only [mput, mrow_same, mrow_hit, mrow_miss, mrow_sw, idr_eq, ne_eq, Nat.reduceEqDiff, not_false_eq_true, Nat.reduceLT, reduceCtorEq]; done))).symm).trans (mrow_id (N := mrow (mrow (mrow (mrow (mrow (mrow M 1 r9) 12 r10) 13 (M.1 13)) 14 (M.1 14)) 15 (M.1 15)) 16 (M.1 16)) (c := 17) (f := M.1 17) (by first | rfl | (simp only [mput, mrow_same, mrow_hit, mrow_miss, mrow_sw, idr_eq, ne_eq, Nat.reduceEqDiff, not_false_eq_true, Nat.reduceLT, reduceCtorEq]; done))).symm).trans (mrow_id (N := mrow (mrow (mrow (mrow (mrow (mrow (mrow M 1 r9) 12 r10) 13 (M.1 13)) 14 (M.1 14)) 15 (M.1 15)) 16 (M.1 16)) 17 (M.1 17)) (c := 18) (f := M.1 18) (by first | rfl | (simp only [mput, mrow_same, mrow_hit, mrow_miss, mrow_sw, idr_eq, ne_eq, Nat.reduceEqDiff, not_false_eq_true, Nat.reduceLT, reduceCtorEq]; done))).symm).trans (mrow_id (N := mrow (mrow (mrow (mrow (mrow (mrow (mrow (mrow M 1 r9) 12 r10) 13 (M.1 13)) 14 (M.1 14)) 15 (M.1 15)) 16 (M.1 16)) 17 (M.1 17)) 18 (M.1 18)) (c := 19) (f := M.1 19) (by first | rfl | (simp only [mput, mrow_same, mrow_hit, mrow_miss, mrow_sw, idr_eq, ne_eq, Nat.reduceEqDiff, not_false_eq_true, Nat.reduceLT, reduceCtorEq]; done))).symm).trans (by first | rfl | (simp only [mput, mrow_same, mrow_hit, mrow_miss, mrow_sw, idr_eq, ne_eq, Nat.reduceEqDiff, not_false_eq_true, Nat.reduceLT, reduceCtorEq]; done))) ?_
      exact G.retv (by decide +kernel) rfl (Nat.le_of_ble_eq_true rfl) (Nat.le_of_ble_eq_true rfl) ((by rw [hQ]; simp only [v_readClause, if_pos c4, if_pos c5, g7, mrow_self]))
    · skip
      rw [if_neg c5] at hk
      by_cases c13 : x2 = nI 1
      · skip
        rw [if_pos c13] at hk
        refine G.tabIn (dflt := 75) (lo := 0) (hi := 3) (offs := #[31, 39, 47, 67]) (len := 31) (off := 39) (tgt := 48) (by decide +kernel) (by rw [c13]; decide) (by rw [c13]; decide) (by rw [c13]; rfl) rfl ?_
        refine G.sl [(.aload_n 0, 1, 0, 0, 0, 0), (.aload_n 1, 1, 1, 0, 0, 0)] [] (pc2 := 50) (ls2 := [some (.ref 12), some (.ref 1), some (.int x2)]) (st2 := [.ref 1, .ref 12]) (M2 := M) (Ps := []) (by decide +kernel) rfl rfl trivial ?_
        obtain ⟨k14, hk⟩ := hk
        rcases g15 : v_readRoad (M.1 1) (M.1 2) (M.1 12) (M.1 13) (M.1 14) (M.1 15) with ⟨u16, r17, r18, r19, r20, r21⟩
        have t22 : GM z mX7_readRoad (d + 2) [.ref 12, .ref 1] M (fun rs => rs = .inl (none, mrow (mrow (mrow (mrow (mrow M 1 r17) 12 r18) 13 r19) 14 r20) 15 r21)) := by
          have q9 := c_v_readRoad_12_1 z d M k14
          try simp only [mput, mrow_same, mrow_hit, mrow_miss, mrow_sw, idr_eq, ne_eq, Nat.reduceEqDiff, not_false_eq_true, Nat.reduceLT, reduceCtorEq, g15] at q9
          exact q9
        refine G.callV (as := [.ref 1]) (rest := []) (a := 12) oX7_readRoad lk_EvenFinders_Town_97 (by decide +kernel) rfl rfl ⟨rfl, rfl⟩ (Nat.le_of_ble_eq_true rfl) rfl ⟨Nat.le_of_ble_eq_true rfl, Nat.le_of_ble_eq_true rfl⟩ t22 (fun v9 N9 h23 => ?_) (fun E9 N9 h23 => by cases h23)
        cases h23
        show G z mX7_readClause (d + 3) 0 0 53 [some (.ref 12), some (.ref 1), some (.int x2)] [] (mrow (mrow (mrow (mrow (mrow M 1 r17) 12 r18) 13 r19) 14 r20) 15 r21) Q
        refine G.sl [(.goto 48, 3, 101, 0, 0, 0)] [] (pc2 := 101) (ls2 := [some (.ref 12), some (.ref 1), some (.int x2)]) (st2 := []) (M2 := mrow (mrow (mrow (mrow (mrow M 1 r17) 12 r18) 13 r19) 14 r20) 15 r21) (Ps := []) (by decide +kernel) rfl rfl trivial ?_
        refine G.mem (M' := mrow (mrow (mrow (mrow (mrow (mrow (mrow (mrow (mrow M 1 r17) 12 r18) 13 r19) 14 r20) 15 r21) 16 (M.1 16)) 17 (M.1 17)) 18 (M.1 18)) 19 (M.1 19)) ((((((mrow_id (N := mrow (mrow (mrow (mrow (mrow M 1 r17) 12 r18) 13 r19) 14 r20) 15 r21) (c := 16) (f := M.1 16) (by first | rfl | (simp only [mput, mrow_same, mrow_hit, mrow_miss, mrow_sw, idr_eq, ne_eq, Nat.reduceEqDiff, not_false_eq_true, Nat.reduceLT, reduceCtorEq]; done))).symm).trans (mrow_id (N := mrow (mrow (mrow (mrow (mrow (mrow M 1 r17) 12 r18) 13 r19) 14 r20) 15 r21) 16 (M.1 16)) (c := 17) (f := M.1 17) (by first | rfl | (simp only [mput, mrow_same, mrow_hit, mrow_miss, mrow_sw, idr_eq, ne_eq, Nat.reduceEqDiff, not_false_eq_true, Nat.reduceLT, reduceCtorEq]; done))).symm).trans (mrow_id (N := mrow (mrow (mrow (mrow (mrow (mrow (mrow M 1 r17) 12 r18) 13 r19) 14 r20) 15 r21) 16 (M.1 16)) 17 (M.1 17)) (c := 18) (f := M.1 18) (by first | rfl | (simp only [mput, mrow_same, mrow_hit, mrow_miss, mrow_sw, idr_eq, ne_eq, Nat.reduceEqDiff, not_false_eq_true, Nat.reduceLT, reduceCtorEq]; done))).symm).trans (mrow_id (N := mrow (mrow (mrow (mrow (mrow (mrow (mrow (mrow M 1 r17) 12 r18) 13 r19) 14 r20) 15 r21) 16 (M.1 16)) 17 (M.1 17)) 18 (M.1 18)) (c := 19) (f := M.1 19) (by first | rfl | (simp only [mput, mrow_same, mrow_hit, mrow_miss, mrow_sw, idr_eq, ne_eq, Nat.reduceEqDiff, not_false_eq_true, Nat.reduceLT, reduceCtorEq]; done))).symm).trans (by first | rfl | (simp only [mput, mrow_same, mrow_hit, mrow_miss, mrow_sw, idr_eq, ne_eq, Nat.reduceEqDiff, not_false_eq_true, Nat.reduceLT, reduceCtorEq]; done))) ?_
        exact G.retv (by decide +kernel) rfl (Nat.le_of_ble_eq_true rfl) (Nat.le_of_ble_eq_true rfl) ((by rw [hQ]; simp only [v_readClause, if_pos c4, if_neg c5, if_pos c13, g15, mrow_self]))
      · skip
        rw [if_neg c13] at hk
        by_cases c24 : x2 = nI 2
        · skip
          rw [if_pos c24] at hk
          refine G.tabIn (dflt := 75) (lo := 0) (hi := 3) (offs := #[31, 39, 47, 67]) (len := 31) (off := 47) (tgt := 56) (by decide +kernel) (by rw [c24]; decide) (by rw [c24]; decide) (by rw [c24]; rfl) rfl ?_
          refine G.sl [(.aload_n 0, 1, 0, 0, 0, 0), (.aload_n 1, 1, 1, 0, 0, 0), (.aload_n 1, 1, 1, 0, 0, 0), (.iconst 0, 1, 0, 0, 0, nI 0), (.aload_n 0, 1, 0, 0, 0, 0), (.getfield 36, 3, 6, 0, 14, 0), (.iconst 1, 1, 0, 0, 0, nI 1), (.isub, 1, 0, 0, 0, 0)] [] (pc2 := 66) (ls2 := [some (.ref 12), some (.ref 1), some (.int x2)]) (st2 := [.int ((M.1 12 0) - (nI 1)), .int (nI 0), .ref 1, .ref 1, .ref 12]) (M2 := M) (Ps := []) (by decide +kernel) rfl rfl trivial ?_
          obtain ⟨k25, hk⟩ := hk
          rcases g26 : t_number (M.1 1) (M.1 2) (nI 0) ((M.1 12 0) - (nI 1)) with ⟨v27, r28⟩
          try simp only [g26] at hk
          have t29 : GM z mX6_number (d + 2) [.ref 1, .int (nI 0), .int ((M.1 12 0) - (nI 1))] M (fun rs => rs = .inl (some (.int v27), mrow M 1 r28)) := by
            have q9 := c_t_number_1 z (d + 1) M (nI 0) ((M.1 12 0) - (nI 1)) k25
            try simp only [mput, mrow_same, mrow_hit, mrow_miss, mrow_sw, idr_eq, ne_eq, Nat.reduceEqDiff, not_false_eq_true, Nat.reduceLT, reduceCtorEq, g26] at q9
            exact q9
          refine G.callV (as := [.int (nI 0), .int ((M.1 12 0) - (nI 1))]) (rest := [.ref 1, .ref 12]) (a := 1) oX6_number lk_EvenFinders_Town_100 (by decide +kernel) rfl rfl ⟨rfl, rfl⟩ (Nat.le_of_ble_eq_true rfl) rfl ⟨Nat.le_of_ble_eq_true rfl, Nat.le_of_ble_eq_true rfl⟩ t29 (fun v9 N9 h30 => ?_) (fun E9 N9 h30 => by cases h30)
          cases h30
          show G z mX7_readClause (d + 3) 0 0 69 [some (.ref 12), some (.ref 1), some (.int x2)] [.int v27, .ref 1, .ref 12] (mrow M 1 r28) Q
          refine G.sl [(.iconst (-1), 1, 0, 0, 0, (-1))] [] (pc2 := 70) (ls2 := [some (.ref 12), some (.ref 1), some (.int x2)]) (st2 := [.int ((-1)), .int v27, .ref 1, .ref 12]) (M2 := mrow M 1 r28) (Ps := []) (by decide +kernel) rfl rfl trivial ?_
          obtain ⟨k31, hk⟩ := hk
          rcases g32 : v_addThing r28 (M.1 2) (M.1 12) (M.1 16) (M.1 17) (M.1 18) v27 ((-1)) with ⟨u33, r34, r35, r36, r37, r38⟩
          have t39 : GM z mX7_addThing (d + 2) [.ref 12, .ref 1, .int v27, .int ((-1))] (mrow M 1 r28) (fun rs => rs = .inl (none, mrow (mrow (mrow (mrow (mrow M 1 r34) 12 r35) 16 r36) 17 r37) 18 r38)) := by
            have q9 := c_v_addThing_12_1 z d (mrow M 1 r28) v27 ((-1)) k31
            try simp only [mput, mrow_same, mrow_hit, mrow_miss, mrow_sw, idr_eq, ne_eq, Nat.reduceEqDiff, not_false_eq_true, Nat.reduceLT, reduceCtorEq, g32] at q9
            exact q9
          refine G.callV (as := [.ref 1, .int v27, .int ((-1))]) (rest := []) (a := 12) oX7_addThing lk_EvenFinders_Town_104 (by decide +kernel) rfl rfl ⟨rfl, rfl⟩ (Nat.le_of_ble_eq_true rfl) rfl ⟨Nat.le_of_ble_eq_true rfl, Nat.le_of_ble_eq_true rfl⟩ t39 (fun v9 N9 h40 => ?_) (fun E9 N9 h40 => by cases h40)
          cases h40
          show G z mX7_readClause (d + 3) 0 0 73 [some (.ref 12), some (.ref 1), some (.int x2)] [] (mrow (mrow (mrow (mrow (mrow M 1 r34) 12 r35) 16 r36) 17 r37) 18 r38) Q
          refine G.sl [(.goto 28, 3, 101, 0, 0, 0)] [] (pc2 := 101) (ls2 := [some (.ref 12), some (.ref 1), some (.int x2)]) (st2 := []) (M2 := mrow (mrow (mrow (mrow (mrow M 1 r34) 12 r35) 16 r36) 17 r37) 18 r38) (Ps := []) (by decide +kernel) rfl rfl trivial ?_
          refine G.mem (M' := mrow (mrow (mrow (mrow (mrow (mrow (mrow (mrow (mrow M 1 r34) 12 r35) 13 (M.1 13)) 14 (M.1 14)) 15 (M.1 15)) 16 r36) 17 r37) 18 r38) 19 (M.1 19)) ((((((mrow_id (N := mrow (mrow (mrow (mrow (mrow M 1 r34) 12 r35) 16 r36) 17 r37) 18 r38) (c := 13) (f := M.1 13) (by first | rfl | (simp only [mput, mrow_same, mrow_hit, mrow_miss, mrow_sw, idr_eq, ne_eq, Nat.reduceEqDiff, not_false_eq_true, Nat.reduceLT, reduceCtorEq]; done))).symm).trans (mrow_id (N := mrow (mrow (mrow (mrow (mrow (mrow M 1 r34) 12 r35) 16 r36) 17 r37) 18 r38) 13 (M.1 13)) (c := 14) (f := M.1 14) (by first | rfl | (simp only [mput, mrow_same, mrow_hit, mrow_miss, mrow_sw, idr_eq, ne_eq, Nat.reduceEqDiff, not_false_eq_true, Nat.reduceLT, reduceCtorEq]; done))).symm).trans (mrow_id (N := mrow (mrow (mrow (mrow (mrow (mrow (mrow M 1 r34) 12 r35) 16 r36) 17 r37) 18 r38) 13 (M.1 13)) 14 (M.1 14)) (c := 15) (f := M.1 15) (by first | rfl | (simp only [mput, mrow_same, mrow_hit, mrow_miss, mrow_sw, idr_eq, ne_eq, Nat.reduceEqDiff, not_false_eq_true, Nat.reduceLT, reduceCtorEq]; done))).symm).trans (mrow_id (N := mrow (mrow (mrow (mrow (mrow (mrow (mrow (mrow M 1 r34) 12 r35) 16 r36) 17 r37) 18 r38) 13 (M.1 13)) 14 (M.1 14)) 15 (M.1 15)) (c := 19) (f := M.1 19) (by first | rfl | (simp only [mput, mrow_same, mrow_hit, mrow_miss, mrow_sw, idr_eq, ne_eq, Nat.reduceEqDiff, not_false_eq_true, Nat.reduceLT, reduceCtorEq]; done))).symm).trans (by first | rfl | (simp only [mput, mrow_same, mrow_hit, mrow_miss, mrow_sw, idr_eq, ne_eq, Nat.reduceEqDiff, not_false_eq_true, Nat.reduceLT, reduceCtorEq]; done))) ?_
          exact G.retv (by decide +kernel) rfl (Nat.le_of_ble_eq_true rfl) (Nat.le_of_ble_eq_true rfl) ((by rw [hQ]; simp only [v_readClause, if_pos c4, if_neg c5, if_neg c13, if_pos c24, g26, g32, mrow_self]))
        · skip
          rw [if_neg c24] at hk
          by_cases c41 : x2 = nI 3
          · skip
            rw [if_pos c41] at hk
            refine G.tabIn (dflt := 75) (lo := 0) (hi := 3) (offs := #[31, 39, 47, 67]) (len := 31) (off := 67) (tgt := 76) (by decide +kernel) (by rw [c41]; decide) (by rw [c41]; decide) (by rw [c41]; rfl) rfl ?_
            refine G.sl [(.aload_n 0, 1, 0, 0, 0, 0), (.aload_n 1, 1, 1, 0, 0, 0)] [] (pc2 := 78) (ls2 := [some (.ref 12), some (.ref 1), some (.int x2)]) (st2 := [.ref 1, .ref 12]) (M2 := M) (Ps := []) (by decide +kernel) rfl rfl trivial ?_
            obtain ⟨k42, hk⟩ := hk
            rcases g43 : v_readFinder (M.1 1) (M.1 2) (M.1 12) (M.1 19) with ⟨u44, r45, r46, r47⟩
            have t48 : GM z mX7_readFinder (d + 2) [.ref 12, .ref 1] M (fun rs => rs = .inl (none, mrow (mrow (mrow M 1 r45) 12 r46) 19 r47)) := by
              have q9 := c_v_readFinder_12_1 z d M k42
              try simp only [mput, mrow_same, mrow_hit, mrow_miss, mrow_sw, idr_eq, ne_eq, Nat.reduceEqDiff, not_false_eq_true, Nat.reduceLT, reduceCtorEq, g43] at q9
              exact q9
            refine G.callV (as := [.ref 1]) (rest := []) (a := 12) oX7_readFinder lk_EvenFinders_Town_108 (by decide +kernel) rfl rfl ⟨rfl, rfl⟩ (Nat.le_of_ble_eq_true rfl) rfl ⟨Nat.le_of_ble_eq_true rfl, Nat.le_of_ble_eq_true rfl⟩ t48 (fun v9 N9 h49 => ?_) (fun E9 N9 h49 => by cases h49)
            cases h49
            show G z mX7_readClause (d + 3) 0 0 81 [some (.ref 12), some (.ref 1), some (.int x2)] [] (mrow (mrow (mrow M 1 r45) 12 r46) 19 r47) Q
            refine G.sl [(.goto 20, 3, 101, 0, 0, 0)] [] (pc2 := 101) (ls2 := [some (.ref 12), some (.ref 1), some (.int x2)]) (st2 := []) (M2 := mrow (mrow (mrow M 1 r45) 12 r46) 19 r47) (Ps := []) (by decide +kernel) rfl rfl trivial ?_
            refine G.mem (M' := mrow (mrow (mrow (mrow (mrow (mrow (mrow (mrow (mrow M 1 r45) 12 r46) 13 (M.1 13)) 14 (M.1 14)) 15 (M.1 15)) 16 (M.1 16)) 17 (M.1 17)) 18 (M.1 18)) 19 r47) ((((((((mrow_id (N := mrow (mrow (mrow M 1 r45) 12 r46) 19 r47) (c := 13) (f := M.1 13) (by first | rfl | (simp only [mput, mrow_same, mrow_hit, mrow_miss, mrow_sw, idr_eq, ne_eq, Nat.reduceEqDiff, not_false_eq_true, Nat.reduceLT, reduceCtorEq]; done))).symm).trans (mrow_id (N := mrow (mrow (mrow (mrow M 1 r45) 12 r46) 19 r47) 13 (M.1 13)) (c := 14) (f := M.1 14) (by first | rfl | (simp only [mput, mrow_same, mrow_hit, mrow_miss, mrow_sw, idr_eq, ne_eq, Nat.reduceEqDiff, not_false_eq_true, Nat.reduceLT, reduceCtorEq]; done))).symm).trans (mrow_id (N := mrow (mrow (mrow (mrow (mrow M 1 r45) 12 r46) 19 r47) 13 (M.1 13)) 14 (M.1 14)) (c := 15) (f := M.1 15) (by first | rfl | (simp only [mput, mrow_same, mrow_hit, mrow_miss, mrow_sw, idr_eq, ne_eq, Nat.reduceEqDiff, not_false_eq_true, Nat.reduceLT, reduceCtorEq]; done))).symm).trans (mrow_id (N := mrow (mrow (mrow (mrow (mrow (mrow M 1 r45) 12 r46) 19 r47) 13 (M.1 13)) 14 (M.1 14)) 15 (M.1 15)) (c := 16) (f := M.1 16) (by first | rfl | (simp only [mput, mrow_same, mrow_hit, mrow_miss, mrow_sw, idr_eq, ne_eq, Nat.reduceEqDiff, not_false_eq_true, Nat.reduceLT, reduceCtorEq]; done))).symm).trans (mrow_id (N := mrow (mrow (mrow (mrow (mrow (mrow (mrow M 1 r45) 12 r46) 19 r47) 13 (M.1 13)) 14 (M.1 14)) 15 (M.1 15)) 16 (M.1 16)) (c := 17) (f := M.1 17) (by first | rfl | (simp only [mput, mrow_same, mrow_hit, mrow_miss, mrow_sw, idr_eq, ne_eq, Nat.reduceEqDiff, not_false_eq_true, Nat.reduceLT, reduceCtorEq]; done))).symm).trans (mrow_id (N := mrow (mrow (mrow (mrow (mrow (mrow (mrow (mrow M 1 r45) 12 r46) 19 r47) 13 (M.1 13)) 14 (M.1 14)) 15 (M.1 15)) 16 (M.1 16)) 17 (M.1 17)) (c := 18) (f := M.1 18) (by first | rfl | (simp only [mput, mrow_same, mrow_hit, mrow_miss, mrow_sw, idr_eq, ne_eq, Nat.reduceEqDiff, not_false_eq_true, Nat.reduceLT, reduceCtorEq]; done))).symm).trans (by first | rfl | (simp only [mput, mrow_same, mrow_hit, mrow_miss, mrow_sw, idr_eq, ne_eq, Nat.reduceEqDiff, not_false_eq_true, Nat.reduceLT, reduceCtorEq]; done))) ?_
            exact G.retv (by decide +kernel) rfl (Nat.le_of_ble_eq_true rfl) (Nat.le_of_ble_eq_true rfl) ((by rw [hQ]; simp only [v_readClause, if_pos c4, if_neg c5, if_neg c13, if_neg c24, if_pos c41, g43, mrow_self]))
          · skip
            rw [if_neg c41] at hk
            refine G.tabOut (dflt := 75) (lo := 0) (hi := 3) (offs := #[31, 39, 47, 67]) (len := 31) (tgt := 84) (by decide +kernel) (by have q0 := toInt_ne c5; simp only [toInt_nI0] at q0; have q1 := toInt_ne c13; simp only [toInt_nI1] at q1; have q2 := toInt_ne c24; simp only [toInt_nI2] at q2; have q3 := toInt_ne c41; simp only [toInt_nI3] at q3; omega) rfl ?_
            refine G.sl [(.aload_n 0, 1, 0, 0, 0, 0), (.aload_n 1, 1, 1, 0, 0, 0), (.iconst (-1), 1, 0, 0, 0, (-1)), (.aload_n 1, 1, 1, 0, 0, 0), (.iconst 0, 1, 0, 0, 0, nI 0), (.aload_n 0, 1, 0, 0, 0, 0), (.getfield 46, 3, 6, 3, 30, 0), (.iconst 1, 1, 0, 0, 0, nI 1), (.isub, 1, 0, 0, 0, 0)] [] (pc2 := 95) (ls2 := [some (.ref 12), some (.ref 1), some (.int x2)]) (st2 := [.int ((M.1 12 3) - (nI 1)), .int (nI 0), .ref 1, .int ((-1)), .ref 1, .ref 12]) (M2 := M) (Ps := []) (by decide +kernel) rfl rfl trivial ?_
            obtain ⟨k50, hk⟩ := hk
            rcases g51 : t_number (M.1 1) (M.1 2) (nI 0) ((M.1 12 3) - (nI 1)) with ⟨v52, r53⟩
            try simp only [g51] at hk
            have t54 : GM z mX6_number (d + 2) [.ref 1, .int (nI 0), .int ((M.1 12 3) - (nI 1))] M (fun rs => rs = .inl (some (.int v52), mrow M 1 r53)) := by
              have q9 := c_t_number_1 z (d + 1) M (nI 0) ((M.1 12 3) - (nI 1)) k50
              try simp only [mput, mrow_same, mrow_hit, mrow_miss, mrow_sw, idr_eq, ne_eq, Nat.reduceEqDiff, not_false_eq_true, Nat.reduceLT, reduceCtorEq, g51] at q9
              exact q9
            refine G.callV (as := [.int (nI 0), .int ((M.1 12 3) - (nI 1))]) (rest := [.int ((-1)), .ref 1, .ref 12]) (a := 1) oX6_number lk_EvenFinders_Town_100 (by decide +kernel) rfl rfl ⟨rfl, rfl⟩ (Nat.le_of_ble_eq_true rfl) rfl ⟨Nat.le_of_ble_eq_true rfl, Nat.le_of_ble_eq_true rfl⟩ t54 (fun v9 N9 h55 => ?_) (fun E9 N9 h55 => by cases h55)
            cases h55
            show G z mX7_readClause (d + 3) 0 0 98 [some (.ref 12), some (.ref 1), some (.int x2)] [.int v52, .int ((-1)), .ref 1, .ref 12] (mrow M 1 r53) Q
            obtain ⟨k56, hk⟩ := hk
            rcases g57 : v_addThing r53 (M.1 2) (M.1 12) (M.1 16) (M.1 17) (M.1 18) ((-1)) v52 with ⟨u58, r59, r60, r61, r62, r63⟩
            have t64 : GM z mX7_addThing (d + 2) [.ref 12, .ref 1, .int ((-1)), .int v52] (mrow M 1 r53) (fun rs => rs = .inl (none, mrow (mrow (mrow (mrow (mrow M 1 r59) 12 r60) 16 r61) 17 r62) 18 r63)) := by
              have q9 := c_v_addThing_12_1 z d (mrow M 1 r53) ((-1)) v52 k56
              try simp only [mput, mrow_same, mrow_hit, mrow_miss, mrow_sw, idr_eq, ne_eq, Nat.reduceEqDiff, not_false_eq_true, Nat.reduceLT, reduceCtorEq, g57] at q9
              exact q9
            refine G.callV (as := [.ref 1, .int ((-1)), .int v52]) (rest := []) (a := 12) oX7_addThing lk_EvenFinders_Town_104 (by decide +kernel) rfl rfl ⟨rfl, rfl⟩ (Nat.le_of_ble_eq_true rfl) rfl ⟨Nat.le_of_ble_eq_true rfl, Nat.le_of_ble_eq_true rfl⟩ t64 (fun v9 N9 h65 => ?_) (fun E9 N9 h65 => by cases h65)
            cases h65
            show G z mX7_readClause (d + 3) 0 0 101 [some (.ref 12), some (.ref 1), some (.int x2)] [] (mrow (mrow (mrow (mrow (mrow M 1 r59) 12 r60) 16 r61) 17 r62) 18 r63) Q
            refine G.mem (M' := mrow (mrow (mrow (mrow (mrow (mrow (mrow (mrow (mrow M 1 r59) 12 r60) 13 (M.1 13)) 14 (M.1 14)) 15 (M.1 15)) 16 r61) 17 r62) 18 r63) 19 (M.1 19)) ((((((mrow_id (N := mrow (mrow (mrow (mrow (mrow M 1 r59) 12 r60) 16 r61) 17 r62) 18 r63) (c := 13) (f := M.1 13) (by first | rfl | (simp only [mput, mrow_same, mrow_hit, mrow_miss, mrow_sw, idr_eq, ne_eq, Nat.reduceEqDiff, not_false_eq_true, Nat.reduceLT, reduceCtorEq]; done))).symm).trans (mrow_id (N := mrow (mrow (mrow (mrow (mrow (mrow M 1 r59) 12 r60) 16 r61) 17 r62) 18 r63) 13 (M.1 13)) (c := 14) (f := M.1 14) (by first | rfl | (simp only [mput, mrow_same, mrow_hit, mrow_miss, mrow_sw, idr_eq, ne_eq, Nat.reduceEqDiff, not_false_eq_true, Nat.reduceLT, reduceCtorEq]; done))).symm).trans (mrow_id (N := mrow (mrow (mrow (mrow (mrow (mrow (mrow M 1 r59) 12 r60) 16 r61) 17 r62) 18 r63) 13 (M.1 13)) 14 (M.1 14)) (c := 15) (f := M.1 15) (by first | rfl | (simp only [mput, mrow_same, mrow_hit, mrow_miss, mrow_sw, idr_eq, ne_eq, Nat.reduceEqDiff, not_false_eq_true, Nat.reduceLT, reduceCtorEq]; done))).symm).trans (mrow_id (N := mrow (mrow (mrow (mrow (mrow (mrow (mrow (mrow M 1 r59) 12 r60) 16 r61) 17 r62) 18 r63) 13 (M.1 13)) 14 (M.1 14)) 15 (M.1 15)) (c := 19) (f := M.1 19) (by first | rfl | (simp only [mput, mrow_same, mrow_hit, mrow_miss, mrow_sw, idr_eq, ne_eq, Nat.reduceEqDiff, not_false_eq_true, Nat.reduceLT, reduceCtorEq]; done))).symm).trans (by first | rfl | (simp only [mput, mrow_same, mrow_hit, mrow_miss, mrow_sw, idr_eq, ne_eq, Nat.reduceEqDiff, not_false_eq_true, Nat.reduceLT, reduceCtorEq]; done))) ?_
            exact G.retv (by decide +kernel) rfl (Nat.le_of_ble_eq_true rfl) (Nat.le_of_ble_eq_true rfl) ((by rw [hQ]; simp only [v_readClause, if_pos c4, if_neg c5, if_neg c13, if_neg c24, if_neg c41, g51, g57, mrow_self]))
  · skip
    rw [if_neg c4] at hk
    refine G.mem (M' := mrow (mrow (mrow (mrow (mrow (mrow (mrow (mrow (mrow M 1 (M.1 1)) 12 (M.1 12)) 13 (M.1 13)) 14 (M.1 14)) 15 (M.1 15)) 16 (M.1 16)) 17 (M.1 17)) 18 (M.1 18)) 19 (M.1 19)) (((((((((((mrow_id (N := M) (c := 1) (f := M.1 1) (by first | rfl | (simp only [mput, mrow_same, mrow_hit, mrow_miss, mrow_sw, idr_eq, ne_eq, Nat.reduceEqDiff, not_false_eq_true, Nat.reduceLT, reduceCtorEq]; done))).symm).trans (mrow_id (N := mrow M 1 (M.1 1)) (c := 12) (f := M.1 12) (by first | rfl | (simp only [mput, mrow_same, mrow_hit, mrow_miss, mrow_sw, idr_eq, ne_eq, Nat.reduceEqDiff, not_false_eq_true, Nat.reduceLT, reduceCtorEq]; done))).symm).trans (mrow_id (N := mrow (mrow M 1 (M.1 1)) 12 (M.1 12)) (c := 13) (f := M.1 13) (by first | rfl | (simp only [mput, mrow_same, mrow_hit, mrow_miss, mrow_sw, idr_eq, ne_eq, Nat.reduceEqDiff, not_false_eq_true, Nat.reduceLT, reduceCtorEq]; done))).symm).trans (mrow_id (N := mrow (mrow (mrow M 1 (M.1 1)) 12 (M.1 12)) 13 (M.1 13)) (c := 14) (f := M.1 14) (by first | rfl | (simp only [mput, mrow_same, mrow_hit, mrow_miss, mrow_sw, idr_eq, ne_eq, Nat.reduceEqDiff, not_false_eq_true, Nat.reduceLT, reduceCtorEq]; done))).symm).trans (mrow_id (N := mrow (mrow (mrow (mrow M 1 (M.1 1)) 12 (M.1 12)) 13 (M.1 13)) 14 (M.1 14)) (c := 15) (f := M.1 15) (by first | rfl | (simp only [mput, mrow_same, mrow_hit, mrow_miss, mrow_sw, idr_eq, ne_eq, Nat.reduceEqDiff, not_false_eq_true, Nat.reduceLT, reduceCtorEq]; done))).symm).trans (mrow_id (N := mrow (mrow (mrow (mrow (mrow M 1 (M.1 1)) 12 (M.1 12)) 13 (M.1 13)) 14 (M.1 14)) 15 (M.1 15)) (c := 16) (f := M.1 16) (by first | rfl | (simp only [mput, mrow_same, mrow_hit, mrow_miss, mrow_sw, idr_eq, ne_eq, Nat.reduceEqDiff, not_false_eq_true, Nat.reduceLT, reduceCtorEq]; done))).symm).trans (mrow_id (N := mrow (mrow (mrow (mrow (mrow (mrow M 1 (M.1 1)) 12 (M.1 12)) 13 (M.1 13)) 14 (M.1 14)) 15 (M.1 15)) 16 (M.1 16)) (c := 17) (f := M.1 17) (by first | rfl | (simp only [mput, mrow_same, mrow_hit, mrow_miss, mrow_sw, idr_eq, ne_eq, Nat.reduceEqDiff, not_false_eq_true, Nat.reduceLT, reduceCtorEq]; done))).symm).trans (mrow_id (N := mrow (mrow (mrow (mrow (mrow (mrow (mrow M 1 (M.1 1)) 12 (M.1 12)) 13 (M.1 13)) 14 (M.1 14)) 15 (M.1 15)) 16 (M.1 16)) 17 (M.1 17)) (c := 18) (f := M.1 18) (by first | rfl | (simp only [mput, mrow_same, mrow_hit, mrow_miss, mrow_sw, idr_eq, ne_eq, Nat.reduceEqDiff, not_false_eq_true, Nat.reduceLT, reduceCtorEq]; done))).symm).trans (mrow_id (N := mrow (mrow (mrow (mrow (mrow (mrow (mrow (mrow M 1 (M.1 1)) 12 (M.1 12)) 13 (M.1 13)) 14 (M.1 14)) 15 (M.1 15)) 16 (M.1 16)) 17 (M.1 17)) 18 (M.1 18)) (c := 19) (f := M.1 19) (by first | rfl | (simp only [mput, mrow_same, mrow_hit, mrow_miss, mrow_sw, idr_eq, ne_eq, Nat.reduceEqDiff, not_false_eq_true, Nat.reduceLT, reduceCtorEq]; done))).symm).trans (by first | rfl | (simp only [mput, mrow_same, mrow_hit, mrow_miss, mrow_sw, idr_eq, ne_eq, Nat.reduceEqDiff, not_false_eq_true, Nat.reduceLT, reduceCtorEq]; done))) ?_
    exact G.retv (by decide +kernel) rfl (Nat.le_of_ble_eq_true rfl) (Nat.le_of_ble_eq_true rfl) ((by rw [hQ]; simp only [v_readClause, if_neg c4, mrow_self]))
