set_option maxHeartbeats 4000000 in
set_option maxRecDepth 3000 in
theorem lp_k_valueNow_54_4 (z : Zp) (d : Nat) (M : Mem) (Q : Rs → Prop) : ∀ (k0 : Nat) (s1 : Int32) (s2 : Int32) (q67 : (Nat → Int32)), k_valueNow_4_ok (M.1 54) (M.1 65) (M.1 66) (M.1 68) k0 s1 s2 q67 → (match k_valueNow_4 (M.1 54) (M.1 65) (M.1 66) (M.1 68) k0 s1 s2 q67 with | (s1', s2', q67') => G z mX12_valueNow (d + 1) 0 0 95 [some (.ref 54), none, none, none] [] (mrow M 67 (q67')) Q) → G z mX12_valueNow (d + 1) 0 0 4 [some (.ref 54), some (.int s1), some (.int s2), none] [] (mrow M 67 q67) Q := by
  intro k0
  induction k0 with
  | zero =>
      intro s1 s2 q67 hk hX
      exact (by simpa only [k_valueNow_4_ok] using hk : False).elim
  | succ k0 ih =>
      intro s1 s2 q67 hk hX
      simp only [k_valueNow_4_ok] at hk
      refine G.sl [(.iload_n 2, 1, 2, 0, 0, 0), (.aload_n 0, 1, 0, 0, 0, 0), (.getfield 172, 3, 11, 30, 153, 0)] [] (pc2 := 9) (ls2 := [some (.ref 54), some (.int s1), some (.int s2), none]) (st2 := [.int (M.1 54 30), .int s2]) (M2 := mrow M 67 q67) (Ps := []) (by decide +kernel) rfl rfl trivial ?_
      refine G.ic_ge (off := (86)) (tgt := 95) (by decide +kernel) rfl (fun c1 => ?_) (fun c1 => ?_)
      · skip
        rw [if_pos c1] at hk
        refine G.loc (ls2 := [some (.ref 54), none, none, none]) (by simp [subL]) ?_
        simp only [k_valueNow_4, if_pos c1] at hX
        exact hX
      · skip
        rw [if_neg c1] at hk
        obtain ⟨k2, k3, hk⟩ := hk
        refine G.sl [(.aload_n 0, 1, 0, 0, 0, 0), (.getfield 47, 3, 11, 26, 149, 0), (.iload_n 2, 1, 2, 0, 0, 0), (.iaload, 1, 0, 0, 0, 0), (.istore_n 3, 1, 3, 0, 0, 0), (.iload_n 3, 1, 3, 0, 0, 0), (.iconst 1, 1, 0, 0, 0, nI 1)] [ix s2] (pc2 := 21) (ls2 := [some (.ref 54), some (.int s1), some (.int s2), some (.int (M.1 65 (ix s2)))]) (st2 := [.int (nI 1), .int (M.1 65 (ix s2))]) (M2 := mrow M 67 q67) (Ps := [s2 = nI (ix s2) ∧ (ix s2) < 150]) (by decide +kernel) rfl rfl ⟨⟨(ixE k2), k3⟩, trivial⟩ ?_
        refine G.ic_gt (off := (39)) (tgt := 60) (by decide +kernel) rfl (fun c4 => ?_) (fun c4 => ?_)
        · skip
          rw [if_pos c4] at hk
          refine G.sl [(.iinc 1 (-1), 3, 1, 0, 0, (-1))] [] (pc2 := 63) (ls2 := [some (.ref 54), some (.int (s1 + (-1))), some (.int s2), some (.int (M.1 65 (ix s2)))]) (st2 := []) (M2 := mrow M 67 q67) (Ps := []) (by decide +kernel) rfl rfl trivial ?_
          obtain ⟨w5, hw5⟩ : ∃ w : Int32, w = (s1 + (-1)) := ⟨_, rfl⟩
          rw [← hw5]
          try rw [← hw5] at hk
          obtain ⟨k6, k7, k8, k9, hk⟩ := hk
          refine G.sl [(.aload_n 0, 1, 0, 0, 0, 0), (.getfield 53, 3, 11, 28, 151, 0), (.iload_n 1, 1, 1, 0, 0, 0), (.iconst 1, 1, 0, 0, 0, nI 1), (.isub, 1, 0, 0, 0, 0), (.iload_n 3, 1, 3, 0, 0, 0), (.aload_n 0, 1, 0, 0, 0, 0), (.getfield 53, 3, 11, 28, 151, 0), (.iload_n 1, 1, 1, 0, 0, 0), (.iconst 1, 1, 0, 0, 0, nI 1), (.isub, 1, 0, 0, 0, 0), (.iaload, 1, 0, 0, 0, 0), (.aload_n 0, 1, 0, 0, 0, 0), (.getfield 53, 3, 11, 28, 151, 0), (.iload_n 1, 1, 1, 0, 0, 0), (.iaload, 1, 0, 0, 0, 0)] [ix (w5 - (nI 1)), ix w5] (pc2 := 85) (ls2 := [some (.ref 54), some (.int w5), some (.int s2), some (.int (M.1 65 (ix s2)))]) (st2 := [.int (q67 (ix w5)), .int (q67 (ix (w5 - (nI 1)))), .int (M.1 65 (ix s2)), .int (w5 - (nI 1)), .ref 67]) (M2 := mrow M 67 q67) (Ps := [(w5 - (nI 1)) = nI (ix (w5 - (nI 1))) ∧ (ix (w5 - (nI 1))) < 150, w5 = nI (ix w5) ∧ (ix w5) < 150]) (by decide +kernel) rfl rfl ⟨⟨(ixE k6), k7⟩, ⟨(ixE k8), k9⟩, trivial⟩ ?_
          obtain ⟨k10, hk⟩ := hk
          have t11 : GM z mX12_both (d) [.int (M.1 65 (ix s2)), .int (q67 (ix (w5 - (nI 1)))), .int (q67 (ix w5))] (mrow M 67 q67) (fun rs => rs = .inl (some (.int (k_both (M.1 65 (ix s2)) (q67 (ix (w5 - (nI 1)))) (q67 (ix w5)))), mrow M 67 q67)) := by
            have q9 := c_k_both z d (mrow M 67 q67) (M.1 65 (ix s2)) (q67 (ix (w5 - (nI 1)))) (q67 (ix w5))
            try simp only [mput, mrow_same, mrow_hit, mrow_miss, mrow_sw, idr_eq, ne_eq, Nat.reduceEqDiff, not_false_eq_true, Nat.reduceLT, reduceCtorEq] at q9
            exact q9
          refine G.callS (as := [.int (M.1 65 (ix s2)), .int (q67 (ix (w5 - (nI 1)))), .int (q67 (ix w5))]) (rest := [.int (w5 - (nI 1)), .ref 67]) oX12_both lk_EvenFindersModel_288 (by decide +kernel) rfl (Nat.le_of_ble_eq_true rfl) rfl ⟨Nat.le_of_ble_eq_true rfl, Nat.le_of_ble_eq_true rfl⟩ t11 (fun v9 N9 h12 => ?_) (fun E9 N9 h12 => by cases h12)
          cases h12
          show G z mX12_valueNow (d + 1) 0 0 88 [some (.ref 54), some (.int w5), some (.int s2), some (.int (M.1 65 (ix s2)))] [.int (k_both (M.1 65 (ix s2)) (q67 (ix (w5 - (nI 1)))) (q67 (ix w5))), .int (w5 - (nI 1)), .ref 67] (mrow M 67 q67) Q
          refine G.sl [(.iastore, 1, 0, 0, 0, 0), (.iinc 2 1, 3, 2, 0, 0, nI 1), (.goto (-88), 3, 4, 0, 0, 0)] [ix (w5 - (nI 1))] (pc2 := 4) (ls2 := [some (.ref 54), some (.int w5), some (.int (s2 + nI 1)), some (.int (M.1 65 (ix s2)))]) (st2 := []) (M2 := mput (mrow M 67 q67) 67 (ix (w5 - (nI 1))) (k_both (M.1 65 (ix s2)) (q67 (ix (w5 - (nI 1)))) (q67 (ix w5)))) (Ps := [(w5 - (nI 1)) = nI (ix (w5 - (nI 1))) ∧ (ix (w5 - (nI 1))) < 150]) (by decide +kernel) rfl rfl ⟨⟨(ixE k6), k7⟩, trivial⟩ ?_
          refine G.mem (M' := mrow M 67 (upd q67 (ix (w5 - (nI 1))) (k_both (M.1 65 (ix s2)) (q67 (ix (w5 - (nI 1)))) (q67 (ix w5))))) (by first | rfl | (simp only [mput, mrow_same, mrow_hit, mrow_miss, mrow_sw, idr_eq, ne_eq, Nat.reduceEqDiff, not_false_eq_true, Nat.reduceLT, reduceCtorEq]; done)) ?_
          refine G.loc (ls2 := [some (.ref 54), some (.int w5), some (.int (s2 + nI 1)), none]) (by simp [subL]) ?_
          simp only [k_valueNow_4, if_neg c1, if_pos c4, ← hw5] at hX
          exact ih w5 (s2 + nI 1) (upd q67 (ix (w5 - (nI 1))) (k_both (M.1 65 (ix s2)) (q67 (ix (w5 - (nI 1)))) (q67 (ix w5)))) hk hX
        · skip
          rw [if_neg c4] at hk
          refine G.sl [(.aload_n 0, 1, 0, 0, 0, 0), (.getfield 53, 3, 11, 28, 151, 0), (.iload_n 1, 1, 1, 0, 0, 0), (.iload_n 3, 1, 3, 0, 0, 0)] [] (pc2 := 30) (ls2 := [some (.ref 54), some (.int s1), some (.int s2), some (.int (M.1 65 (ix s2)))]) (st2 := [.int (M.1 65 (ix s2)), .int s1, .ref 67]) (M2 := mrow M 67 q67) (Ps := []) (by decide +kernel) rfl rfl trivial ?_
          refine G.if_ne (off := (12)) (tgt := 42) (by decide +kernel) rfl (fun c13 => ?_) (fun c13 => ?_)
          · skip
            rw [if_neg c13] at hk
            obtain ⟨k14, k15, k16, k17, hk⟩ := hk
            refine G.sl [(.aload_n 0, 1, 0, 0, 0, 0), (.getfield 56, 3, 11, 31, 154, 0), (.aload_n 0, 1, 0, 0, 0, 0), (.getfield 50, 3, 11, 27, 150, 0), (.iload_n 2, 1, 2, 0, 0, 0), (.iaload, 1, 0, 0, 0, 0), (.iaload, 1, 0, 0, 0, 0), (.iastore, 1, 0, 0, 0, 0), (.iinc 1 1, 3, 1, 0, 0, nI 1), (.goto 32, 3, 89, 0, 0, 0), (.iinc 2 1, 3, 2, 0, 0, nI 1), (.goto (-88), 3, 4, 0, 0, 0)] [ix s2, ix (M.1 66 (ix s2)), ix s1] (pc2 := 4) (ls2 := [some (.ref 54), some (.int (s1 + nI 1)), some (.int (s2 + nI 1)), some (.int (M.1 65 (ix s2)))]) (st2 := []) (M2 := mput (mrow M 67 q67) 67 (ix s1) (M.1 68 (ix (M.1 66 (ix s2))))) (Ps := [s2 = nI (ix s2) ∧ (ix s2) < 150, (M.1 66 (ix s2)) = nI (ix (M.1 66 (ix s2))) ∧ (ix (M.1 66 (ix s2))) < 8, s1 = nI (ix s1) ∧ (ix s1) < 150]) (by decide +kernel) rfl rfl ⟨⟨(ixE k2), k3⟩, ⟨(ixE k14), k15⟩, ⟨(ixE k16), k17⟩, trivial⟩ ?_
            refine G.mem (M' := mrow M 67 (upd q67 (ix s1) (M.1 68 (ix (M.1 66 (ix s2)))))) (by first | rfl | (simp only [mput, mrow_same, mrow_hit, mrow_miss, mrow_sw, idr_eq, ne_eq, Nat.reduceEqDiff, not_false_eq_true, Nat.reduceLT, reduceCtorEq]; done)) ?_
            refine G.loc (ls2 := [some (.ref 54), some (.int (s1 + nI 1)), some (.int (s2 + nI 1)), none]) (by simp [subL]) ?_
            simp only [k_valueNow_4, if_neg c1, if_neg c4, if_neg c13] at hX
            exact ih (s1 + nI 1) (s2 + nI 1) (upd q67 (ix s1) (M.1 68 (ix (M.1 66 (ix s2))))) hk hX
          · skip
            rw [if_pos c13] at hk
            obtain ⟨k18, k19, hk⟩ := hk
            refine G.sl [(.aload_n 0, 1, 0, 0, 0, 0), (.getfield 50, 3, 11, 27, 150, 0), (.iload_n 2, 1, 2, 0, 0, 0), (.iaload, 1, 0, 0, 0, 0), (.goto 14, 3, 53, 0, 0, 0), (.iastore, 1, 0, 0, 0, 0), (.iinc 1 1, 3, 1, 0, 0, nI 1), (.goto 32, 3, 89, 0, 0, 0), (.iinc 2 1, 3, 2, 0, 0, nI 1), (.goto (-88), 3, 4, 0, 0, 0)] [ix s2, ix s1] (pc2 := 4) (ls2 := [some (.ref 54), some (.int (s1 + nI 1)), some (.int (s2 + nI 1)), some (.int (M.1 65 (ix s2)))]) (st2 := []) (M2 := mput (mrow M 67 q67) 67 (ix s1) (M.1 66 (ix s2))) (Ps := [s2 = nI (ix s2) ∧ (ix s2) < 150, s1 = nI (ix s1) ∧ (ix s1) < 150]) (by decide +kernel) rfl rfl ⟨⟨(ixE k2), k3⟩, ⟨(ixE k18), k19⟩, trivial⟩ ?_
            refine G.mem (M' := mrow M 67 (upd q67 (ix s1) (M.1 66 (ix s2)))) (by first | rfl | (simp only [mput, mrow_same, mrow_hit, mrow_miss, mrow_sw, idr_eq, ne_eq, Nat.reduceEqDiff, not_false_eq_true, Nat.reduceLT, reduceCtorEq]; done)) ?_
            refine G.loc (ls2 := [some (.ref 54), some (.int (s1 + nI 1)), some (.int (s2 + nI 1)), none]) (by simp [subL]) ?_
            simp only [k_valueNow_4, if_neg c1, if_neg c4, if_pos c13] at hX
            exact ih (s1 + nI 1) (s2 + nI 1) (upd q67 (ix s1) (M.1 66 (ix s2))) hk hX
set_option maxHeartbeats 4000000 in
set_option maxRecDepth 3000 in
theorem c_k_valueNow_54 (z : Zp) (d : Nat) (M : Mem) (hk : k_valueNow_ok (M.1 54) (M.1 65) (M.1 66) (M.1 67) (M.1 68)) : GM z mX12_valueNow (d + 1) [.ref 54] M (fun rs => rs = .inl (some (.int ((k_valueNow (M.1 54) (M.1 65) (M.1 66) (M.1 67) (M.1 68)).1)), mrow M 67 ((k_valueNow (M.1 54) (M.1 65) (M.1 66) (M.1 67) (M.1 68)).2))) := by
  simp only [k_valueNow_ok] at hk
  refine GM.of oX12_valueNow.1 (Nat.le_of_ble_eq_true rfl) ?_
  show G z mX12_valueNow (d + 1) 0 0 0 [some (.ref 54), none, none, none] [] M _
  obtain ⟨Q, hQ⟩ : ∃ Q : Rs → Prop, Q = (fun rs => rs = .inl (some (.int ((k_valueNow (M.1 54) (M.1 65) (M.1 66) (M.1 67) (M.1 68)).1)), mrow M 67 ((k_valueNow (M.1 54) (M.1 65) (M.1 66) (M.1 67) (M.1 68)).2))) := ⟨_, rfl⟩
  rw [← hQ]
  refine G.sl [(.iconst 0, 1, 0, 0, 0, nI 0), (.istore_n 1, 1, 1, 0, 0, 0), (.iconst 0, 1, 0, 0, 0, nI 0), (.istore_n 2, 1, 2, 0, 0, 0)] [] (pc2 := 4) (ls2 := [some (.ref 54), some (.int (nI 0)), some (.int (nI 0)), none]) (st2 := []) (M2 := M) (Ps := []) (by decide +kernel) rfl rfl trivial ?_
  obtain ⟨k20, hk⟩ := hk
  refine G.mem (M' := mrow M 67 (M.1 67)) (by simp only [mrow_self]) ?_
  refine lp_k_valueNow_54_4 z d M Q FU (nI 0) (nI 0) (M.1 67) (by first | (simp only [mput, mrow_same, mrow_hit, mrow_miss, mrow_sw, idr_eq, ne_eq, Nat.reduceEqDiff, not_false_eq_true, Nat.reduceLT, reduceCtorEq]; exact k20) | exact k20) ?_
  try simp only [mput, mrow_same, mrow_hit, mrow_miss, mrow_sw, idr_eq, ne_eq, Nat.reduceEqDiff, not_false_eq_true, Nat.reduceLT, reduceCtorEq]
  rcases g21 : k_valueNow_4 (M.1 54) (M.1 65) (M.1 66) (M.1 68) FU (nI 0) (nI 0) (M.1 67) with ⟨v22, v23, r24⟩
  show G z mX12_valueNow (d + 1) 0 0 95 [some (.ref 54), none, none, none] [] (mrow M 67 r24) Q
  refine G.sl [(.aload_n 0, 1, 0, 0, 0, 0), (.getfield 53, 3, 11, 28, 151, 0), (.iconst 0, 1, 0, 0, 0, nI 0), (.iaload, 1, 0, 0, 0, 0)] [0] (pc2 := 101) (ls2 := [some (.ref 54), none, none, none]) (st2 := [.int (r24 0)]) (M2 := mrow M 67 r24) (Ps := [(nI 0) = nI 0 ∧ 0 < 150]) (by decide +kernel) rfl rfl ⟨⟨rfl, (by omega)⟩, trivial⟩ ?_
  exact G.reti (by decide +kernel) rfl rfl (Nat.le_of_ble_eq_true rfl) (Nat.le_of_ble_eq_true rfl) ((by rw [hQ]; simp only [k_valueNow, g21, mrow_self]))
set_option maxHeartbeats 4000000 in
set_option maxRecDepth 3000 in
theorem c_k_dutyNow_54 (z : Zp) (d : Nat) (M : Mem) (hk : k_dutyNow_ok (M.1 54) (M.1 65) (M.1 66) (M.1 67) (M.1 68)) : GM z mX12_dutyNow (d + 2) [.ref 54] M (fun rs => rs = .inl (some (.int ((k_dutyNow (M.1 54) (M.1 65) (M.1 66) (M.1 67) (M.1 68)).1)), mrow M 67 ((k_dutyNow (M.1 54) (M.1 65) (M.1 66) (M.1 67) (M.1 68)).2))) := by
  simp only [k_dutyNow_ok] at hk
  refine GM.of oX12_dutyNow.1 (Nat.le_of_ble_eq_true rfl) ?_
  show G z mX12_dutyNow (d + 2) 0 0 0 [some (.ref 54), none] [] M _
  obtain ⟨Q, hQ⟩ : ∃ Q : Rs → Prop, Q = (fun rs => rs = .inl (some (.int ((k_dutyNow (M.1 54) (M.1 65) (M.1 66) (M.1 67) (M.1 68)).1)), mrow M 67 ((k_dutyNow (M.1 54) (M.1 65) (M.1 66) (M.1 67) (M.1 68)).2))) := ⟨_, rfl⟩
  rw [← hQ]
  refine G.sl [(.aload_n 0, 1, 0, 0, 0, 0), (.getfield 172, 3, 11, 30, 153, 0)] [] (pc2 := 4) (ls2 := [some (.ref 54), none]) (st2 := [.int (M.1 54 30)]) (M2 := M) (Ps := []) (by decide +kernel) rfl rfl trivial ?_
  refine G.if_ne (off := (12)) (tgt := 16) (by decide +kernel) rfl (fun c1 => ?_) (fun c1 => ?_)
  · skip
    rw [if_neg c1] at hk
    refine G.sl [(.aload_n 0, 1, 0, 0, 0, 0)] [] (pc2 := 17) (ls2 := [some (.ref 54), none]) (st2 := [.ref 54]) (M2 := M) (Ps := []) (by decide +kernel) rfl rfl trivial ?_
    obtain ⟨k2, hk⟩ := hk
    rcases g3 : k_valueNow (M.1 54) (M.1 65) (M.1 66) (M.1 67) (M.1 68) with ⟨v4, r5⟩
    have t6 : GM z mX12_valueNow (d + 1) [.ref 54] M (fun rs => rs = .inl (some (.int v4), mrow M 67 r5)) := by
      have q9 := c_k_valueNow_54 z d M k2
      try simp only [mput, mrow_same, mrow_hit, mrow_miss, mrow_sw, idr_eq, ne_eq, Nat.reduceEqDiff, not_false_eq_true, Nat.reduceLT, reduceCtorEq, g3] at q9
      exact q9
    refine G.callV (as := []) (rest := []) (a := 54) oX12_valueNow lk_EvenFindersModel_292 (by decide +kernel) rfl rfl ⟨rfl, rfl⟩ (Nat.le_of_ble_eq_true rfl) rfl ⟨Nat.le_of_ble_eq_true rfl, Nat.le_of_ble_eq_true rfl⟩ t6 (fun v9 N9 h7 => ?_) (fun E9 N9 h7 => by cases h7)
    cases h7
    show G z mX12_dutyNow (d + 2) 0 0 20 [some (.ref 54), none] [.int v4] (mrow M 67 r5) Q
    refine G.sl [(.istore_n 1, 1, 1, 0, 0, 0), (.iload_n 1, 1, 1, 0, 0, 0)] [] (pc2 := 22) (ls2 := [some (.ref 54), some (.int v4)]) (st2 := [.int v4]) (M2 := mrow M 67 r5) (Ps := []) (by decide +kernel) rfl rfl trivial ?_
    refine G.if_ge (off := (7)) (tgt := 29) (by decide +kernel) rfl (fun c8 => ?_) (fun c8 => ?_)
    · skip
      refine G.sl [(.iload_n 1, 1, 1, 0, 0, 0), (.bipush 99, 2, 0, 0, 0, nI 99)] [] (pc2 := 32) (ls2 := [some (.ref 54), some (.int v4)]) (st2 := [.int (nI 99), .int v4]) (M2 := mrow M 67 r5) (Ps := []) (by decide +kernel) rfl rfl trivial ?_
      refine G.ic_le (off := (8)) (tgt := 40) (by decide +kernel) rfl (fun c9 => ?_) (fun c9 => ?_)
      · skip
        refine G.sl [(.iload_n 1, 1, 1, 0, 0, 0)] [] (pc2 := 41) (ls2 := [some (.ref 54), some (.int v4)]) (st2 := [.int v4]) (M2 := mrow M 67 r5) (Ps := []) (by decide +kernel) rfl rfl trivial ?_
        exact G.reti (by decide +kernel) rfl rfl (Nat.le_of_ble_eq_true rfl) (Nat.le_of_ble_eq_true rfl) ((by rw [hQ]; simp only [k_dutyNow, if_neg c1, g3, if_pos c8, if_pos c9, mrow_self]))
      · skip
        refine G.sl [(.bipush 99, 2, 0, 0, 0, nI 99), (.goto 4, 3, 41, 0, 0, 0)] [] (pc2 := 41) (ls2 := [some (.ref 54), some (.int v4)]) (st2 := [.int (nI 99)]) (M2 := mrow M 67 r5) (Ps := []) (by decide +kernel) rfl rfl trivial ?_
        exact G.reti (by decide +kernel) rfl rfl (Nat.le_of_ble_eq_true rfl) (Nat.le_of_ble_eq_true rfl) ((by rw [hQ]; simp only [k_dutyNow, if_neg c1, g3, if_pos c8, if_neg c9, mrow_self]))
    · skip
      refine G.sl [(.iconst 0, 1, 0, 0, 0, nI 0), (.goto 15, 3, 41, 0, 0, 0)] [] (pc2 := 41) (ls2 := [some (.ref 54), some (.int v4)]) (st2 := [.int (nI 0)]) (M2 := mrow M 67 r5) (Ps := []) (by decide +kernel) rfl rfl trivial ?_
      exact G.reti (by decide +kernel) rfl rfl (Nat.le_of_ble_eq_true rfl) (Nat.le_of_ble_eq_true rfl) ((by rw [hQ]; simp only [k_dutyNow, if_neg c1, g3, if_neg c8, mrow_self]))
  · skip
    rw [if_pos c1] at hk
    refine G.sl [(.aload_n 0, 1, 0, 0, 0, 0), (.getfield 56, 3, 11, 31, 154, 0), (.iconst 0, 1, 0, 0, 0, nI 0), (.iaload, 1, 0, 0, 0, 0), (.goto 7, 3, 20, 0, 0, 0), (.istore_n 1, 1, 1, 0, 0, 0), (.iload_n 1, 1, 1, 0, 0, 0)] [0] (pc2 := 22) (ls2 := [some (.ref 54), some (.int (M.1 68 0))]) (st2 := [.int (M.1 68 0)]) (M2 := M) (Ps := [(nI 0) = nI 0 ∧ 0 < 8]) (by decide +kernel) rfl rfl ⟨⟨rfl, (by omega)⟩, trivial⟩ ?_
    refine G.if_ge (off := (7)) (tgt := 29) (by decide +kernel) rfl (fun c10 => ?_) (fun c10 => ?_)
    · skip
      refine G.sl [(.iload_n 1, 1, 1, 0, 0, 0), (.bipush 99, 2, 0, 0, 0, nI 99)] [] (pc2 := 32) (ls2 := [some (.ref 54), some (.int (M.1 68 0))]) (st2 := [.int (nI 99), .int (M.1 68 0)]) (M2 := M) (Ps := []) (by decide +kernel) rfl rfl trivial ?_
      refine G.ic_le (off := (8)) (tgt := 40) (by decide +kernel) rfl (fun c11 => ?_) (fun c11 => ?_)
      · skip
        refine G.sl [(.iload_n 1, 1, 1, 0, 0, 0)] [] (pc2 := 41) (ls2 := [some (.ref 54), some (.int (M.1 68 0))]) (st2 := [.int (M.1 68 0)]) (M2 := M) (Ps := []) (by decide +kernel) rfl rfl trivial ?_
        refine G.mem (M' := mrow M 67 (M.1 67)) (((mrow_id (N := M) (c := 67) (f := M.1 67) (by first | rfl | (simp only [mput, mrow_same, mrow_hit, mrow_miss, mrow_sw, idr_eq, ne_eq, Nat.reduceEqDiff, not_false_eq_true, Nat.reduceLT, reduceCtorEq]; done))).symm).trans (by first | rfl | (simp only [mput, mrow_same, mrow_hit, mrow_miss, mrow_sw, idr_eq, ne_eq, Nat.reduceEqDiff, not_false_eq_true, Nat.reduceLT, reduceCtorEq]; done))) ?_
        exact G.reti (by decide +kernel) rfl rfl (Nat.le_of_ble_eq_true rfl) (Nat.le_of_ble_eq_true rfl) ((by rw [hQ]; simp only [k_dutyNow, if_pos c1, if_pos c10, if_pos c11, mrow_self]))
      · skip
        refine G.sl [(.bipush 99, 2, 0, 0, 0, nI 99), (.goto 4, 3, 41, 0, 0, 0)] [] (pc2 := 41) (ls2 := [some (.ref 54), some (.int (M.1 68 0))]) (st2 := [.int (nI 99)]) (M2 := M) (Ps := []) (by decide +kernel) rfl rfl trivial ?_
        refine G.mem (M' := mrow M 67 (M.1 67)) (((mrow_id (N := M) (c := 67) (f := M.1 67) (by first | rfl | (simp only [mput, mrow_same, mrow_hit, mrow_miss, mrow_sw, idr_eq, ne_eq, Nat.reduceEqDiff, not_false_eq_true, Nat.reduceLT, reduceCtorEq]; done))).symm).trans (by first | rfl | (simp only [mput, mrow_same, mrow_hit, mrow_miss, mrow_sw, idr_eq, ne_eq, Nat.reduceEqDiff, not_false_eq_true, Nat.reduceLT, reduceCtorEq]; done))) ?_
        exact G.reti (by decide +kernel) rfl rfl (Nat.le_of_ble_eq_true rfl) (Nat.le_of_ble_eq_true rfl) ((by rw [hQ]; simp only [k_dutyNow, if_pos c1, if_pos c10, if_neg c11, mrow_self]))
    · skip
      refine G.sl [(.iconst 0, 1, 0, 0, 0, nI 0), (.goto 15, 3, 41, 0, 0, 0)] [] (pc2 := 41) (ls2 := [some (.ref 54), some (.int (M.1 68 0))]) (st2 := [.int (nI 0)]) (M2 := M) (Ps := []) (by decide +kernel) rfl rfl trivial ?_
      refine G.mem (M' := mrow M 67 (M.1 67)) (((mrow_id (N := M) (c := 67) (f := M.1 67) (by first | rfl | (simp only [mput, mrow_same, mrow_hit, mrow_miss, mrow_sw, idr_eq, ne_eq, Nat.reduceEqDiff, not_false_eq_true, Nat.reduceLT, reduceCtorEq]; done))).symm).trans (by first | rfl | (simp only [mput, mrow_same, mrow_hit, mrow_miss, mrow_sw, idr_eq, ne_eq, Nat.reduceEqDiff, not_false_eq_true, Nat.reduceLT, reduceCtorEq]; done))) ?_
      exact G.reti (by decide +kernel) rfl rfl (Nat.le_of_ble_eq_true rfl) (Nat.le_of_ble_eq_true rfl) ((by rw [hQ]; simp only [k_dutyNow, if_pos c1, if_neg c10, mrow_self]))
set_option maxHeartbeats 4000000 in
set_option maxRecDepth 3000 in
theorem c_k_dutyOf_54 (z : Zp) (d : Nat) (M : Mem) (x1 : Int32) (x2 : Int32) (x3 : Int32) (x4 : Int32) (x5 : Int32) (x6 : Int32) (x7 : Int32) (x8 : Int32) (hk : k_dutyOf_ok (M.1 54) (M.1 65) (M.1 66) (M.1 67) (M.1 68) x1 x2 x3 x4 x5 x6 x7 x8) : GM z mX12_dutyOf (d + 3) [.ref 54, .int x1, .int x2, .int x3, .int x4, .int x5, .int x6, .int x7, .int x8] M (fun rs => rs = .inl (some (.int ((k_dutyOf (M.1 54) (M.1 65) (M.1 66) (M.1 67) (M.1 68) x1 x2 x3 x4 x5 x6 x7 x8).1)), mrow (mrow M 67 ((k_dutyOf (M.1 54) (M.1 65) (M.1 66) (M.1 67) (M.1 68) x1 x2 x3 x4 x5 x6 x7 x8).2.1)) 68 ((k_dutyOf (M.1 54) (M.1 65) (M.1 66) (M.1 67) (M.1 68) x1 x2 x3 x4 x5 x6 x7 x8).2.2))) := by
  simp only [k_dutyOf_ok] at hk
  refine GM.of oX12_dutyOf.1 (Nat.le_of_ble_eq_true rfl) ?_
  show G z mX12_dutyOf (d + 3) 0 0 0 [some (.ref 54), some (.int x1), some (.int x2), some (.int x3), some (.int x4), some (.int x5), some (.int x6), some (.int x7), some (.int x8)] [] M _
  obtain ⟨Q, hQ⟩ : ∃ Q : Rs → Prop, Q = (fun rs => rs = .inl (some (.int ((k_dutyOf (M.1 54) (M.1 65) (M.1 66) (M.1 67) (M.1 68) x1 x2 x3 x4 x5 x6 x7 x8).1)), mrow (mrow M 67 ((k_dutyOf (M.1 54) (M.1 65) (M.1 66) (M.1 67) (M.1 68) x1 x2 x3 x4 x5 x6 x7 x8).2.1)) 68 ((k_dutyOf (M.1 54) (M.1 65) (M.1 66) (M.1 67) (M.1 68) x1 x2 x3 x4 x5 x6 x7 x8).2.2))) := ⟨_, rfl⟩
  rw [← hQ]
  refine G.sl [(.aload_n 0, 1, 0, 0, 0, 0), (.getfield 56, 3, 11, 31, 154, 0), (.iconst 0, 1, 0, 0, 0, nI 0), (.iload_n 1, 1, 1, 0, 0, 0), (.iastore, 1, 0, 0, 0, 0), (.aload_n 0, 1, 0, 0, 0, 0), (.getfield 56, 3, 11, 31, 154, 0), (.iconst 1, 1, 0, 0, 0, nI 1), (.iload_n 2, 1, 2, 0, 0, 0), (.iastore, 1, 0, 0, 0, 0), (.aload_n 0, 1, 0, 0, 0, 0), (.getfield 56, 3, 11, 31, 154, 0), (.iconst 2, 1, 0, 0, 0, nI 2), (.iload_n 3, 1, 3, 0, 0, 0), (.iastore, 1, 0, 0, 0, 0), (.aload_n 0, 1, 0, 0, 0, 0), (.getfield 56, 3, 11, 31, 154, 0), (.iconst 3, 1, 0, 0, 0, nI 3), (.iload 4, 2, 4, 0, 0, 0), (.iastore, 1, 0, 0, 0, 0), (.aload_n 0, 1, 0, 0, 0, 0), (.getfield 56, 3, 11, 31, 154, 0), (.iconst 4, 1, 0, 0, 0, nI 4), (.iload 5, 2, 5, 0, 0, 0), (.iastore, 1, 0, 0, 0, 0), (.aload_n 0, 1, 0, 0, 0, 0), (.getfield 56, 3, 11, 31, 154, 0), (.iconst 5, 1, 0, 0, 0, nI 5), (.iload 6, 2, 6, 0, 0, 0), (.iastore, 1, 0, 0, 0, 0), (.aload_n 0, 1, 0, 0, 0, 0), (.getfield 56, 3, 11, 31, 154, 0), (.bipush 6, 2, 0, 0, 0, nI 6), (.iload 7, 2, 7, 0, 0, 0), (.iastore, 1, 0, 0, 0, 0), (.aload_n 0, 1, 0, 0, 0, 0), (.getfield 56, 3, 11, 31, 154, 0), (.bipush 7, 2, 0, 0, 0, nI 7), (.iload 8, 2, 8, 0, 0, 0), (.iastore, 1, 0, 0, 0, 0), (.aload_n 0, 1, 0, 0, 0, 0)] [0, 1, 2, 3, 4, 5, 6, 7] (pc2 := 64) (ls2 := [some (.ref 54), some (.int x1), some (.int x2), some (.int x3), some (.int x4), some (.int x5), some (.int x6), some (.int x7), some (.int x8)]) (st2 := [.ref 54]) (M2 := mput (mput (mput (mput (mput (mput (mput (mput M 68 0 x1) 68 1 x2) 68 2 x3) 68 3 x4) 68 4 x5) 68 5 x6) 68 6 x7) 68 7 x8) (Ps := [(nI 0) = nI 0 ∧ 0 < 8, (nI 1) = nI 1 ∧ 1 < 8, (nI 2) = nI 2 ∧ 2 < 8, (nI 3) = nI 3 ∧ 3 < 8, (nI 4) = nI 4 ∧ 4 < 8, (nI 5) = nI 5 ∧ 5 < 8, (nI 6) = nI 6 ∧ 6 < 8, (nI 7) = nI 7 ∧ 7 < 8]) (by decide +kernel) rfl rfl ⟨⟨rfl, (by omega)⟩, ⟨rfl, (by omega)⟩, ⟨rfl, (by omega)⟩, ⟨rfl, (by omega)⟩, ⟨rfl, (by omega)⟩, ⟨rfl, (by omega)⟩, ⟨rfl, (by omega)⟩, ⟨rfl, (by omega)⟩, trivial⟩ ?_
  refine G.mem (M' := mrow M 68 (upd (upd (upd (upd (upd (upd (upd (upd (M.1 68) 0 x1) 1 x2) 2 x3) 3 x4) 4 x5) 5 x6) 6 x7) 7 x8)) (by first | rfl | (simp only [mput, mrow_same, mrow_hit, mrow_miss, mrow_sw, idr_eq, ne_eq, Nat.reduceEqDiff, not_false_eq_true, Nat.reduceLT, reduceCtorEq]; done)) ?_
  obtain ⟨k1, hk⟩ := hk
  rcases g2 : k_dutyNow (M.1 54) (M.1 65) (M.1 66) (M.1 67) (upd (upd (upd (upd (upd (upd (upd (upd (M.1 68) 0 x1) 1 x2) 2 x3) 3 x4) 4 x5) 5 x6) 6 x7) 7 x8) with ⟨v3, r4⟩
  have t5 : GM z mX12_dutyNow (d + 2) [.ref 54] (mrow M 68 (upd (upd (upd (upd (upd (upd (upd (upd (M.1 68) 0 x1) 1 x2) 2 x3) 3 x4) 4 x5) 5 x6) 6 x7) 7 x8)) (fun rs => rs = .inl (some (.int v3), mrow (mrow M 67 r4) 68 (upd (upd (upd (upd (upd (upd (upd (upd (M.1 68) 0 x1) 1 x2) 2 x3) 3 x4) 4 x5) 5 x6) 6 x7) 7 x8))) := by
    have q9 := c_k_dutyNow_54 z d (mrow M 68 (upd (upd (upd (upd (upd (upd (upd (upd (M.1 68) 0 x1) 1 x2) 2 x3) 3 x4) 4 x5) 5 x6) 6 x7) 7 x8)) k1
    try simp only [mput, mrow_same, mrow_hit, mrow_miss, mrow_sw, idr_eq, ne_eq, Nat.reduceEqDiff, not_false_eq_true, Nat.reduceLT, reduceCtorEq, g2] at q9
    exact q9
  refine G.callV (as := []) (rest := []) (a := 54) oX12_dutyNow lk_EvenFindersModel_339 (by decide +kernel) rfl rfl ⟨rfl, rfl⟩ (Nat.le_of_ble_eq_true rfl) rfl ⟨Nat.le_of_ble_eq_true rfl, Nat.le_of_ble_eq_true rfl⟩ t5 (fun v9 N9 h6 => ?_) (fun E9 N9 h6 => by cases h6)
  cases h6
  show G z mX12_dutyOf (d + 3) 0 0 67 [some (.ref 54), some (.int x1), some (.int x2), some (.int x3), some (.int x4), some (.int x5), some (.int x6), some (.int x7), some (.int x8)] [.int v3] (mrow (mrow M 67 r4) 68 (upd (upd (upd (upd (upd (upd (upd (upd (M.1 68) 0 x1) 1 x2) 2 x3) 3 x4) 4 x5) 5 x6) 6 x7) 7 x8)) Q
  exact G.reti (by decide +kernel) rfl rfl (Nat.le_of_ble_eq_true rfl) (Nat.le_of_ble_eq_true rfl) ((by rw [hQ]; simp only [k_dutyOf, g2, mrow_self]))
set_option maxHeartbeats 4000000 in
set_option maxRecDepth 3000 in
theorem c_k_dutyBy_54 (z : Zp) (d : Nat) (M : Mem) (n1 : Nat) (n2 : Nat) (nt : Nat) (hnt : nt ≤ 10) (ct : M.1 54 22 = nI nt) (b1 : n1 < 6) (b2 : n2 < 10) (hk : k_dutyBy_ok (M.1 54) (M.1 61) (M.1 65) (M.1 66) (M.1 67) (M.1 68) (M.1 72) nt n1 n2) : GM z mX12_dutyBy (d + 4) [.ref 54, .int (nI n1), .int (nI n2)] M (fun rs => rs = .inl (some (.int ((k_dutyBy (M.1 54) (M.1 61) (M.1 65) (M.1 66) (M.1 67) (M.1 68) (M.1 72) nt n1 n2).1)), mrow (mrow M 67 ((k_dutyBy (M.1 54) (M.1 61) (M.1 65) (M.1 66) (M.1 67) (M.1 68) (M.1 72) nt n1 n2).2.1)) 68 ((k_dutyBy (M.1 54) (M.1 61) (M.1 65) (M.1 66) (M.1 67) (M.1 68) (M.1 72) nt n1 n2).2.2))) := by
  simp only [k_dutyBy_ok] at hk
  refine GM.of oX12_dutyBy.1 (Nat.le_of_ble_eq_true rfl) ?_
  show G z mX12_dutyBy (d + 4) 0 0 0 [some (.ref 54), some (.int (nI n1)), some (.int (nI n2))] [] M _
  obtain ⟨Q, hQ⟩ : ∃ Q : Rs → Prop, Q = (fun rs => rs = .inl (some (.int ((k_dutyBy (M.1 54) (M.1 61) (M.1 65) (M.1 66) (M.1 67) (M.1 68) (M.1 72) nt n1 n2).1)), mrow (mrow M 67 ((k_dutyBy (M.1 54) (M.1 61) (M.1 65) (M.1 66) (M.1 67) (M.1 68) (M.1 72) nt n1 n2).2.1)) 68 ((k_dutyBy (M.1 54) (M.1 61) (M.1 65) (M.1 66) (M.1 67) (M.1 68) (M.1 72) nt n1 n2).2.2))) := ⟨_, rfl⟩
  rw [← hQ]
  refine G.sl [(.aload_n 0, 1, 0, 0, 0, 0), (.aload_n 0, 1, 0, 0, 0, 0), (.getfield 35, 3, 11, 14, 137, 0), (.iconst 3, 1, 0, 0, 0, nI 3), (.iload_n 2, 1, 2, 0, 0, 0), (.imul, 1, 0, 0, 0, 0), (.iconst 2, 1, 0, 0, 0, nI 2), (.iadd, 1, 0, 0, 0, 0), (.iaload, 1, 0, 0, 0, 0), (.aload_n 0, 1, 0, 0, 0, 0), (.getfield 68, 3, 11, 41, 164, 0), (.bipush 26, 2, 0, 0, 0, nI 26), (.iload_n 1, 1, 1, 0, 0, 0), (.iadd, 1, 0, 0, 0, 0), (.iaload, 1, 0, 0, 0, 0), (.aload_n 0, 1, 0, 0, 0, 0), (.iload_n 1, 1, 1, 0, 0, 0)] [(3 * n2) + 2, 26 + n1] (pc2 := 22) (ls2 := [some (.ref 54), some (.int (nI n1)), some (.int (nI n2))]) (st2 := [.int (nI n1), .ref 54, .int (M.1 72 (26 + n1)), .int (M.1 61 ((3 * n2) + 2)), .ref 54]) (M2 := M) (Ps := [(((nI 3) * (nI n2)) + (nI 2)) = nI ((3 * n2) + 2) ∧ ((3 * n2) + 2) < 30, ((nI 26) + (nI n1)) = nI (26 + n1) ∧ (26 + n1) < 51]) (by decide +kernel) rfl rfl ⟨⟨(nAdd (pk_mul _ _) rfl), (by omega)⟩, ⟨(nI_add _ _), (by omega)⟩, trivial⟩ ?_
  obtain ⟨k1, hk⟩ := hk
  have t2 : GM z mX12_heldBy (d + 3) [.ref 54, .int (nI n1)] M (fun rs => rs = .inl (some (.int (k_heldBy (M.1 72) nt (nI n1))), M)) := by
    have q9 := c_k_heldBy_54 z (d + 3) M (nI n1) nt hnt ct
    try simp only [mput, mrow_same, mrow_hit, mrow_miss, mrow_sw, idr_eq, ne_eq, Nat.reduceEqDiff, not_false_eq_true, Nat.reduceLT, reduceCtorEq] at q9
    exact q9
  refine G.callV (as := [.int (nI n1)]) (rest := [.int (M.1 72 (26 + n1)), .int (M.1 61 ((3 * n2) + 2)), .ref 54]) (a := 54) oX12_heldBy lk_EvenFindersModel_342 (by decide +kernel) rfl rfl ⟨rfl, rfl⟩ (Nat.le_of_ble_eq_true rfl) rfl ⟨Nat.le_of_ble_eq_true rfl, Nat.le_of_ble_eq_true rfl⟩ t2 (fun v9 N9 h3 => ?_) (fun E9 N9 h3 => by cases h3)
  cases h3
  show G z mX12_dutyBy (d + 4) 0 0 25 [some (.ref 54), some (.int (nI n1)), some (.int (nI n2))] [.int (k_heldBy (M.1 72) nt (nI n1)), .int (M.1 72 (26 + n1)), .int (M.1 61 ((3 * n2) + 2)), .ref 54] M Q
  obtain ⟨k4, hk⟩ := hk
  have t5 : GM z mX12_ones (d + 3) [.int (k_heldBy (M.1 72) nt (nI n1))] M (fun rs => rs = .inl (some (.int (k_ones (k_heldBy (M.1 72) nt (nI n1)))), M)) := by
    have q9 := c_k_ones z (d + 3) M (k_heldBy (M.1 72) nt (nI n1))
    try simp only [mput, mrow_same, mrow_hit, mrow_miss, mrow_sw, idr_eq, ne_eq, Nat.reduceEqDiff, not_false_eq_true, Nat.reduceLT, reduceCtorEq] at q9
    exact q9
  refine G.callS (as := [.int (k_heldBy (M.1 72) nt (nI n1))]) (rest := [.int (M.1 72 (26 + n1)), .int (M.1 61 ((3 * n2) + 2)), .ref 54]) oX12_ones lk_EvenFindersModel_345 (by decide +kernel) rfl (Nat.le_of_ble_eq_true rfl) rfl ⟨Nat.le_of_ble_eq_true rfl, Nat.le_of_ble_eq_true rfl⟩ t5 (fun v9 N9 h6 => ?_) (fun E9 N9 h6 => by cases h6)
  cases h6
  show G z mX12_dutyBy (d + 4) 0 0 28 [some (.ref 54), some (.int (nI n1)), some (.int (nI n2))] [.int (k_ones (k_heldBy (M.1 72) nt (nI n1))), .int (M.1 72 (26 + n1)), .int (M.1 61 ((3 * n2) + 2)), .ref 54] M Q
  refine G.sl [(.aload_n 0, 1, 0, 0, 0, 0), (.getfield 68, 3, 11, 41, 164, 0), (.bipush 38, 2, 0, 0, 0, nI 38), (.iload_n 1, 1, 1, 0, 0, 0), (.iadd, 1, 0, 0, 0, 0), (.iaload, 1, 0, 0, 0, 0), (.aload_n 0, 1, 0, 0, 0, 0), (.aload_n 0, 1, 0, 0, 0, 0), (.getfield 68, 3, 11, 41, 164, 0), (.bipush 20, 2, 0, 0, 0, nI 20), (.iload_n 1, 1, 1, 0, 0, 0), (.iadd, 1, 0, 0, 0, 0), (.iaload, 1, 0, 0, 0, 0)] [38 + n1, 20 + n1] (pc2 := 47) (ls2 := [some (.ref 54), some (.int (nI n1)), some (.int (nI n2))]) (st2 := [.int (M.1 72 (20 + n1)), .ref 54, .int (M.1 72 (38 + n1)), .int (k_ones (k_heldBy (M.1 72) nt (nI n1))), .int (M.1 72 (26 + n1)), .int (M.1 61 ((3 * n2) + 2)), .ref 54]) (M2 := M) (Ps := [((nI 38) + (nI n1)) = nI (38 + n1) ∧ (38 + n1) < 51, ((nI 20) + (nI n1)) = nI (20 + n1) ∧ (20 + n1) < 51]) (by decide +kernel) rfl rfl ⟨⟨(nI_add _ _), (by omega)⟩, ⟨(nI_add _ _), (by omega)⟩, trivial⟩ ?_
  obtain ⟨k7, hk⟩ := hk
  have t8 : GM z mX12_lyingAt (d + 3) [.ref 54, .int (M.1 72 (20 + n1))] M (fun rs => rs = .inl (some (.int (k_lyingAt (M.1 72) nt (M.1 72 (20 + n1)))), M)) := by
    have q9 := c_k_lyingAt_54 z (d + 3) M (M.1 72 (20 + n1)) nt hnt ct
    try simp only [mput, mrow_same, mrow_hit, mrow_miss, mrow_sw, idr_eq, ne_eq, Nat.reduceEqDiff, not_false_eq_true, Nat.reduceLT, reduceCtorEq] at q9
    exact q9
  refine G.callV (as := [.int (M.1 72 (20 + n1))]) (rest := [.int (M.1 72 (38 + n1)), .int (k_ones (k_heldBy (M.1 72) nt (nI n1))), .int (M.1 72 (26 + n1)), .int (M.1 61 ((3 * n2) + 2)), .ref 54]) (a := 54) oX12_lyingAt lk_EvenFindersModel_348 (by decide +kernel) rfl rfl ⟨rfl, rfl⟩ (Nat.le_of_ble_eq_true rfl) rfl ⟨Nat.le_of_ble_eq_true rfl, Nat.le_of_ble_eq_true rfl⟩ t8 (fun v9 N9 h9 => ?_) (fun E9 N9 h9 => by cases h9)
  cases h9
  show G z mX12_dutyBy (d + 4) 0 0 50 [some (.ref 54), some (.int (nI n1)), some (.int (nI n2))] [.int (k_lyingAt (M.1 72) nt (M.1 72 (20 + n1))), .int (M.1 72 (38 + n1)), .int (k_ones (k_heldBy (M.1 72) nt (nI n1))), .int (M.1 72 (26 + n1)), .int (M.1 61 ((3 * n2) + 2)), .ref 54] M Q
  obtain ⟨k10, hk⟩ := hk
  have t11 : GM z mX12_ones (d + 3) [.int (k_lyingAt (M.1 72) nt (M.1 72 (20 + n1)))] M (fun rs => rs = .inl (some (.int (k_ones (k_lyingAt (M.1 72) nt (M.1 72 (20 + n1))))), M)) := by
    have q9 := c_k_ones z (d + 3) M (k_lyingAt (M.1 72) nt (M.1 72 (20 + n1)))
    try simp only [mput, mrow_same, mrow_hit, mrow_miss, mrow_sw, idr_eq, ne_eq, Nat.reduceEqDiff, not_false_eq_true, Nat.reduceLT, reduceCtorEq] at q9
    exact q9
  refine G.callS (as := [.int (k_lyingAt (M.1 72) nt (M.1 72 (20 + n1)))]) (rest := [.int (M.1 72 (38 + n1)), .int (k_ones (k_heldBy (M.1 72) nt (nI n1))), .int (M.1 72 (26 + n1)), .int (M.1 61 ((3 * n2) + 2)), .ref 54]) oX12_ones lk_EvenFindersModel_345 (by decide +kernel) rfl (Nat.le_of_ble_eq_true rfl) rfl ⟨Nat.le_of_ble_eq_true rfl, Nat.le_of_ble_eq_true rfl⟩ t11 (fun v9 N9 h12 => ?_) (fun E9 N9 h12 => by cases h12)
  cases h12
  show G z mX12_dutyBy (d + 4) 0 0 53 [some (.ref 54), some (.int (nI n1)), some (.int (nI n2))] [.int (k_ones (k_lyingAt (M.1 72) nt (M.1 72 (20 + n1)))), .int (M.1 72 (38 + n1)), .int (k_ones (k_heldBy (M.1 72) nt (nI n1))), .int (M.1 72 (26 + n1)), .int (M.1 61 ((3 * n2) + 2)), .ref 54] M Q
  refine G.sl [(.aload_n 0, 1, 0, 0, 0, 0), (.getfield 68, 3, 11, 41, 164, 0), (.bipush 50, 2, 0, 0, 0, nI 50), (.iaload, 1, 0, 0, 0, 0), (.aload_n 0, 1, 0, 0, 0, 0), (.getfield 68, 3, 11, 41, 164, 0), (.bipush 44, 2, 0, 0, 0, nI 44), (.iload_n 1, 1, 1, 0, 0, 0), (.iadd, 1, 0, 0, 0, 0), (.iaload, 1, 0, 0, 0, 0), (.iload_n 1, 1, 1, 0, 0, 0)] [50, 44 + n1] (pc2 := 70) (ls2 := [some (.ref 54), some (.int (nI n1)), some (.int (nI n2))]) (st2 := [.int (nI n1), .int (M.1 72 (44 + n1)), .int (M.1 72 50), .int (k_ones (k_lyingAt (M.1 72) nt (M.1 72 (20 + n1)))), .int (M.1 72 (38 + n1)), .int (k_ones (k_heldBy (M.1 72) nt (nI n1))), .int (M.1 72 (26 + n1)), .int (M.1 61 ((3 * n2) + 2)), .ref 54]) (M2 := M) (Ps := [(nI 50) = nI 50 ∧ 50 < 51, ((nI 44) + (nI n1)) = nI (44 + n1) ∧ (44 + n1) < 51]) (by decide +kernel) rfl rfl ⟨⟨rfl, (by omega)⟩, ⟨(nI_add _ _), (by omega)⟩, trivial⟩ ?_
  obtain ⟨k13, hk⟩ := hk
  rcases g14 : k_dutyOf (M.1 54) (M.1 65) (M.1 66) (M.1 67) (M.1 68) (M.1 61 ((3 * n2) + 2)) (M.1 72 (26 + n1)) (k_ones (k_heldBy (M.1 72) nt (nI n1))) (M.1 72 (38 + n1)) (k_ones (k_lyingAt (M.1 72) nt (M.1 72 (20 + n1)))) (M.1 72 50) (M.1 72 (44 + n1)) (nI n1) with ⟨v15, r16, r17⟩
  have t18 : GM z mX12_dutyOf (d + 3) [.ref 54, .int (M.1 61 ((3 * n2) + 2)), .int (M.1 72 (26 + n1)), .int (k_ones (k_heldBy (M.1 72) nt (nI n1))), .int (M.1 72 (38 + n1)), .int (k_ones (k_lyingAt (M.1 72) nt (M.1 72 (20 + n1)))), .int (M.1 72 50), .int (M.1 72 (44 + n1)), .int (nI n1)] M (fun rs => rs = .inl (some (.int v15), mrow (mrow M 67 r16) 68 r17)) := by
    have q9 := c_k_dutyOf_54 z d M (M.1 61 ((3 * n2) + 2)) (M.1 72 (26 + n1)) (k_ones (k_heldBy (M.1 72) nt (nI n1))) (M.1 72 (38 + n1)) (k_ones (k_lyingAt (M.1 72) nt (M.1 72 (20 + n1)))) (M.1 72 50) (M.1 72 (44 + n1)) (nI n1) k13
    try simp only [mput, mrow_same, mrow_hit, mrow_miss, mrow_sw, idr_eq, ne_eq, Nat.reduceEqDiff, not_false_eq_true, Nat.reduceLT, reduceCtorEq, g14] at q9
    exact q9
  refine G.callV (as := [.int (M.1 61 ((3 * n2) + 2)), .int (M.1 72 (26 + n1)), .int (k_ones (k_heldBy (M.1 72) nt (nI n1))), .int (M.1 72 (38 + n1)), .int (k_ones (k_lyingAt (M.1 72) nt (M.1 72 (20 + n1)))), .int (M.1 72 50), .int (M.1 72 (44 + n1)), .int (nI n1)]) (rest := []) (a := 54) oX12_dutyOf lk_EvenFindersModel_351 (by decide +kernel) rfl rfl ⟨rfl, rfl⟩ (Nat.le_of_ble_eq_true rfl) rfl ⟨Nat.le_of_ble_eq_true rfl, Nat.le_of_ble_eq_true rfl⟩ t18 (fun v9 N9 h19 => ?_) (fun E9 N9 h19 => by cases h19)
  cases h19
  show G z mX12_dutyBy (d + 4) 0 0 73 [some (.ref 54), some (.int (nI n1)), some (.int (nI n2))] [.int v15] (mrow (mrow M 67 r16) 68 r17) Q
  exact G.reti (by decide +kernel) rfl rfl (Nat.le_of_ble_eq_true rfl) (Nat.le_of_ble_eq_true rfl) ((by rw [hQ]; simp only [k_dutyBy, g14, mrow_self]))
set_option maxHeartbeats 4000000 in
set_option maxRecDepth 3000 in
theorem c_k_duty_54 (z : Zp) (d : Nat) (M : Mem) (x1 : Int32) (x2 : Int32) (nf : Nat) (hnf : nf ≤ 6) (cf : M.1 54 23 = nI nf) (hk : k_duty_ok (M.1 54) (M.1 55) (M.1 61) (M.1 65) (M.1 66) (M.1 67) (M.1 68) (M.1 71) (M.1 72) nf x1 x2) : GM z mX12_duty (d + 5) [.ref 54, .int x1, .int x2] M (fun rs => rs = .inl (some (.int ((k_duty (M.1 54) (M.1 55) (M.1 61) (M.1 65) (M.1 66) (M.1 67) (M.1 68) (M.1 71) (M.1 72) nf x1 x2).1)), mrow (mrow (mrow (mrow (mrow M 54 ((k_duty (M.1 54) (M.1 55) (M.1 61) (M.1 65) (M.1 66) (M.1 67) (M.1 68) (M.1 71) (M.1 72) nf x1 x2).2.1)) 55 ((k_duty (M.1 54) (M.1 55) (M.1 61) (M.1 65) (M.1 66) (M.1 67) (M.1 68) (M.1 71) (M.1 72) nf x1 x2).2.2.1)) 67 ((k_duty (M.1 54) (M.1 55) (M.1 61) (M.1 65) (M.1 66) (M.1 67) (M.1 68) (M.1 71) (M.1 72) nf x1 x2).2.2.2.1)) 68 ((k_duty (M.1 54) (M.1 55) (M.1 61) (M.1 65) (M.1 66) (M.1 67) (M.1 68) (M.1 71) (M.1 72) nf x1 x2).2.2.2.2.1)) 72 ((k_duty (M.1 54) (M.1 55) (M.1 61) (M.1 65) (M.1 66) (M.1 67) (M.1 68) (M.1 71) (M.1 72) nf x1 x2).2.2.2.2.2))) := by
  simp only [k_duty_ok] at hk
  refine GM.of oX12_duty.1 (Nat.le_of_ble_eq_true rfl) ?_
  show G z mX12_duty (d + 5) 0 0 0 [some (.ref 54), some (.int x1), some (.int x2)] [] M _
  obtain ⟨Q, hQ⟩ : ∃ Q : Rs → Prop, Q = (fun rs => rs = .inl (some (.int ((k_duty (M.1 54) (M.1 55) (M.1 61) (M.1 65) (M.1 66) (M.1 67) (M.1 68) (M.1 71) (M.1 72) nf x1 x2).1)), mrow (mrow (mrow (mrow (mrow M 54 ((k_duty (M.1 54) (M.1 55) (M.1 61) (M.1 65) (M.1 66) (M.1 67) (M.1 68) (M.1 71) (M.1 72) nf x1 x2).2.1)) 55 ((k_duty (M.1 54) (M.1 55) (M.1 61) (M.1 65) (M.1 66) (M.1 67) (M.1 68) (M.1 71) (M.1 72) nf x1 x2).2.2.1)) 67 ((k_duty (M.1 54) (M.1 55) (M.1 61) (M.1 65) (M.1 66) (M.1 67) (M.1 68) (M.1 71) (M.1 72) nf x1 x2).2.2.2.1)) 68 ((k_duty (M.1 54) (M.1 55) (M.1 61) (M.1 65) (M.1 66) (M.1 67) (M.1 68) (M.1 71) (M.1 72) nf x1 x2).2.2.2.2.1)) 72 ((k_duty (M.1 54) (M.1 55) (M.1 61) (M.1 65) (M.1 66) (M.1 67) (M.1 68) (M.1 71) (M.1 72) nf x1 x2).2.2.2.2.2))) := ⟨_, rfl⟩
  rw [← hQ]
  refine G.sl [(.aload_n 0, 1, 0, 0, 0, 0), (.iconst 0, 1, 0, 0, 0, nI 0), (.putfield 3, 3, 11, 0, 123, 0), (.aload_n 0, 1, 0, 0, 0, 0), (.iload_n 1, 1, 1, 0, 0, 0), (.iconst 1, 1, 0, 0, 0, nI 1)] [] (pc2 := 8) (ls2 := [some (.ref 54), some (.int x1), some (.int x2)]) (st2 := [.int (nI 1), .int x1, .ref 54]) (M2 := mput M 54 0 (nI 0)) (Ps := []) (by decide +kernel) rfl rfl trivial ?_
  refine G.mem (M' := mrow M 54 (upd (M.1 54) 0 (nI 0))) (by first | rfl | (simp only [mput, mrow_same, mrow_hit, mrow_miss, mrow_sw, idr_eq, ne_eq, Nat.reduceEqDiff, not_false_eq_true, Nat.reduceLT, reduceCtorEq]; done)) ?_
  obtain ⟨k1, hk⟩ := hk
  rcases g2 : k_isFinder (upd (M.1 54) 0 (nI 0)) (M.1 55) nf x1 (nI 1) with ⟨v3, r4, r5⟩
  try simp only [g2] at hk
  have ev3 : v3 = 0 ∨ v3 = 1 := by
    have q9 := k_isFinder_01 (upd (M.1 54) 0 (nI 0)) (M.1 55) nf x1 (nI 1)
    rw [g2] at q9
    exact q9
  have t6 : GM z mX12_isFinder (d + 4) [.ref 54, .int x1, .int (nI 1)] (mrow M 54 (upd (M.1 54) 0 (nI 0))) (fun rs => rs = .inl (some (.int v3), mrow (mrow M 54 r4) 55 r5)) := by
    have q9 := c_k_isFinder_54 z (d + 3) (mrow M 54 (upd (M.1 54) 0 (nI 0))) x1 (nI 1) nf hnf cf
    try simp only [mput, mrow_same, mrow_hit, mrow_miss, mrow_sw, idr_eq, ne_eq, Nat.reduceEqDiff, not_false_eq_true, Nat.reduceLT, reduceCtorEq, g2] at q9
    exact q9
  refine G.callV (as := [.int x1, .int (nI 1)]) (rest := []) (a := 54) oX12_isFinder lk_EvenFindersModel_400 (by decide +kernel) rfl rfl ⟨rfl, rfl⟩ (Nat.le_of_ble_eq_true rfl) rfl ⟨Nat.le_of_ble_eq_true rfl, Nat.le_of_ble_eq_true rfl⟩ t6 (fun v9 N9 h7 => ?_) (fun E9 N9 h7 => by cases h7)
  cases h7
  show G z mX12_duty (d + 5) 0 0 11 [some (.ref 54), some (.int x1), some (.int x2)] [.int v3] (mrow (mrow M 54 r4) 55 r5) Q
  refine G.if_eq (off := (12)) (tgt := 23) (by decide +kernel) rfl (fun c8 => ?_) (fun c8 => ?_)
  · skip
    rw [if_pos c8] at hk
    refine G.sl [(.iconst 0, 1, 0, 0, 0, nI 0)] [] (pc2 := 24) (ls2 := [some (.ref 54), some (.int x1), some (.int x2)]) (st2 := [.int (nI 0)]) (M2 := mrow (mrow M 54 r4) 55 r5) (Ps := []) (by decide +kernel) rfl rfl trivial ?_
    refine G.mem (M' := mrow (mrow (mrow (mrow (mrow M 54 r4) 55 r5) 67 (M.1 67)) 68 (M.1 68)) 72 (M.1 72)) (((((mrow_id (N := mrow (mrow M 54 r4) 55 r5) (c := 67) (f := M.1 67) (by first | rfl | (simp only [mput, mrow_same, mrow_hit, mrow_miss, mrow_sw, idr_eq, ne_eq, Nat.reduceEqDiff, not_false_eq_true, Nat.reduceLT, reduceCtorEq]; done))).symm).trans (mrow_id (N := mrow (mrow (mrow M 54 r4) 55 r5) 67 (M.1 67)) (c := 68) (f := M.1 68) (by first | rfl | (simp only [mput, mrow_same, mrow_hit, mrow_miss, mrow_sw, idr_eq, ne_eq, Nat.reduceEqDiff, not_false_eq_true, Nat.reduceLT, reduceCtorEq]; done))).symm).trans (mrow_id (N := mrow (mrow (mrow (mrow M 54 r4) 55 r5) 67 (M.1 67)) 68 (M.1 68)) (c := 72) (f := M.1 72) (by first | rfl | (simp only [mput, mrow_same, mrow_hit, mrow_miss, mrow_sw, idr_eq, ne_eq, Nat.reduceEqDiff, not_false_eq_true, Nat.reduceLT, reduceCtorEq]; done))).symm).trans (by first | rfl | (simp only [mput, mrow_same, mrow_hit, mrow_miss, mrow_sw, idr_eq, ne_eq, Nat.reduceEqDiff, not_false_eq_true, Nat.reduceLT, reduceCtorEq]; done))) ?_
    exact G.reti (by decide +kernel) rfl rfl (Nat.le_of_ble_eq_true rfl) (Nat.le_of_ble_eq_true rfl) ((by rw [hQ]; simp only [k_duty, g2, if_pos c8, mrow_self]))
  · skip
    rw [if_neg c8] at hk
    refine G.sl [(.aload_n 0, 1, 0, 0, 0, 0), (.iload_n 2, 1, 2, 0, 0, 0), (.iconst 1, 1, 0, 0, 0, nI 1)] [] (pc2 := 17) (ls2 := [some (.ref 54), some (.int x1), some (.int x2)]) (st2 := [.int (nI 1), .int x2, .ref 54]) (M2 := mrow (mrow M 54 r4) 55 r5) (Ps := []) (by decide +kernel) rfl rfl trivial ?_
    obtain ⟨k9, k10, hk⟩ := hk
    obtain ⟨k11, hk⟩ := hk
    rcases g12 : k_isThing r4 r5 (ix (r4 22)) x2 (nI 1) with ⟨v13, r14, r15⟩
    try simp only [g12] at hk
    have ev13 : v13 = 0 ∨ v13 = 1 := by
      have q9 := k_isThing_01 r4 r5 (ix (r4 22)) x2 (nI 1)
      rw [g12] at q9
      exact q9
    have t16 : GM z mX12_isThing (d + 4) [.ref 54, .int x2, .int (nI 1)] (mrow (mrow M 54 r4) 55 r5) (fun rs => rs = .inl (some (.int v13), mrow (mrow M 54 r14) 55 r15)) := by
      have q9 := c_k_isThing_54 z (d + 3) (mrow (mrow M 54 r4) 55 r5) x2 (nI 1) (ix (r4 22)) k10 (ixE k9)
      try simp only [mput, mrow_same, mrow_hit, mrow_miss, mrow_sw, idr_eq, ne_eq, Nat.reduceEqDiff, not_false_eq_true, Nat.reduceLT, reduceCtorEq, g12] at q9
      exact q9
    refine G.callV (as := [.int x2, .int (nI 1)]) (rest := []) (a := 54) oX12_isThing lk_EvenFindersModel_397 (by decide +kernel) rfl rfl ⟨rfl, rfl⟩ (Nat.le_of_ble_eq_true rfl) rfl ⟨Nat.le_of_ble_eq_true rfl, Nat.le_of_ble_eq_true rfl⟩ t16 (fun v9 N9 h17 => ?_) (fun E9 N9 h17 => by cases h17)
    cases h17
    show G z mX12_duty (d + 5) 0 0 20 [some (.ref 54), some (.int x1), some (.int x2)] [.int v13] (mrow (mrow M 54 r14) 55 r15) Q
    refine G.if_ne (off := (5)) (tgt := 25) (by decide +kernel) rfl (fun c18 => ?_) (fun c18 => ?_)
    · skip
      rw [if_neg c18] at hk
      refine G.sl [(.aload_n 0, 1, 0, 0, 0, 0)] [] (pc2 := 26) (ls2 := [some (.ref 54), some (.int x1), some (.int x2)]) (st2 := [.ref 54]) (M2 := mrow (mrow M 54 r14) 55 r15) (Ps := []) (by decide +kernel) rfl rfl trivial ?_
      obtain ⟨k19, hk⟩ := hk
      rcases g20 : k_take (M.1 71) (M.1 72) with ⟨u21, r22⟩
      try simp only [g20] at hk
      have t23 : GM z mX12_take (d + 4) [.ref 54] (mrow (mrow M 54 r14) 55 r15) (fun rs => rs = .inl (none, mrow (mrow (mrow M 54 r14) 55 r15) 72 r22)) := by
        have q9 := c_k_take_54 z (d + 3) (mrow (mrow M 54 r14) 55 r15) k19
        try simp only [mput, mrow_same, mrow_hit, mrow_miss, mrow_sw, idr_eq, ne_eq, Nat.reduceEqDiff, not_false_eq_true, Nat.reduceLT, reduceCtorEq, g20] at q9
        exact q9
      refine G.callV (as := []) (rest := []) (a := 54) oX12_take lk_EvenFindersModel_320 (by decide +kernel) rfl rfl ⟨rfl, rfl⟩ (Nat.le_of_ble_eq_true rfl) rfl ⟨Nat.le_of_ble_eq_true rfl, Nat.le_of_ble_eq_true rfl⟩ t23 (fun v9 N9 h24 => ?_) (fun E9 N9 h24 => by cases h24)
      cases h24
      show G z mX12_duty (d + 5) 0 0 29 [some (.ref 54), some (.int x1), some (.int x2)] [] (mrow (mrow (mrow M 54 r14) 55 r15) 72 r22) Q
      refine G.sl [(.aload_n 0, 1, 0, 0, 0, 0), (.iload_n 1, 1, 1, 0, 0, 0), (.iload_n 2, 1, 2, 0, 0, 0)] [] (pc2 := 32) (ls2 := [some (.ref 54), some (.int x1), some (.int x2)]) (st2 := [.int x2, .int x1, .ref 54]) (M2 := mrow (mrow (mrow M 54 r14) 55 r15) 72 r22) (Ps := []) (by decide +kernel) rfl rfl trivial ?_
      obtain ⟨k25, k26, k27, k28, k29, k30, hk⟩ := hk
      obtain ⟨k31, hk⟩ := hk
      refine G.eq (st' := [.int (nI (ix x2)), .int (nI (ix x1)), .ref 54]) ?_ rfl (by rw [← (show x1 = nI (ix x1) from (ixE k25)), ← (show x2 = nI (ix x2) from (ixE k27))]) rfl
      rcases g32 : k_dutyBy r14 (M.1 61) (M.1 65) (M.1 66) (M.1 67) (M.1 68) r22 (ix (r14 22)) (ix x1) (ix x2) with ⟨v33, r34, r35⟩
      have t36 : GM z mX12_dutyBy (d + 4) [.ref 54, .int (nI (ix x1)), .int (nI (ix x2))] (mrow (mrow (mrow M 54 r14) 55 r15) 72 r22) (fun rs => rs = .inl (some (.int v33), mrow (mrow (mrow (mrow (mrow M 54 r14) 55 r15) 67 r34) 68 r35) 72 r22)) := by
        have q9 := c_k_dutyBy_54 z d (mrow (mrow (mrow M 54 r14) 55 r15) 72 r22) (ix x1) (ix x2) (ix (r14 22)) k30 (ixE k29) k26 k28 k31
        try simp only [mput, mrow_same, mrow_hit, mrow_miss, mrow_sw, idr_eq, ne_eq, Nat.reduceEqDiff, not_false_eq_true, Nat.reduceLT, reduceCtorEq, g32] at q9
        exact q9
      refine G.callV (as := [.int (nI (ix x1)), .int (nI (ix x2))]) (rest := []) (a := 54) oX12_dutyBy lk_EvenFindersModel_359 (by decide +kernel) rfl rfl ⟨rfl, rfl⟩ (Nat.le_of_ble_eq_true rfl) rfl ⟨Nat.le_of_ble_eq_true rfl, Nat.le_of_ble_eq_true rfl⟩ t36 (fun v9 N9 h37 => ?_) (fun E9 N9 h37 => by cases h37)
      cases h37
      show G z mX12_duty (d + 5) 0 0 35 [some (.ref 54), some (.int x1), some (.int x2)] [.int v33] (mrow (mrow (mrow (mrow (mrow M 54 r14) 55 r15) 67 r34) 68 r35) 72 r22) Q
      exact G.reti (by decide +kernel) rfl rfl (Nat.le_of_ble_eq_true rfl) (Nat.le_of_ble_eq_true rfl) ((by rw [hQ]; simp only [k_duty, g2, if_neg c8, g12, if_neg c18, g20, g32, mrow_self]))
    · skip
      rw [if_pos c18] at hk
      refine G.sl [(.iconst 0, 1, 0, 0, 0, nI 0)] [] (pc2 := 24) (ls2 := [some (.ref 54), some (.int x1), some (.int x2)]) (st2 := [.int (nI 0)]) (M2 := mrow (mrow M 54 r14) 55 r15) (Ps := []) (by decide +kernel) rfl rfl trivial ?_
      refine G.mem (M' := mrow (mrow (mrow (mrow (mrow M 54 r14) 55 r15) 67 (M.1 67)) 68 (M.1 68)) 72 (M.1 72)) (((((mrow_id (N := mrow (mrow M 54 r14) 55 r15) (c := 67) (f := M.1 67) (by first | rfl | (simp only [mput, mrow_same, mrow_hit, mrow_miss, mrow_sw, idr_eq, ne_eq, Nat.reduceEqDiff, not_false_eq_true, Nat.reduceLT, reduceCtorEq]; done))).symm).trans (mrow_id (N := mrow (mrow (mrow M 54 r14) 55 r15) 67 (M.1 67)) (c := 68) (f := M.1 68) (by first | rfl | (simp only [mput, mrow_same, mrow_hit, mrow_miss, mrow_sw, idr_eq, ne_eq, Nat.reduceEqDiff, not_false_eq_true, Nat.reduceLT, reduceCtorEq]; done))).symm).trans (mrow_id (N := mrow (mrow (mrow (mrow M 54 r14) 55 r15) 67 (M.1 67)) 68 (M.1 68)) (c := 72) (f := M.1 72) (by first | rfl | (simp only [mput, mrow_same, mrow_hit, mrow_miss, mrow_sw, idr_eq, ne_eq, Nat.reduceEqDiff, not_false_eq_true, Nat.reduceLT, reduceCtorEq]; done))).symm).trans (by first | rfl | (simp only [mput, mrow_same, mrow_hit, mrow_miss, mrow_sw, idr_eq, ne_eq, Nat.reduceEqDiff, not_false_eq_true, Nat.reduceLT, reduceCtorEq]; done))) ?_
      exact G.reti (by decide +kernel) rfl rfl (Nat.le_of_ble_eq_true rfl) (Nat.le_of_ble_eq_true rfl) ((by rw [hQ]; simp only [k_duty, g2, if_neg c8, g12, if_pos c18, mrow_self]))
set_option maxHeartbeats 4000000 in
set_option maxRecDepth 3000 in
theorem c_k_would_54 (z : Zp) (d : Nat) (M : Mem) (x1 : Int32) (x2 : Int32) (x3 : Int32) (x4 : Int32) (x5 : Int32) (x6 : Int32) (x7 : Int32) (x8 : Int32) (hk : k_would_ok (M.1 54) (M.1 55) (M.1 65) (M.1 66) (M.1 67) (M.1 68) x1 x2 x3 x4 x5 x6 x7 x8) : GM z mX12_would (d + 4) [.ref 54, .int x1, .int x2, .int x3, .int x4, .int x5, .int x6, .int x7, .int x8] M (fun rs => rs = .inl (some (.int ((k_would (M.1 54) (M.1 55) (M.1 65) (M.1 66) (M.1 67) (M.1 68) x1 x2 x3 x4 x5 x6 x7 x8).1)), mrow (mrow (mrow (mrow M 54 ((k_would (M.1 54) (M.1 55) (M.1 65) (M.1 66) (M.1 67) (M.1 68) x1 x2 x3 x4 x5 x6 x7 x8).2.1)) 55 ((k_would (M.1 54) (M.1 55) (M.1 65) (M.1 66) (M.1 67) (M.1 68) x1 x2 x3 x4 x5 x6 x7 x8).2.2.1)) 67 ((k_would (M.1 54) (M.1 55) (M.1 65) (M.1 66) (M.1 67) (M.1 68) x1 x2 x3 x4 x5 x6 x7 x8).2.2.2.1)) 68 ((k_would (M.1 54) (M.1 55) (M.1 65) (M.1 66) (M.1 67) (M.1 68) x1 x2 x3 x4 x5 x6 x7 x8).2.2.2.2))) := by
  simp only [k_would_ok] at hk
  refine GM.of oX12_would.1 (Nat.le_of_ble_eq_true rfl) ?_
  show G z mX12_would (d + 4) 0 0 0 [some (.ref 54), some (.int x1), some (.int x2), some (.int x3), some (.int x4), some (.int x5), some (.int x6), some (.int x7), some (.int x8)] [] M _
  obtain ⟨Q, hQ⟩ : ∃ Q : Rs → Prop, Q = (fun rs => rs = .inl (some (.int ((k_would (M.1 54) (M.1 55) (M.1 65) (M.1 66) (M.1 67) (M.1 68) x1 x2 x3 x4 x5 x6 x7 x8).1)), mrow (mrow (mrow (mrow M 54 ((k_would (M.1 54) (M.1 55) (M.1 65) (M.1 66) (M.1 67) (M.1 68) x1 x2 x3 x4 x5 x6 x7 x8).2.1)) 55 ((k_would (M.1 54) (M.1 55) (M.1 65) (M.1 66) (M.1 67) (M.1 68) x1 x2 x3 x4 x5 x6 x7 x8).2.2.1)) 67 ((k_would (M.1 54) (M.1 55) (M.1 65) (M.1 66) (M.1 67) (M.1 68) x1 x2 x3 x4 x5 x6 x7 x8).2.2.2.1)) 68 ((k_would (M.1 54) (M.1 55) (M.1 65) (M.1 66) (M.1 67) (M.1 68) x1 x2 x3 x4 x5 x6 x7 x8).2.2.2.2))) := ⟨_, rfl⟩
  rw [← hQ]
  refine G.sl [(.aload_n 0, 1, 0, 0, 0, 0), (.iconst 0, 1, 0, 0, 0, nI 0), (.putfield 3, 3, 11, 0, 123, 0), (.aload_n 0, 1, 0, 0, 0, 0), (.iload_n 1, 1, 1, 0, 0, 0), (.iconst 1, 1, 0, 0, 0, nI 1), (.bipush 60, 2, 0, 0, 0, nI 60)] [] (pc2 := 10) (ls2 := [some (.ref 54), some (.int x1), some (.int x2), some (.int x3), some (.int x4), some (.int x5), some (.int x6), some (.int x7), some (.int x8)]) (st2 := [.int (nI 60), .int (nI 1), .int x1, .ref 54]) (M2 := mput M 54 0 (nI 0)) (Ps := []) (by decide +kernel) rfl rfl trivial ?_
  refine G.mem (M' := mrow M 54 (upd (M.1 54) 0 (nI 0))) (by first | rfl | (simp only [mput, mrow_same, mrow_hit, mrow_miss, mrow_sw, idr_eq, ne_eq, Nat.reduceEqDiff, not_false_eq_true, Nat.reduceLT, reduceCtorEq]; done)) ?_
  obtain ⟨k1, hk⟩ := hk
  have t2 : GM z mX12_within (d + 3) [.int x1, .int (nI 1), .int (nI 60)] (mrow M 54 (upd (M.1 54) 0 (nI 0))) (fun rs => rs = .inl (some (.int (k_within x1 (nI 1) (nI 60))), mrow M 54 (upd (M.1 54) 0 (nI 0)))) := by
    have q9 := c_k_within z (d + 3) (mrow M 54 (upd (M.1 54) 0 (nI 0))) x1 (nI 1) (nI 60)
    try simp only [mput, mrow_same, mrow_hit, mrow_miss, mrow_sw, idr_eq, ne_eq, Nat.reduceEqDiff, not_false_eq_true, Nat.reduceLT, reduceCtorEq] at q9
    exact q9
  refine G.callS (as := [.int x1, .int (nI 1), .int (nI 60)]) (rest := [.ref 54]) oX12_within lk_EvenFindersModel_379 (by decide +kernel) rfl (Nat.le_of_ble_eq_true rfl) rfl ⟨Nat.le_of_ble_eq_true rfl, Nat.le_of_ble_eq_true rfl⟩ t2 (fun v9 N9 h3 => ?_) (fun E9 N9 h3 => by cases h3)
  cases h3
  show G z mX12_would (d + 4) 0 0 13 [some (.ref 54), some (.int x1), some (.int x2), some (.int x3), some (.int x4), some (.int x5), some (.int x6), some (.int x7), some (.int x8)] [.int (k_within x1 (nI 1) (nI 60)), .ref 54] (mrow M 54 (upd (M.1 54) 0 (nI 0))) Q
  refine G.if_eq (off := (86)) (tgt := 99) (by decide +kernel) rfl (fun c4 => ?_) (fun c4 => ?_)
  · skip
    rw [if_pos c4] at hk
    refine G.sl [(.iconst 0, 1, 0, 0, 0, nI 0), (.iconst 1, 1, 0, 0, 0, nI 1), (.iconst 1, 1, 0, 0, 0, nI 1)] [] (pc2 := 102) (ls2 := [some (.ref 54), some (.int x1), some (.int x2), some (.int x3), some (.int x4), some (.int x5), some (.int x6), some (.int x7), some (.int x8)]) (st2 := [.int (nI 1), .int (nI 1), .int (nI 0), .ref 54]) (M2 := mrow M 54 (upd (M.1 54) 0 (nI 0))) (Ps := []) (by decide +kernel) rfl rfl trivial ?_
    have t5 : GM z mX12_may (d + 3) [.ref 54, .int (nI 0), .int (nI 1), .int (nI 1)] (mrow M 54 (upd (M.1 54) 0 (nI 0))) (fun rs => rs = .inl (some (.int (nI 0)), mrow (mrow M 54 (upd (upd (M.1 54) 0 (nI 0)) 0 (nI 1))) 55 (upd (M.1 55) 1 ((M.1 55 1) + nI 1)))) := by
      have q9 := m_may_1_f z (d + 3) (mrow M 54 (upd (M.1 54) 0 (nI 0))) (nI 1) (by first | rfl | (simp only [mput, mrow_same, mrow_hit, mrow_miss, mrow_sw, idr_eq, ne_eq, Nat.reduceEqDiff, not_false_eq_true, Nat.reduceLT, reduceCtorEq, pk_us]; done)) (by decide)
      try simp only [mput, mrow_same, mrow_hit, mrow_miss, mrow_sw, idr_eq, ne_eq, Nat.reduceEqDiff, not_false_eq_true, Nat.reduceLT, reduceCtorEq] at q9
      exact q9
    refine G.callV (as := [.int (nI 0), .int (nI 1), .int (nI 1)]) (rest := []) (a := 54) oX12_may lk_EvenFindersModel_213 (by decide +kernel) rfl rfl ⟨rfl, rfl⟩ (Nat.le_of_ble_eq_true rfl) rfl ⟨Nat.le_of_ble_eq_true rfl, Nat.le_of_ble_eq_true rfl⟩ t5 (fun v9 N9 h6 => ?_) (fun E9 N9 h6 => by cases h6)
    cases h6
    show G z mX12_would (d + 4) 0 0 105 [some (.ref 54), some (.int x1), some (.int x2), some (.int x3), some (.int x4), some (.int x5), some (.int x6), some (.int x7), some (.int x8)] [.int (nI 0)] (mrow (mrow M 54 (upd (upd (M.1 54) 0 (nI 0)) 0 (nI 1))) 55 (upd (M.1 55) 1 ((M.1 55 1) + nI 1))) Q
    refine G.if_ne (off := (5)) (tgt := 110) (by decide +kernel) rfl (fun h9 => absurd (by decide) h9) (fun _ => ?_)
    refine G.sl [(.iconst 0, 1, 0, 0, 0, nI 0)] [] (pc2 := 109) (ls2 := [some (.ref 54), some (.int x1), some (.int x2), some (.int x3), some (.int x4), some (.int x5), some (.int x6), some (.int x7), some (.int x8)]) (st2 := [.int (nI 0)]) (M2 := mrow (mrow M 54 (upd (upd (M.1 54) 0 (nI 0)) 0 (nI 1))) 55 (upd (M.1 55) 1 ((M.1 55 1) + nI 1))) (Ps := []) (by decide +kernel) rfl rfl trivial ?_
    refine G.mem (M' := mrow (mrow (mrow (mrow M 54 (upd (upd (M.1 54) 0 (nI 0)) 0 (nI 1))) 55 (upd (M.1 55) 1 ((M.1 55 1) + nI 1))) 67 (M.1 67)) 68 (M.1 68)) ((((mrow_id (N := mrow (mrow M 54 (upd (upd (M.1 54) 0 (nI 0)) 0 (nI 1))) 55 (upd (M.1 55) 1 ((M.1 55 1) + nI 1))) (c := 67) (f := M.1 67) (by first | rfl | (simp only [mput, mrow_same, mrow_hit, mrow_miss, mrow_sw, idr_eq, ne_eq, Nat.reduceEqDiff, not_false_eq_true, Nat.reduceLT, reduceCtorEq]; done))).symm).trans (mrow_id (N := mrow (mrow (mrow M 54 (upd (upd (M.1 54) 0 (nI 0)) 0 (nI 1))) 55 (upd (M.1 55) 1 ((M.1 55 1) + nI 1))) 67 (M.1 67)) (c := 68) (f := M.1 68) (by first | rfl | (simp only [mput, mrow_same, mrow_hit, mrow_miss, mrow_sw, idr_eq, ne_eq, Nat.reduceEqDiff, not_false_eq_true, Nat.reduceLT, reduceCtorEq]; done))).symm).trans (by first | rfl | (simp only [mput, mrow_same, mrow_hit, mrow_miss, mrow_sw, idr_eq, ne_eq, Nat.reduceEqDiff, not_false_eq_true, Nat.reduceLT, reduceCtorEq]; done))) ?_
    exact G.reti (by decide +kernel) rfl rfl (Nat.le_of_ble_eq_true rfl) (Nat.le_of_ble_eq_true rfl) ((by rw [hQ]; simp only [k_would, if_pos c4, mrow_self]))
  · skip
    rw [if_neg c4] at hk
    refine G.sl [(.iload_n 2, 1, 2, 0, 0, 0), (.bipush (-99), 2, 0, 0, 0, (-99)), (.sipush 999, 3, 0, 0, 0, nI 999)] [] (pc2 := 22) (ls2 := [some (.ref 54), some (.int x1), some (.int x2), some (.int x3), some (.int x4), some (.int x5), some (.int x6), some (.int x7), some (.int x8)]) (st2 := [.int (nI 999), .int ((-99)), .int x2, .ref 54]) (M2 := mrow M 54 (upd (M.1 54) 0 (nI 0))) (Ps := []) (by decide +kernel) rfl rfl trivial ?_
    obtain ⟨k7, hk⟩ := hk
    have t8 : GM z mX12_within (d + 3) [.int x2, .int ((-99)), .int (nI 999)] (mrow M 54 (upd (M.1 54) 0 (nI 0))) (fun rs => rs = .inl (some (.int (k_within x2 ((-99)) (nI 999))), mrow M 54 (upd (M.1 54) 0 (nI 0)))) := by
      have q9 := c_k_within z (d + 3) (mrow M 54 (upd (M.1 54) 0 (nI 0))) x2 ((-99)) (nI 999)
      try simp only [mput, mrow_same, mrow_hit, mrow_miss, mrow_sw, idr_eq, ne_eq, Nat.reduceEqDiff, not_false_eq_true, Nat.reduceLT, reduceCtorEq] at q9
      exact q9
    refine G.callS (as := [.int x2, .int ((-99)), .int (nI 999)]) (rest := [.ref 54]) oX12_within lk_EvenFindersModel_379 (by decide +kernel) rfl (Nat.le_of_ble_eq_true rfl) rfl ⟨Nat.le_of_ble_eq_true rfl, Nat.le_of_ble_eq_true rfl⟩ t8 (fun v9 N9 h9 => ?_) (fun E9 N9 h9 => by cases h9)
    cases h9
    show G z mX12_would (d + 4) 0 0 25 [some (.ref 54), some (.int x1), some (.int x2), some (.int x3), some (.int x4), some (.int x5), some (.int x6), some (.int x7), some (.int x8)] [.int (k_within x2 ((-99)) (nI 999)), .ref 54] (mrow M 54 (upd (M.1 54) 0 (nI 0))) Q
    refine G.if_eq (off := (74)) (tgt := 99) (by decide +kernel) rfl (fun c10 => ?_) (fun c10 => ?_)
    · skip
      rw [if_pos c10] at hk
      refine G.sl [(.iconst 0, 1, 0, 0, 0, nI 0), (.iconst 1, 1, 0, 0, 0, nI 1), (.iconst 1, 1, 0, 0, 0, nI 1)] [] (pc2 := 102) (ls2 := [some (.ref 54), some (.int x1), some (.int x2), some (.int x3), some (.int x4), some (.int x5), some (.int x6), some (.int x7), some (.int x8)]) (st2 := [.int (nI 1), .int (nI 1), .int (nI 0), .ref 54]) (M2 := mrow M 54 (upd (M.1 54) 0 (nI 0))) (Ps := []) (by decide +kernel) rfl rfl trivial ?_
      have t11 : GM z mX12_may (d + 3) [.ref 54, .int (nI 0), .int (nI 1), .int (nI 1)] (mrow M 54 (upd (M.1 54) 0 (nI 0))) (fun rs => rs = .inl (some (.int (nI 0)), mrow (mrow M 54 (upd (upd (M.1 54) 0 (nI 0)) 0 (nI 1))) 55 (upd (M.1 55) 1 ((M.1 55 1) + nI 1)))) := by
        have q9 := m_may_1_f z (d + 3) (mrow M 54 (upd (M.1 54) 0 (nI 0))) (nI 1) (by first | rfl | (simp only [mput, mrow_same, mrow_hit, mrow_miss, mrow_sw, idr_eq, ne_eq, Nat.reduceEqDiff, not_false_eq_true, Nat.reduceLT, reduceCtorEq, pk_us]; done)) (by decide)
        try simp only [mput, mrow_same, mrow_hit, mrow_miss, mrow_sw, idr_eq, ne_eq, Nat.reduceEqDiff, not_false_eq_true, Nat.reduceLT, reduceCtorEq] at q9
        exact q9
      refine G.callV (as := [.int (nI 0), .int (nI 1), .int (nI 1)]) (rest := []) (a := 54) oX12_may lk_EvenFindersModel_213 (by decide +kernel) rfl rfl ⟨rfl, rfl⟩ (Nat.le_of_ble_eq_true rfl) rfl ⟨Nat.le_of_ble_eq_true rfl, Nat.le_of_ble_eq_true rfl⟩ t11 (fun v9 N9 h12 => ?_) (fun E9 N9 h12 => by cases h12)
      cases h12
      show G z mX12_would (d + 4) 0 0 105 [some (.ref 54), some (.int x1), some (.int x2), some (.int x3), some (.int x4), some (.int x5), some (.int x6), some (.int x7), some (.int x8)] [.int (nI 0)] (mrow (mrow M 54 (upd (upd (M.1 54) 0 (nI 0)) 0 (nI 1))) 55 (upd (M.1 55) 1 ((M.1 55 1) + nI 1))) Q
      refine G.if_ne (off := (5)) (tgt := 110) (by decide +kernel) rfl (fun h9 => absurd (by decide) h9) (fun _ => ?_)
      refine G.sl [(.iconst 0, 1, 0, 0, 0, nI 0)] [] (pc2 := 109) (ls2 := [some (.ref 54), some (.int x1), some (.int x2), some (.int x3), some (.int x4), some (.int x5), some (.int x6), some (.int x7), some (.int x8)]) (st2 := [.int (nI 0)]) (M2 := mrow (mrow M 54 (upd (upd (M.1 54) 0 (nI 0)) 0 (nI 1))) 55 (upd (M.1 55) 1 ((M.1 55 1) + nI 1))) (Ps := []) (by decide +kernel) rfl rfl trivial ?_
      refine G.mem (M' := mrow (mrow (mrow (mrow M 54 (upd (upd (M.1 54) 0 (nI 0)) 0 (nI 1))) 55 (upd (M.1 55) 1 ((M.1 55 1) + nI 1))) 67 (M.1 67)) 68 (M.1 68)) ((((mrow_id (N := mrow (mrow M 54 (upd (upd (M.1 54) 0 (nI 0)) 0 (nI 1))) 55 (upd (M.1 55) 1 ((M.1 55 1) + nI 1))) (c := 67) (f := M.1 67) (by first | rfl | (simp only [mput, mrow_same, mrow_hit, mrow_miss, mrow_sw, idr_eq, ne_eq, Nat.reduceEqDiff, not_false_eq_true, Nat.reduceLT, reduceCtorEq]; done))).symm).trans (mrow_id (N := mrow (mrow (mrow M 54 (upd (upd (M.1 54) 0 (nI 0)) 0 (nI 1))) 55 (upd (M.1 55) 1 ((M.1 55 1) + nI 1))) 67 (M.1 67)) (c := 68) (f := M.1 68) (by first | rfl | (simp only [mput, mrow_same, mrow_hit, mrow_miss, mrow_sw, idr_eq, ne_eq, Nat.reduceEqDiff, not_false_eq_true, Nat.reduceLT, reduceCtorEq]; done))).symm).trans (by first | rfl | (simp only [mput, mrow_same, mrow_hit, mrow_miss, mrow_sw, idr_eq, ne_eq, Nat.reduceEqDiff, not_false_eq_true, Nat.reduceLT, reduceCtorEq]; done))) ?_
      exact G.reti (by decide +kernel) rfl rfl (Nat.le_of_ble_eq_true rfl) (Nat.le_of_ble_eq_true rfl) ((by rw [hQ]; simp only [k_would, if_neg c4, if_pos c10, mrow_self]))
    · skip
      rw [if_neg c10] at hk
      refine G.sl [(.iload_n 3, 1, 3, 0, 0, 0), (.iconst 0, 1, 0, 0, 0, nI 0), (.bipush 10, 2, 0, 0, 0, nI 10)] [] (pc2 := 32) (ls2 := [some (.ref 54), some (.int x1), some (.int x2), some (.int x3), some (.int x4), some (.int x5), some (.int x6), some (.int x7), some (.int x8)]) (st2 := [.int (nI 10), .int (nI 0), .int x3, .ref 54]) (M2 := mrow M 54 (upd (M.1 54) 0 (nI 0))) (Ps := []) (by decide +kernel) rfl rfl trivial ?_
      obtain ⟨k13, hk⟩ := hk
      have t14 : GM z mX12_within (d + 3) [.int x3, .int (nI 0), .int (nI 10)] (mrow M 54 (upd (M.1 54) 0 (nI 0))) (fun rs => rs = .inl (some (.int (k_within x3 (nI 0) (nI 10))), mrow M 54 (upd (M.1 54) 0 (nI 0)))) := by
        have q9 := c_k_within z (d + 3) (mrow M 54 (upd (M.1 54) 0 (nI 0))) x3 (nI 0) (nI 10)
        try simp only [mput, mrow_same, mrow_hit, mrow_miss, mrow_sw, idr_eq, ne_eq, Nat.reduceEqDiff, not_false_eq_true, Nat.reduceLT, reduceCtorEq] at q9
        exact q9
      refine G.callS (as := [.int x3, .int (nI 0), .int (nI 10)]) (rest := [.ref 54]) oX12_within lk_EvenFindersModel_379 (by decide +kernel) rfl (Nat.le_of_ble_eq_true rfl) rfl ⟨Nat.le_of_ble_eq_true rfl, Nat.le_of_ble_eq_true rfl⟩ t14 (fun v9 N9 h15 => ?_) (fun E9 N9 h15 => by cases h15)
      cases h15
      show G z mX12_would (d + 4) 0 0 35 [some (.ref 54), some (.int x1), some (.int x2), some (.int x3), some (.int x4), some (.int x5), some (.int x6), some (.int x7), some (.int x8)] [.int (k_within x3 (nI 0) (nI 10)), .ref 54] (mrow M 54 (upd (M.1 54) 0 (nI 0))) Q
      refine G.if_eq (off := (64)) (tgt := 99) (by decide +kernel) rfl (fun c16 => ?_) (fun c16 => ?_)
      · skip
        rw [if_pos c16] at hk
        refine G.sl [(.iconst 0, 1, 0, 0, 0, nI 0), (.iconst 1, 1, 0, 0, 0, nI 1), (.iconst 1, 1, 0, 0, 0, nI 1)] [] (pc2 := 102) (ls2 := [some (.ref 54), some (.int x1), some (.int x2), some (.int x3), some (.int x4), some (.int x5), some (.int x6), some (.int x7), some (.int x8)]) (st2 := [.int (nI 1), .int (nI 1), .int (nI 0), .ref 54]) (M2 := mrow M 54 (upd (M.1 54) 0 (nI 0))) (Ps := []) (by decide +kernel) rfl rfl trivial ?_
        have t17 : GM z mX12_may (d + 3) [.ref 54, .int (nI 0), .int (nI 1), .int (nI 1)] (mrow M 54 (upd (M.1 54) 0 (nI 0))) (fun rs => rs = .inl (some (.int (nI 0)), mrow (mrow M 54 (upd (upd (M.1 54) 0 (nI 0)) 0 (nI 1))) 55 (upd (M.1 55) 1 ((M.1 55 1) + nI 1)))) := by
          have q9 := m_may_1_f z (d + 3) (mrow M 54 (upd (M.1 54) 0 (nI 0))) (nI 1) (by first | rfl | (simp only [mput, mrow_same, mrow_hit, mrow_miss, mrow_sw, idr_eq, ne_eq, Nat.reduceEqDiff, not_false_eq_true, Nat.reduceLT, reduceCtorEq, pk_us]; done)) (by decide)
          try simp only [mput, mrow_same, mrow_hit, mrow_miss, mrow_sw, idr_eq, ne_eq, Nat.reduceEqDiff, not_false_eq_true, Nat.reduceLT, reduceCtorEq] at q9
          exact q9
        refine G.callV (as := [.int (nI 0), .int (nI 1), .int (nI 1)]) (rest := []) (a := 54) oX12_may lk_EvenFindersModel_213 (by decide +kernel) rfl rfl ⟨rfl, rfl⟩ (Nat.le_of_ble_eq_true rfl) rfl ⟨Nat.le_of_ble_eq_true rfl, Nat.le_of_ble_eq_true rfl⟩ t17 (fun v9 N9 h18 => ?_) (fun E9 N9 h18 => by cases h18)
        cases h18
        show G z mX12_would (d + 4) 0 0 105 [some (.ref 54), some (.int x1), some (.int x2), some (.int x3), some (.int x4), some (.int x5), some (.int x6), some (.int x7), some (.int x8)] [.int (nI 0)] (mrow (mrow M 54 (upd (upd (M.1 54) 0 (nI 0)) 0 (nI 1))) 55 (upd (M.1 55) 1 ((M.1 55 1) + nI 1))) Q
        refine G.if_ne (off := (5)) (tgt := 110) (by decide +kernel) rfl (fun h9 => absurd (by decide) h9) (fun _ => ?_)
        refine G.sl [(.iconst 0, 1, 0, 0, 0, nI 0)] [] (pc2 := 109) (ls2 := [some (.ref 54), some (.int x1), some (.int x2), some (.int x3), some (.int x4), some (.int x5), some (.int x6), some (.int x7), some (.int x8)]) (st2 := [.int (nI 0)]) (M2 := mrow (mrow M 54 (upd (upd (M.1 54) 0 (nI 0)) 0 (nI 1))) 55 (upd (M.1 55) 1 ((M.1 55 1) + nI 1))) (Ps := []) (by decide +kernel) rfl rfl trivial ?_
        refine G.mem (M' := mrow (mrow (mrow (mrow M 54 (upd (upd (M.1 54) 0 (nI 0)) 0 (nI 1))) 55 (upd (M.1 55) 1 ((M.1 55 1) + nI 1))) 67 (M.1 67)) 68 (M.1 68)) ((((mrow_id (N := mrow (mrow M 54 (upd (upd (M.1 54) 0 (nI 0)) 0 (nI 1))) 55 (upd (M.1 55) 1 ((M.1 55 1) + nI 1))) (c := 67) (f := M.1 67) (by first | rfl | (simp only [mput, mrow_same, mrow_hit, mrow_miss, mrow_sw, idr_eq, ne_eq, Nat.reduceEqDiff, not_false_eq_true, Nat.reduceLT, reduceCtorEq]; done))).symm).trans (mrow_id (N := mrow (mrow (mrow M 54 (upd (upd (M.1 54) 0 (nI 0)) 0 (nI 1))) 55 (upd (M.1 55) 1 ((M.1 55 1) + nI 1))) 67 (M.1 67)) (c := 68) (f := M.1 68) (by first | rfl | (simp only [mput, mrow_same, mrow_hit, mrow_miss, mrow_sw, idr_eq, ne_eq, Nat.reduceEqDiff, not_false_eq_true, Nat.reduceLT, reduceCtorEq]; done))).symm).trans (by first | rfl | (simp only [mput, mrow_same, mrow_hit, mrow_miss, mrow_sw, idr_eq, ne_eq, Nat.reduceEqDiff, not_false_eq_true, Nat.reduceLT, reduceCtorEq]; done))) ?_
        exact G.reti (by decide +kernel) rfl rfl (Nat.le_of_ble_eq_true rfl) (Nat.le_of_ble_eq_true rfl) ((by rw [hQ]; simp only [k_would, if_neg c4, if_neg c10, if_pos c16, mrow_self]))
      · skip
        rw [if_neg c16] at hk
        refine G.sl [(.iload 4, 2, 4, 0, 0, 0), (.iconst 0, 1, 0, 0, 0, nI 0), (.sipush 999, 3, 0, 0, 0, nI 999)] [] (pc2 := 44) (ls2 := [some (.ref 54), some (.int x1), some (.int x2), some (.int x3), some (.int x4), some (.int x5), some (.int x6), some (.int x7), some (.int x8)]) (st2 := [.int (nI 999), .int (nI 0), .int x4, .ref 54]) (M2 := mrow M 54 (upd (M.1 54) 0 (nI 0))) (Ps := []) (by decide +kernel) rfl rfl trivial ?_
        obtain ⟨k19, hk⟩ := hk
        have t20 : GM z mX12_within (d + 3) [.int x4, .int (nI 0), .int (nI 999)] (mrow M 54 (upd (M.1 54) 0 (nI 0))) (fun rs => rs = .inl (some (.int (k_within x4 (nI 0) (nI 999))), mrow M 54 (upd (M.1 54) 0 (nI 0)))) := by
          have q9 := c_k_within z (d + 3) (mrow M 54 (upd (M.1 54) 0 (nI 0))) x4 (nI 0) (nI 999)
          try simp only [mput, mrow_same, mrow_hit, mrow_miss, mrow_sw, idr_eq, ne_eq, Nat.reduceEqDiff, not_false_eq_true, Nat.reduceLT, reduceCtorEq] at q9
          exact q9
        refine G.callS (as := [.int x4, .int (nI 0), .int (nI 999)]) (rest := [.ref 54]) oX12_within lk_EvenFindersModel_379 (by decide +kernel) rfl (Nat.le_of_ble_eq_true rfl) rfl ⟨Nat.le_of_ble_eq_true rfl, Nat.le_of_ble_eq_true rfl⟩ t20 (fun v9 N9 h21 => ?_) (fun E9 N9 h21 => by cases h21)
        cases h21
        show G z mX12_would (d + 4) 0 0 47 [some (.ref 54), some (.int x1), some (.int x2), some (.int x3), some (.int x4), some (.int x5), some (.int x6), some (.int x7), some (.int x8)] [.int (k_within x4 (nI 0) (nI 999)), .ref 54] (mrow M 54 (upd (M.1 54) 0 (nI 0))) Q
        refine G.if_eq (off := (52)) (tgt := 99) (by decide +kernel) rfl (fun c22 => ?_) (fun c22 => ?_)
        · skip
          rw [if_pos c22] at hk
          refine G.sl [(.iconst 0, 1, 0, 0, 0, nI 0), (.iconst 1, 1, 0, 0, 0, nI 1), (.iconst 1, 1, 0, 0, 0, nI 1)] [] (pc2 := 102) (ls2 := [some (.ref 54), some (.int x1), some (.int x2), some (.int x3), some (.int x4), some (.int x5), some (.int x6), some (.int x7), some (.int x8)]) (st2 := [.int (nI 1), .int (nI 1), .int (nI 0), .ref 54]) (M2 := mrow M 54 (upd (M.1 54) 0 (nI 0))) (Ps := []) (by decide +kernel) rfl rfl trivial ?_
          have t23 : GM z mX12_may (d + 3) [.ref 54, .int (nI 0), .int (nI 1), .int (nI 1)] (mrow M 54 (upd (M.1 54) 0 (nI 0))) (fun rs => rs = .inl (some (.int (nI 0)), mrow (mrow M 54 (upd (upd (M.1 54) 0 (nI 0)) 0 (nI 1))) 55 (upd (M.1 55) 1 ((M.1 55 1) + nI 1)))) := by
            have q9 := m_may_1_f z (d + 3) (mrow M 54 (upd (M.1 54) 0 (nI 0))) (nI 1) (by first | rfl | (simp only [mput, mrow_same, mrow_hit, mrow_miss, mrow_sw, idr_eq, ne_eq, Nat.reduceEqDiff, not_false_eq_true, Nat.reduceLT, reduceCtorEq, pk_us]; done)) (by decide)
            try simp only [mput, mrow_same, mrow_hit, mrow_miss, mrow_sw, idr_eq, ne_eq, Nat.reduceEqDiff, not_false_eq_true, Nat.reduceLT, reduceCtorEq] at q9
            exact q9
          refine G.callV (as := [.int (nI 0), .int (nI 1), .int (nI 1)]) (rest := []) (a := 54) oX12_may lk_EvenFindersModel_213 (by decide +kernel) rfl rfl ⟨rfl, rfl⟩ (Nat.le_of_ble_eq_true rfl) rfl ⟨Nat.le_of_ble_eq_true rfl, Nat.le_of_ble_eq_true rfl⟩ t23 (fun v9 N9 h24 => ?_) (fun E9 N9 h24 => by cases h24)
          cases h24
          show G z mX12_would (d + 4) 0 0 105 [some (.ref 54), some (.int x1), some (.int x2), some (.int x3), some (.int x4), some (.int x5), some (.int x6), some (.int x7), some (.int x8)] [.int (nI 0)] (mrow (mrow M 54 (upd (upd (M.1 54) 0 (nI 0)) 0 (nI 1))) 55 (upd (M.1 55) 1 ((M.1 55 1) + nI 1))) Q
          refine G.if_ne (off := (5)) (tgt := 110) (by decide +kernel) rfl (fun h9 => absurd (by decide) h9) (fun _ => ?_)
          refine G.sl [(.iconst 0, 1, 0, 0, 0, nI 0)] [] (pc2 := 109) (ls2 := [some (.ref 54), some (.int x1), some (.int x2), some (.int x3), some (.int x4), some (.int x5), some (.int x6), some (.int x7), some (.int x8)]) (st2 := [.int (nI 0)]) (M2 := mrow (mrow M 54 (upd (upd (M.1 54) 0 (nI 0)) 0 (nI 1))) 55 (upd (M.1 55) 1 ((M.1 55 1) + nI 1))) (Ps := []) (by decide +kernel) rfl rfl trivial ?_
          refine G.mem (M' := mrow (mrow (mrow (mrow M 54 (upd (upd (M.1 54) 0 (nI 0)) 0 (nI 1))) 55 (upd (M.1 55) 1 ((M.1 55 1) + nI 1))) 67 (M.1 67)) 68 (M.1 68)) ((((mrow_id (N := mrow (mrow M 54 (upd (upd (M.1 54) 0 (nI 0)) 0 (nI 1))) 55 (upd (M.1 55) 1 ((M.1 55 1) + nI 1))) (c := 67) (f := M.1 67) (by first | rfl | (simp only [mput, mrow_same, mrow_hit, mrow_miss, mrow_sw, idr_eq, ne_eq, Nat.reduceEqDiff, not_false_eq_true, Nat.reduceLT, reduceCtorEq]; done))).symm).trans (mrow_id (N := mrow (mrow (mrow M 54 (upd (upd (M.1 54) 0 (nI 0)) 0 (nI 1))) 55 (upd (M.1 55) 1 ((M.1 55 1) + nI 1))) 67 (M.1 67)) (c := 68) (f := M.1 68) (by first | rfl | (simp only [mput, mrow_same, mrow_hit, mrow_miss, mrow_sw, idr_eq, ne_eq, Nat.reduceEqDiff, not_false_eq_true, Nat.reduceLT, reduceCtorEq]; done))).symm).trans (by first | rfl | (simp only [mput, mrow_same, mrow_hit, mrow_miss, mrow_sw, idr_eq, ne_eq, Nat.reduceEqDiff, not_false_eq_true, Nat.reduceLT, reduceCtorEq]; done))) ?_
          exact G.reti (by decide +kernel) rfl rfl (Nat.le_of_ble_eq_true rfl) (Nat.le_of_ble_eq_true rfl) ((by rw [hQ]; simp only [k_would, if_neg c4, if_neg c10, if_neg c16, if_pos c22, mrow_self]))
        · skip
          rw [if_neg c22] at hk
          refine G.sl [(.iload 5, 2, 5, 0, 0, 0), (.iconst 0, 1, 0, 0, 0, nI 0), (.bipush 10, 2, 0, 0, 0, nI 10)] [] (pc2 := 55) (ls2 := [some (.ref 54), some (.int x1), some (.int x2), some (.int x3), some (.int x4), some (.int x5), some (.int x6), some (.int x7), some (.int x8)]) (st2 := [.int (nI 10), .int (nI 0), .int x5, .ref 54]) (M2 := mrow M 54 (upd (M.1 54) 0 (nI 0))) (Ps := []) (by decide +kernel) rfl rfl trivial ?_
          obtain ⟨k25, hk⟩ := hk
          have t26 : GM z mX12_within (d + 3) [.int x5, .int (nI 0), .int (nI 10)] (mrow M 54 (upd (M.1 54) 0 (nI 0))) (fun rs => rs = .inl (some (.int (k_within x5 (nI 0) (nI 10))), mrow M 54 (upd (M.1 54) 0 (nI 0)))) := by
            have q9 := c_k_within z (d + 3) (mrow M 54 (upd (M.1 54) 0 (nI 0))) x5 (nI 0) (nI 10)
            try simp only [mput, mrow_same, mrow_hit, mrow_miss, mrow_sw, idr_eq, ne_eq, Nat.reduceEqDiff, not_false_eq_true, Nat.reduceLT, reduceCtorEq] at q9
            exact q9
          refine G.callS (as := [.int x5, .int (nI 0), .int (nI 10)]) (rest := [.ref 54]) oX12_within lk_EvenFindersModel_379 (by decide +kernel) rfl (Nat.le_of_ble_eq_true rfl) rfl ⟨Nat.le_of_ble_eq_true rfl, Nat.le_of_ble_eq_true rfl⟩ t26 (fun v9 N9 h27 => ?_) (fun E9 N9 h27 => by cases h27)
          cases h27
          show G z mX12_would (d + 4) 0 0 58 [some (.ref 54), some (.int x1), some (.int x2), some (.int x3), some (.int x4), some (.int x5), some (.int x6), some (.int x7), some (.int x8)] [.int (k_within x5 (nI 0) (nI 10)), .ref 54] (mrow M 54 (upd (M.1 54) 0 (nI 0))) Q
          refine G.if_eq (off := (41)) (tgt := 99) (by decide +kernel) rfl (fun c28 => ?_) (fun c28 => ?_)
          · skip
            rw [if_pos c28] at hk
            refine G.sl [(.iconst 0, 1, 0, 0, 0, nI 0), (.iconst 1, 1, 0, 0, 0, nI 1), (.iconst 1, 1, 0, 0, 0, nI 1)] [] (pc2 := 102) (ls2 := [some (.ref 54), some (.int x1), some (.int x2), some (.int x3), some (.int x4), some (.int x5), some (.int x6), some (.int x7), some (.int x8)]) (st2 := [.int (nI 1), .int (nI 1), .int (nI 0), .ref 54]) (M2 := mrow M 54 (upd (M.1 54) 0 (nI 0))) (Ps := []) (by decide +kernel) rfl rfl trivial ?_
            have t29 : GM z mX12_may (d + 3) [.ref 54, .int (nI 0), .int (nI 1), .int (nI 1)] (mrow M 54 (upd (M.1 54) 0 (nI 0))) (fun rs => rs = .inl (some (.int (nI 0)), mrow (mrow M 54 (upd (upd (M.1 54) 0 (nI 0)) 0 (nI 1))) 55 (upd (M.1 55) 1 ((M.1 55 1) + nI 1)))) := by
              have q9 := m_may_1_f z (d + 3) (mrow M 54 (upd (M.1 54) 0 (nI 0))) (nI 1) (by first | rfl | (simp only [mput, mrow_same, mrow_hit, mrow_miss, mrow_sw, idr_eq, ne_eq, Nat.reduceEqDiff, not_false_eq_true, Nat.reduceLT, reduceCtorEq, pk_us]; done)) (by decide)
              try simp only [mput, mrow_same, mrow_hit, mrow_miss, mrow_sw, idr_eq, ne_eq, Nat.reduceEqDiff, not_false_eq_true, Nat.reduceLT, reduceCtorEq] at q9
              exact q9
            refine G.callV (as := [.int (nI 0), .int (nI 1), .int (nI 1)]) (rest := []) (a := 54) oX12_may lk_EvenFindersModel_213 (by decide +kernel) rfl rfl ⟨rfl, rfl⟩ (Nat.le_of_ble_eq_true rfl) rfl ⟨Nat.le_of_ble_eq_true rfl, Nat.le_of_ble_eq_true rfl⟩ t29 (fun v9 N9 h30 => ?_) (fun E9 N9 h30 => by cases h30)
            cases h30
            show G z mX12_would (d + 4) 0 0 105 [some (.ref 54), some (.int x1), some (.int x2), some (.int x3), some (.int x4), some (.int x5), some (.int x6), some (.int x7), some (.int x8)] [.int (nI 0)] (mrow (mrow M 54 (upd (upd (M.1 54) 0 (nI 0)) 0 (nI 1))) 55 (upd (M.1 55) 1 ((M.1 55 1) + nI 1))) Q
            refine G.if_ne (off := (5)) (tgt := 110) (by decide +kernel) rfl (fun h9 => absurd (by decide) h9) (fun _ => ?_)
            refine G.sl [(.iconst 0, 1, 0, 0, 0, nI 0)] [] (pc2 := 109) (ls2 := [some (.ref 54), some (.int x1), some (.int x2), some (.int x3), some (.int x4), some (.int x5), some (.int x6), some (.int x7), some (.int x8)]) (st2 := [.int (nI 0)]) (M2 := mrow (mrow M 54 (upd (upd (M.1 54) 0 (nI 0)) 0 (nI 1))) 55 (upd (M.1 55) 1 ((M.1 55 1) + nI 1))) (Ps := []) (by decide +kernel) rfl rfl trivial ?_
            refine G.mem (M' := mrow (mrow (mrow (mrow M 54 (upd (upd (M.1 54) 0 (nI 0)) 0 (nI 1))) 55 (upd (M.1 55) 1 ((M.1 55 1) + nI 1))) 67 (M.1 67)) 68 (M.1 68)) ((((mrow_id (N := mrow (mrow M 54 (upd (upd (M.1 54) 0 (nI 0)) 0 (nI 1))) 55 (upd (M.1 55) 1 ((M.1 55 1) + nI 1))) (c := 67) (f := M.1 67) (by first | rfl | (simp only [mput, mrow_same, mrow_hit, mrow_miss, mrow_sw, idr_eq, ne_eq, Nat.reduceEqDiff, not_false_eq_true, Nat.reduceLT, reduceCtorEq]; done))).symm).trans (mrow_id (N := mrow (mrow (mrow M 54 (upd (upd (M.1 54) 0 (nI 0)) 0 (nI 1))) 55 (upd (M.1 55) 1 ((M.1 55 1) + nI 1))) 67 (M.1 67)) (c := 68) (f := M.1 68) (by first | rfl | (simp only [mput, mrow_same, mrow_hit, mrow_miss, mrow_sw, idr_eq, ne_eq, Nat.reduceEqDiff, not_false_eq_true, Nat.reduceLT, reduceCtorEq]; done))).symm).trans (by first | rfl | (simp only [mput, mrow_same, mrow_hit, mrow_miss, mrow_sw, idr_eq, ne_eq, Nat.reduceEqDiff, not_false_eq_true, Nat.reduceLT, reduceCtorEq]; done))) ?_
            exact G.reti (by decide +kernel) rfl rfl (Nat.le_of_ble_eq_true rfl) (Nat.le_of_ble_eq_true rfl) ((by rw [hQ]; simp only [k_would, if_neg c4, if_neg c10, if_neg c16, if_neg c22, if_pos c28, mrow_self]))
          · skip
            rw [if_neg c28] at hk
            refine G.sl [(.iload 6, 2, 6, 0, 0, 0), (.iconst 0, 1, 0, 0, 0, nI 0), (.sipush 400, 3, 0, 0, 0, nI 400)] [] (pc2 := 67) (ls2 := [some (.ref 54), some (.int x1), some (.int x2), some (.int x3), some (.int x4), some (.int x5), some (.int x6), some (.int x7), some (.int x8)]) (st2 := [.int (nI 400), .int (nI 0), .int x6, .ref 54]) (M2 := mrow M 54 (upd (M.1 54) 0 (nI 0))) (Ps := []) (by decide +kernel) rfl rfl trivial ?_
            obtain ⟨k31, hk⟩ := hk
            have t32 : GM z mX12_within (d + 3) [.int x6, .int (nI 0), .int (nI 400)] (mrow M 54 (upd (M.1 54) 0 (nI 0))) (fun rs => rs = .inl (some (.int (k_within x6 (nI 0) (nI 400))), mrow M 54 (upd (M.1 54) 0 (nI 0)))) := by
              have q9 := c_k_within z (d + 3) (mrow M 54 (upd (M.1 54) 0 (nI 0))) x6 (nI 0) (nI 400)
              try simp only [mput, mrow_same, mrow_hit, mrow_miss, mrow_sw, idr_eq, ne_eq, Nat.reduceEqDiff, not_false_eq_true, Nat.reduceLT, reduceCtorEq] at q9
              exact q9
            refine G.callS (as := [.int x6, .int (nI 0), .int (nI 400)]) (rest := [.ref 54]) oX12_within lk_EvenFindersModel_379 (by decide +kernel) rfl (Nat.le_of_ble_eq_true rfl) rfl ⟨Nat.le_of_ble_eq_true rfl, Nat.le_of_ble_eq_true rfl⟩ t32 (fun v9 N9 h33 => ?_) (fun E9 N9 h33 => by cases h33)
            cases h33
            show G z mX12_would (d + 4) 0 0 70 [some (.ref 54), some (.int x1), some (.int x2), some (.int x3), some (.int x4), some (.int x5), some (.int x6), some (.int x7), some (.int x8)] [.int (k_within x6 (nI 0) (nI 400)), .ref 54] (mrow M 54 (upd (M.1 54) 0 (nI 0))) Q
            refine G.if_eq (off := (29)) (tgt := 99) (by decide +kernel) rfl (fun c34 => ?_) (fun c34 => ?_)
            · skip
              rw [if_pos c34] at hk
              refine G.sl [(.iconst 0, 1, 0, 0, 0, nI 0), (.iconst 1, 1, 0, 0, 0, nI 1), (.iconst 1, 1, 0, 0, 0, nI 1)] [] (pc2 := 102) (ls2 := [some (.ref 54), some (.int x1), some (.int x2), some (.int x3), some (.int x4), some (.int x5), some (.int x6), some (.int x7), some (.int x8)]) (st2 := [.int (nI 1), .int (nI 1), .int (nI 0), .ref 54]) (M2 := mrow M 54 (upd (M.1 54) 0 (nI 0))) (Ps := []) (by decide +kernel) rfl rfl trivial ?_
              have t35 : GM z mX12_may (d + 3) [.ref 54, .int (nI 0), .int (nI 1), .int (nI 1)] (mrow M 54 (upd (M.1 54) 0 (nI 0))) (fun rs => rs = .inl (some (.int (nI 0)), mrow (mrow M 54 (upd (upd (M.1 54) 0 (nI 0)) 0 (nI 1))) 55 (upd (M.1 55) 1 ((M.1 55 1) + nI 1)))) := by
                have q9 := m_may_1_f z (d + 3) (mrow M 54 (upd (M.1 54) 0 (nI 0))) (nI 1) (by first | rfl | (simp only [mput, mrow_same, mrow_hit, mrow_miss, mrow_sw, idr_eq, ne_eq, Nat.reduceEqDiff, not_false_eq_true, Nat.reduceLT, reduceCtorEq, pk_us]; done)) (by decide)
                try simp only [mput, mrow_same, mrow_hit, mrow_miss, mrow_sw, idr_eq, ne_eq, Nat.reduceEqDiff, not_false_eq_true, Nat.reduceLT, reduceCtorEq] at q9
                exact q9
              refine G.callV (as := [.int (nI 0), .int (nI 1), .int (nI 1)]) (rest := []) (a := 54) oX12_may lk_EvenFindersModel_213 (by decide +kernel) rfl rfl ⟨rfl, rfl⟩ (Nat.le_of_ble_eq_true rfl) rfl ⟨Nat.le_of_ble_eq_true rfl, Nat.le_of_ble_eq_true rfl⟩ t35 (fun v9 N9 h36 => ?_) (fun E9 N9 h36 => by cases h36)
              cases h36
              show G z mX12_would (d + 4) 0 0 105 [some (.ref 54), some (.int x1), some (.int x2), some (.int x3), some (.int x4), some (.int x5), some (.int x6), some (.int x7), some (.int x8)] [.int (nI 0)] (mrow (mrow M 54 (upd (upd (M.1 54) 0 (nI 0)) 0 (nI 1))) 55 (upd (M.1 55) 1 ((M.1 55 1) + nI 1))) Q
              refine G.if_ne (off := (5)) (tgt := 110) (by decide +kernel) rfl (fun h9 => absurd (by decide) h9) (fun _ => ?_)
              refine G.sl [(.iconst 0, 1, 0, 0, 0, nI 0)] [] (pc2 := 109) (ls2 := [some (.ref 54), some (.int x1), some (.int x2), some (.int x3), some (.int x4), some (.int x5), some (.int x6), some (.int x7), some (.int x8)]) (st2 := [.int (nI 0)]) (M2 := mrow (mrow M 54 (upd (upd (M.1 54) 0 (nI 0)) 0 (nI 1))) 55 (upd (M.1 55) 1 ((M.1 55 1) + nI 1))) (Ps := []) (by decide +kernel) rfl rfl trivial ?_
              refine G.mem (M' := mrow (mrow (mrow (mrow M 54 (upd (upd (M.1 54) 0 (nI 0)) 0 (nI 1))) 55 (upd (M.1 55) 1 ((M.1 55 1) + nI 1))) 67 (M.1 67)) 68 (M.1 68)) ((((mrow_id (N := mrow (mrow M 54 (upd (upd (M.1 54) 0 (nI 0)) 0 (nI 1))) 55 (upd (M.1 55) 1 ((M.1 55 1) + nI 1))) (c := 67) (f := M.1 67) (by first | rfl | (simp only [mput, mrow_same, mrow_hit, mrow_miss, mrow_sw, idr_eq, ne_eq, Nat.reduceEqDiff, not_false_eq_true, Nat.reduceLT, reduceCtorEq]; done))).symm).trans (mrow_id (N := mrow (mrow (mrow M 54 (upd (upd (M.1 54) 0 (nI 0)) 0 (nI 1))) 55 (upd (M.1 55) 1 ((M.1 55 1) + nI 1))) 67 (M.1 67)) (c := 68) (f := M.1 68) (by first | rfl | (simp only [mput, mrow_same, mrow_hit, mrow_miss, mrow_sw, idr_eq, ne_eq, Nat.reduceEqDiff, not_false_eq_true, Nat.reduceLT, reduceCtorEq]; done))).symm).trans (by first | rfl | (simp only [mput, mrow_same, mrow_hit, mrow_miss, mrow_sw, idr_eq, ne_eq, Nat.reduceEqDiff, not_false_eq_true, Nat.reduceLT, reduceCtorEq]; done))) ?_
              exact G.reti (by decide +kernel) rfl rfl (Nat.le_of_ble_eq_true rfl) (Nat.le_of_ble_eq_true rfl) ((by rw [hQ]; simp only [k_would, if_neg c4, if_neg c10, if_neg c16, if_neg c22, if_neg c28, if_pos c34, mrow_self]))
            · skip
              rw [if_neg c34] at hk
              refine G.sl [(.iload 7, 2, 7, 0, 0, 0), (.iconst 0, 1, 0, 0, 0, nI 0), (.sipush 999, 3, 0, 0, 0, nI 999)] [] (pc2 := 79) (ls2 := [some (.ref 54), some (.int x1), some (.int x2), some (.int x3), some (.int x4), some (.int x5), some (.int x6), some (.int x7), some (.int x8)]) (st2 := [.int (nI 999), .int (nI 0), .int x7, .ref 54]) (M2 := mrow M 54 (upd (M.1 54) 0 (nI 0))) (Ps := []) (by decide +kernel) rfl rfl trivial ?_
              obtain ⟨k37, hk⟩ := hk
              have t38 : GM z mX12_within (d + 3) [.int x7, .int (nI 0), .int (nI 999)] (mrow M 54 (upd (M.1 54) 0 (nI 0))) (fun rs => rs = .inl (some (.int (k_within x7 (nI 0) (nI 999))), mrow M 54 (upd (M.1 54) 0 (nI 0)))) := by
                have q9 := c_k_within z (d + 3) (mrow M 54 (upd (M.1 54) 0 (nI 0))) x7 (nI 0) (nI 999)
                try simp only [mput, mrow_same, mrow_hit, mrow_miss, mrow_sw, idr_eq, ne_eq, Nat.reduceEqDiff, not_false_eq_true, Nat.reduceLT, reduceCtorEq] at q9
                exact q9
              refine G.callS (as := [.int x7, .int (nI 0), .int (nI 999)]) (rest := [.ref 54]) oX12_within lk_EvenFindersModel_379 (by decide +kernel) rfl (Nat.le_of_ble_eq_true rfl) rfl ⟨Nat.le_of_ble_eq_true rfl, Nat.le_of_ble_eq_true rfl⟩ t38 (fun v9 N9 h39 => ?_) (fun E9 N9 h39 => by cases h39)
              cases h39
              show G z mX12_would (d + 4) 0 0 82 [some (.ref 54), some (.int x1), some (.int x2), some (.int x3), some (.int x4), some (.int x5), some (.int x6), some (.int x7), some (.int x8)] [.int (k_within x7 (nI 0) (nI 999)), .ref 54] (mrow M 54 (upd (M.1 54) 0 (nI 0))) Q
              refine G.if_eq (off := (17)) (tgt := 99) (by decide +kernel) rfl (fun c40 => ?_) (fun c40 => ?_)
              · skip
                rw [if_pos c40] at hk
                refine G.sl [(.iconst 0, 1, 0, 0, 0, nI 0), (.iconst 1, 1, 0, 0, 0, nI 1), (.iconst 1, 1, 0, 0, 0, nI 1)] [] (pc2 := 102) (ls2 := [some (.ref 54), some (.int x1), some (.int x2), some (.int x3), some (.int x4), some (.int x5), some (.int x6), some (.int x7), some (.int x8)]) (st2 := [.int (nI 1), .int (nI 1), .int (nI 0), .ref 54]) (M2 := mrow M 54 (upd (M.1 54) 0 (nI 0))) (Ps := []) (by decide +kernel) rfl rfl trivial ?_
                have t41 : GM z mX12_may (d + 3) [.ref 54, .int (nI 0), .int (nI 1), .int (nI 1)] (mrow M 54 (upd (M.1 54) 0 (nI 0))) (fun rs => rs = .inl (some (.int (nI 0)), mrow (mrow M 54 (upd (upd (M.1 54) 0 (nI 0)) 0 (nI 1))) 55 (upd (M.1 55) 1 ((M.1 55 1) + nI 1)))) := by
                  have q9 := m_may_1_f z (d + 3) (mrow M 54 (upd (M.1 54) 0 (nI 0))) (nI 1) (by first | rfl | (simp only [mput, mrow_same, mrow_hit, mrow_miss, mrow_sw, idr_eq, ne_eq, Nat.reduceEqDiff, not_false_eq_true, Nat.reduceLT, reduceCtorEq, pk_us]; done)) (by decide)
                  try simp only [mput, mrow_same, mrow_hit, mrow_miss, mrow_sw, idr_eq, ne_eq, Nat.reduceEqDiff, not_false_eq_true, Nat.reduceLT, reduceCtorEq] at q9
                  exact q9
                refine G.callV (as := [.int (nI 0), .int (nI 1), .int (nI 1)]) (rest := []) (a := 54) oX12_may lk_EvenFindersModel_213 (by decide +kernel) rfl rfl ⟨rfl, rfl⟩ (Nat.le_of_ble_eq_true rfl) rfl ⟨Nat.le_of_ble_eq_true rfl, Nat.le_of_ble_eq_true rfl⟩ t41 (fun v9 N9 h42 => ?_) (fun E9 N9 h42 => by cases h42)
                cases h42
                show G z mX12_would (d + 4) 0 0 105 [some (.ref 54), some (.int x1), some (.int x2), some (.int x3), some (.int x4), some (.int x5), some (.int x6), some (.int x7), some (.int x8)] [.int (nI 0)] (mrow (mrow M 54 (upd (upd (M.1 54) 0 (nI 0)) 0 (nI 1))) 55 (upd (M.1 55) 1 ((M.1 55 1) + nI 1))) Q
                refine G.if_ne (off := (5)) (tgt := 110) (by decide +kernel) rfl (fun h9 => absurd (by decide) h9) (fun _ => ?_)
                refine G.sl [(.iconst 0, 1, 0, 0, 0, nI 0)] [] (pc2 := 109) (ls2 := [some (.ref 54), some (.int x1), some (.int x2), some (.int x3), some (.int x4), some (.int x5), some (.int x6), some (.int x7), some (.int x8)]) (st2 := [.int (nI 0)]) (M2 := mrow (mrow M 54 (upd (upd (M.1 54) 0 (nI 0)) 0 (nI 1))) 55 (upd (M.1 55) 1 ((M.1 55 1) + nI 1))) (Ps := []) (by decide +kernel) rfl rfl trivial ?_
                refine G.mem (M' := mrow (mrow (mrow (mrow M 54 (upd (upd (M.1 54) 0 (nI 0)) 0 (nI 1))) 55 (upd (M.1 55) 1 ((M.1 55 1) + nI 1))) 67 (M.1 67)) 68 (M.1 68)) ((((mrow_id (N := mrow (mrow M 54 (upd (upd (M.1 54) 0 (nI 0)) 0 (nI 1))) 55 (upd (M.1 55) 1 ((M.1 55 1) + nI 1))) (c := 67) (f := M.1 67) (by first | rfl | (simp only [mput, mrow_same, mrow_hit, mrow_miss, mrow_sw, idr_eq, ne_eq, Nat.reduceEqDiff, not_false_eq_true, Nat.reduceLT, reduceCtorEq]; done))).symm).trans (mrow_id (N := mrow (mrow (mrow M 54 (upd (upd (M.1 54) 0 (nI 0)) 0 (nI 1))) 55 (upd (M.1 55) 1 ((M.1 55 1) + nI 1))) 67 (M.1 67)) (c := 68) (f := M.1 68) (by first | rfl | (simp only [mput, mrow_same, mrow_hit, mrow_miss, mrow_sw, idr_eq, ne_eq, Nat.reduceEqDiff, not_false_eq_true, Nat.reduceLT, reduceCtorEq]; done))).symm).trans (by first | rfl | (simp only [mput, mrow_same, mrow_hit, mrow_miss, mrow_sw, idr_eq, ne_eq, Nat.reduceEqDiff, not_false_eq_true, Nat.reduceLT, reduceCtorEq]; done))) ?_
                exact G.reti (by decide +kernel) rfl rfl (Nat.le_of_ble_eq_true rfl) (Nat.le_of_ble_eq_true rfl) ((by rw [hQ]; simp only [k_would, if_neg c4, if_neg c10, if_neg c16, if_neg c22, if_neg c28, if_neg c34, if_pos c40, mrow_self]))
              · skip
                rw [if_neg c40] at hk
                refine G.sl [(.iload 8, 2, 8, 0, 0, 0), (.iconst 0, 1, 0, 0, 0, nI 0), (.iconst 5, 1, 0, 0, 0, nI 5)] [] (pc2 := 89) (ls2 := [some (.ref 54), some (.int x1), some (.int x2), some (.int x3), some (.int x4), some (.int x5), some (.int x6), some (.int x7), some (.int x8)]) (st2 := [.int (nI 5), .int (nI 0), .int x8, .ref 54]) (M2 := mrow M 54 (upd (M.1 54) 0 (nI 0))) (Ps := []) (by decide +kernel) rfl rfl trivial ?_
                obtain ⟨k43, hk⟩ := hk
                have t44 : GM z mX12_within (d + 3) [.int x8, .int (nI 0), .int (nI 5)] (mrow M 54 (upd (M.1 54) 0 (nI 0))) (fun rs => rs = .inl (some (.int (k_within x8 (nI 0) (nI 5))), mrow M 54 (upd (M.1 54) 0 (nI 0)))) := by
                  have q9 := c_k_within z (d + 3) (mrow M 54 (upd (M.1 54) 0 (nI 0))) x8 (nI 0) (nI 5)
                  try simp only [mput, mrow_same, mrow_hit, mrow_miss, mrow_sw, idr_eq, ne_eq, Nat.reduceEqDiff, not_false_eq_true, Nat.reduceLT, reduceCtorEq] at q9
                  exact q9
                refine G.callS (as := [.int x8, .int (nI 0), .int (nI 5)]) (rest := [.ref 54]) oX12_within lk_EvenFindersModel_379 (by decide +kernel) rfl (Nat.le_of_ble_eq_true rfl) rfl ⟨Nat.le_of_ble_eq_true rfl, Nat.le_of_ble_eq_true rfl⟩ t44 (fun v9 N9 h45 => ?_) (fun E9 N9 h45 => by cases h45)
                cases h45
                show G z mX12_would (d + 4) 0 0 92 [some (.ref 54), some (.int x1), some (.int x2), some (.int x3), some (.int x4), some (.int x5), some (.int x6), some (.int x7), some (.int x8)] [.int (k_within x8 (nI 0) (nI 5)), .ref 54] (mrow M 54 (upd (M.1 54) 0 (nI 0))) Q
                refine G.if_eq (off := (7)) (tgt := 99) (by decide +kernel) rfl (fun c46 => ?_) (fun c46 => ?_)
                · skip
                  rw [if_pos c46] at hk
                  refine G.sl [(.iconst 0, 1, 0, 0, 0, nI 0), (.iconst 1, 1, 0, 0, 0, nI 1), (.iconst 1, 1, 0, 0, 0, nI 1)] [] (pc2 := 102) (ls2 := [some (.ref 54), some (.int x1), some (.int x2), some (.int x3), some (.int x4), some (.int x5), some (.int x6), some (.int x7), some (.int x8)]) (st2 := [.int (nI 1), .int (nI 1), .int (nI 0), .ref 54]) (M2 := mrow M 54 (upd (M.1 54) 0 (nI 0))) (Ps := []) (by decide +kernel) rfl rfl trivial ?_
                  have t47 : GM z mX12_may (d + 3) [.ref 54, .int (nI 0), .int (nI 1), .int (nI 1)] (mrow M 54 (upd (M.1 54) 0 (nI 0))) (fun rs => rs = .inl (some (.int (nI 0)), mrow (mrow M 54 (upd (upd (M.1 54) 0 (nI 0)) 0 (nI 1))) 55 (upd (M.1 55) 1 ((M.1 55 1) + nI 1)))) := by
                    have q9 := m_may_1_f z (d + 3) (mrow M 54 (upd (M.1 54) 0 (nI 0))) (nI 1) (by first | rfl | (simp only [mput, mrow_same, mrow_hit, mrow_miss, mrow_sw, idr_eq, ne_eq, Nat.reduceEqDiff, not_false_eq_true, Nat.reduceLT, reduceCtorEq, pk_us]; done)) (by decide)
                    try simp only [mput, mrow_same, mrow_hit, mrow_miss, mrow_sw, idr_eq, ne_eq, Nat.reduceEqDiff, not_false_eq_true, Nat.reduceLT, reduceCtorEq] at q9
                    exact q9
                  refine G.callV (as := [.int (nI 0), .int (nI 1), .int (nI 1)]) (rest := []) (a := 54) oX12_may lk_EvenFindersModel_213 (by decide +kernel) rfl rfl ⟨rfl, rfl⟩ (Nat.le_of_ble_eq_true rfl) rfl ⟨Nat.le_of_ble_eq_true rfl, Nat.le_of_ble_eq_true rfl⟩ t47 (fun v9 N9 h48 => ?_) (fun E9 N9 h48 => by cases h48)
                  cases h48
                  show G z mX12_would (d + 4) 0 0 105 [some (.ref 54), some (.int x1), some (.int x2), some (.int x3), some (.int x4), some (.int x5), some (.int x6), some (.int x7), some (.int x8)] [.int (nI 0)] (mrow (mrow M 54 (upd (upd (M.1 54) 0 (nI 0)) 0 (nI 1))) 55 (upd (M.1 55) 1 ((M.1 55 1) + nI 1))) Q
                  refine G.if_ne (off := (5)) (tgt := 110) (by decide +kernel) rfl (fun h9 => absurd (by decide) h9) (fun _ => ?_)
                  refine G.sl [(.iconst 0, 1, 0, 0, 0, nI 0)] [] (pc2 := 109) (ls2 := [some (.ref 54), some (.int x1), some (.int x2), some (.int x3), some (.int x4), some (.int x5), some (.int x6), some (.int x7), some (.int x8)]) (st2 := [.int (nI 0)]) (M2 := mrow (mrow M 54 (upd (upd (M.1 54) 0 (nI 0)) 0 (nI 1))) 55 (upd (M.1 55) 1 ((M.1 55 1) + nI 1))) (Ps := []) (by decide +kernel) rfl rfl trivial ?_
                  refine G.mem (M' := mrow (mrow (mrow (mrow M 54 (upd (upd (M.1 54) 0 (nI 0)) 0 (nI 1))) 55 (upd (M.1 55) 1 ((M.1 55 1) + nI 1))) 67 (M.1 67)) 68 (M.1 68)) ((((mrow_id (N := mrow (mrow M 54 (upd (upd (M.1 54) 0 (nI 0)) 0 (nI 1))) 55 (upd (M.1 55) 1 ((M.1 55 1) + nI 1))) (c := 67) (f := M.1 67) (by first | rfl | (simp only [mput, mrow_same, mrow_hit, mrow_miss, mrow_sw, idr_eq, ne_eq, Nat.reduceEqDiff, not_false_eq_true, Nat.reduceLT, reduceCtorEq]; done))).symm).trans (mrow_id (N := mrow (mrow (mrow M 54 (upd (upd (M.1 54) 0 (nI 0)) 0 (nI 1))) 55 (upd (M.1 55) 1 ((M.1 55 1) + nI 1))) 67 (M.1 67)) (c := 68) (f := M.1 68) (by first | rfl | (simp only [mput, mrow_same, mrow_hit, mrow_miss, mrow_sw, idr_eq, ne_eq, Nat.reduceEqDiff, not_false_eq_true, Nat.reduceLT, reduceCtorEq]; done))).symm).trans (by first | rfl | (simp only [mput, mrow_same, mrow_hit, mrow_miss, mrow_sw, idr_eq, ne_eq, Nat.reduceEqDiff, not_false_eq_true, Nat.reduceLT, reduceCtorEq]; done))) ?_
                  exact G.reti (by decide +kernel) rfl rfl (Nat.le_of_ble_eq_true rfl) (Nat.le_of_ble_eq_true rfl) ((by rw [hQ]; simp only [k_would, if_neg c4, if_neg c10, if_neg c16, if_neg c22, if_neg c28, if_neg c34, if_neg c40, if_pos c46, mrow_self]))
                · skip
                  rw [if_neg c46] at hk
                  refine G.sl [(.iconst 1, 1, 0, 0, 0, nI 1), (.goto 4, 3, 100, 0, 0, 0), (.iconst 1, 1, 0, 0, 0, nI 1), (.iconst 1, 1, 0, 0, 0, nI 1)] [] (pc2 := 102) (ls2 := [some (.ref 54), some (.int x1), some (.int x2), some (.int x3), some (.int x4), some (.int x5), some (.int x6), some (.int x7), some (.int x8)]) (st2 := [.int (nI 1), .int (nI 1), .int (nI 1), .ref 54]) (M2 := mrow M 54 (upd (M.1 54) 0 (nI 0))) (Ps := []) (by decide +kernel) rfl rfl trivial ?_
                  have t49 : GM z mX12_may (d + 3) [.ref 54, .int (nI 1), .int (nI 1), .int (nI 1)] (mrow M 54 (upd (M.1 54) 0 (nI 0))) (fun rs => rs = .inl (some (.int (nI 1)), mrow M 54 (upd (M.1 54) 0 (nI 0)))) := by
                    have q9 := m_may_1_t z (d + 3) (mrow M 54 (upd (M.1 54) 0 (nI 0))) (nI 1) (by first | rfl | (simp only [mput, mrow_same, mrow_hit, mrow_miss, mrow_sw, idr_eq, ne_eq, Nat.reduceEqDiff, not_false_eq_true, Nat.reduceLT, reduceCtorEq, pk_us]; done))
                    try simp only [mput, mrow_same, mrow_hit, mrow_miss, mrow_sw, idr_eq, ne_eq, Nat.reduceEqDiff, not_false_eq_true, Nat.reduceLT, reduceCtorEq] at q9
                    exact q9
                  refine G.callV (as := [.int (nI 1), .int (nI 1), .int (nI 1)]) (rest := []) (a := 54) oX12_may lk_EvenFindersModel_213 (by decide +kernel) rfl rfl ⟨rfl, rfl⟩ (Nat.le_of_ble_eq_true rfl) rfl ⟨Nat.le_of_ble_eq_true rfl, Nat.le_of_ble_eq_true rfl⟩ t49 (fun v9 N9 h50 => ?_) (fun E9 N9 h50 => by cases h50)
                  cases h50
                  show G z mX12_would (d + 4) 0 0 105 [some (.ref 54), some (.int x1), some (.int x2), some (.int x3), some (.int x4), some (.int x5), some (.int x6), some (.int x7), some (.int x8)] [.int (nI 1)] (mrow M 54 (upd (M.1 54) 0 (nI 0))) Q
                  refine G.if_ne (off := (5)) (tgt := 110) (by decide +kernel) rfl (fun _ => ?_) (fun h9 => absurd h9 (by decide))
                  refine G.sl [(.aload_n 0, 1, 0, 0, 0, 0), (.iload_n 1, 1, 1, 0, 0, 0), (.iload_n 2, 1, 2, 0, 0, 0), (.iload_n 3, 1, 3, 0, 0, 0), (.iload 4, 2, 4, 0, 0, 0), (.iload 5, 2, 5, 0, 0, 0), (.iload 6, 2, 6, 0, 0, 0), (.iload 7, 2, 7, 0, 0, 0), (.iload 8, 2, 8, 0, 0, 0)] [] (pc2 := 124) (ls2 := [some (.ref 54), some (.int x1), some (.int x2), some (.int x3), some (.int x4), some (.int x5), some (.int x6), some (.int x7), some (.int x8)]) (st2 := [.int x8, .int x7, .int x6, .int x5, .int x4, .int x3, .int x2, .int x1, .ref 54]) (M2 := mrow M 54 (upd (M.1 54) 0 (nI 0))) (Ps := []) (by decide +kernel) rfl rfl trivial ?_
                  obtain ⟨k51, hk⟩ := hk
                  rcases g52 : k_dutyOf (upd (M.1 54) 0 (nI 0)) (M.1 65) (M.1 66) (M.1 67) (M.1 68) x1 x2 x3 x4 x5 x6 x7 x8 with ⟨v53, r54, r55⟩
                  have t56 : GM z mX12_dutyOf (d + 3) [.ref 54, .int x1, .int x2, .int x3, .int x4, .int x5, .int x6, .int x7, .int x8] (mrow M 54 (upd (M.1 54) 0 (nI 0))) (fun rs => rs = .inl (some (.int v53), mrow (mrow (mrow M 54 (upd (M.1 54) 0 (nI 0))) 67 r54) 68 r55)) := by
                    have q9 := c_k_dutyOf_54 z d (mrow M 54 (upd (M.1 54) 0 (nI 0))) x1 x2 x3 x4 x5 x6 x7 x8 k51
                    try simp only [mput, mrow_same, mrow_hit, mrow_miss, mrow_sw, idr_eq, ne_eq, Nat.reduceEqDiff, not_false_eq_true, Nat.reduceLT, reduceCtorEq, g52] at q9
                    exact q9
                  refine G.callV (as := [.int x1, .int x2, .int x3, .int x4, .int x5, .int x6, .int x7, .int x8]) (rest := []) (a := 54) oX12_dutyOf lk_EvenFindersModel_351 (by decide +kernel) rfl rfl ⟨rfl, rfl⟩ (Nat.le_of_ble_eq_true rfl) rfl ⟨Nat.le_of_ble_eq_true rfl, Nat.le_of_ble_eq_true rfl⟩ t56 (fun v9 N9 h57 => ?_) (fun E9 N9 h57 => by cases h57)
                  cases h57
                  show G z mX12_would (d + 4) 0 0 127 [some (.ref 54), some (.int x1), some (.int x2), some (.int x3), some (.int x4), some (.int x5), some (.int x6), some (.int x7), some (.int x8)] [.int v53] (mrow (mrow (mrow M 54 (upd (M.1 54) 0 (nI 0))) 67 r54) 68 r55) Q
                  refine G.mem (M' := mrow (mrow (mrow (mrow M 54 (upd (M.1 54) 0 (nI 0))) 55 (M.1 55)) 67 r54) 68 r55) (((mrow_id (N := mrow (mrow (mrow M 54 (upd (M.1 54) 0 (nI 0))) 67 r54) 68 r55) (c := 55) (f := M.1 55) (by first | rfl | (simp only [mput, mrow_same, mrow_hit, mrow_miss, mrow_sw, idr_eq, ne_eq, Nat.reduceEqDiff, not_false_eq_true, Nat.reduceLT, reduceCtorEq]; done))).symm).trans (by first | rfl | (simp only [mput, mrow_same, mrow_hit, mrow_miss, mrow_sw, idr_eq, ne_eq, Nat.reduceEqDiff, not_false_eq_true, Nat.reduceLT, reduceCtorEq]; done))) ?_
                  exact G.reti (by decide +kernel) rfl rfl (Nat.le_of_ble_eq_true rfl) (Nat.le_of_ble_eq_true rfl) ((by rw [hQ]; simp only [k_would, if_neg c4, if_neg c10, if_neg c16, if_neg c22, if_neg c28, if_neg c34, if_neg c40, if_neg c46, g52, mrow_self]))
theorem k_canFind_01 (Rs : Nat → Int32) (n1 : Nat) (n2 : Nat) : k_canFind Rs n1 n2 = 0 ∨ k_canFind Rs n1 n2 = 1 := by
  unfold k_canFind
  repeat' split
  all_goals first | exact Or.inl rfl | exact Or.inr rfl
set_option maxHeartbeats 4000000 in
set_option maxRecDepth 3000 in
theorem c_k_canFind_54 (z : Zp) (d : Nat) (M : Mem) (n1 : Nat) (n2 : Nat) (b1 : n1 < 6) (b2 : n2 < 10) : GM z mX12_canFind (d) [.ref 54, .int (nI n1), .int (nI n2)] M (fun rs => rs = .inl (some (.int (k_canFind (M.1 72) n1 n2)), M)) := by
  refine GM.of oX12_canFind.1 (Nat.le_of_ble_eq_true rfl) ?_
  show G z mX12_canFind (d) 0 0 0 [some (.ref 54), some (.int (nI n1)), some (.int (nI n2))] [] M _
  obtain ⟨Q, hQ⟩ : ∃ Q : Rs → Prop, Q = (fun rs => rs = .inl (some (.int (k_canFind (M.1 72) n1 n2)), M)) := ⟨_, rfl⟩
  rw [← hQ]
  refine G.sl [(.aload_n 0, 1, 0, 0, 0, 0), (.getfield 68, 3, 11, 41, 164, 0), (.bipush 10, 2, 0, 0, 0, nI 10), (.iload_n 2, 1, 2, 0, 0, 0), (.iadd, 1, 0, 0, 0, 0), (.iaload, 1, 0, 0, 0, 0), (.iconst (-1), 1, 0, 0, 0, (-1))] [10 + n2] (pc2 := 10) (ls2 := [some (.ref 54), some (.int (nI n1)), some (.int (nI n2))]) (st2 := [.int ((-1)), .int (M.1 72 (10 + n2))]) (M2 := M) (Ps := [((nI 10) + (nI n2)) = nI (10 + n2) ∧ (10 + n2) < 51]) (by decide +kernel) rfl rfl ⟨⟨(nI_add _ _), (by omega)⟩, trivial⟩ ?_
  refine G.ic_ne (off := (39)) (tgt := 49) (by decide +kernel) rfl (fun c1 => ?_) (fun c1 => ?_)
  · skip
    refine G.sl [(.iconst 0, 1, 0, 0, 0, nI 0)] [] (pc2 := 50) (ls2 := [some (.ref 54), some (.int (nI n1)), some (.int (nI n2))]) (st2 := [.int (nI 0)]) (M2 := M) (Ps := []) (by decide +kernel) rfl rfl trivial ?_
    exact G.reti (by decide +kernel) rfl rfl (Nat.le_of_ble_eq_true rfl) (Nat.le_of_ble_eq_true rfl) ((by rw [hQ]; simp only [k_canFind, if_neg c1, mrow_self]))
  · skip
    refine G.sl [(.aload_n 0, 1, 0, 0, 0, 0), (.getfield 68, 3, 11, 41, 164, 0), (.iconst 0, 1, 0, 0, 0, nI 0), (.iload_n 2, 1, 2, 0, 0, 0), (.iadd, 1, 0, 0, 0, 0), (.iaload, 1, 0, 0, 0, 0), (.aload_n 0, 1, 0, 0, 0, 0), (.getfield 68, 3, 11, 41, 164, 0), (.bipush 20, 2, 0, 0, 0, nI 20), (.iload_n 1, 1, 1, 0, 0, 0), (.iadd, 1, 0, 0, 0, 0), (.iaload, 1, 0, 0, 0, 0)] [0 + n2, 20 + n1] (pc2 := 30) (ls2 := [some (.ref 54), some (.int (nI n1)), some (.int (nI n2))]) (st2 := [.int (M.1 72 (20 + n1)), .int (M.1 72 (0 + n2))]) (M2 := M) (Ps := [((nI 0) + (nI n2)) = nI (0 + n2) ∧ (0 + n2) < 51, ((nI 20) + (nI n1)) = nI (20 + n1) ∧ (20 + n1) < 51]) (by decide +kernel) rfl rfl ⟨⟨(nI_add _ _), (by omega)⟩, ⟨(nI_add _ _), (by omega)⟩, trivial⟩ ?_
    refine G.ic_ne (off := (19)) (tgt := 49) (by decide +kernel) rfl (fun c2 => ?_) (fun c2 => ?_)
    · skip
      refine G.sl [(.iconst 0, 1, 0, 0, 0, nI 0)] [] (pc2 := 50) (ls2 := [some (.ref 54), some (.int (nI n1)), some (.int (nI n2))]) (st2 := [.int (nI 0)]) (M2 := M) (Ps := []) (by decide +kernel) rfl rfl trivial ?_
      exact G.reti (by decide +kernel) rfl rfl (Nat.le_of_ble_eq_true rfl) (Nat.le_of_ble_eq_true rfl) ((by rw [hQ]; simp only [k_canFind, if_pos c1, if_neg c2, mrow_self]))
    · skip
      refine G.sl [(.aload_n 0, 1, 0, 0, 0, 0), (.getfield 68, 3, 11, 41, 164, 0), (.bipush 26, 2, 0, 0, 0, nI 26), (.iload_n 1, 1, 1, 0, 0, 0), (.iadd, 1, 0, 0, 0, 0), (.iaload, 1, 0, 0, 0, 0)] [26 + n1] (pc2 := 42) (ls2 := [some (.ref 54), some (.int (nI n1)), some (.int (nI n2))]) (st2 := [.int (M.1 72 (26 + n1))]) (M2 := M) (Ps := [((nI 26) + (nI n1)) = nI (26 + n1) ∧ (26 + n1) < 51]) (by decide +kernel) rfl rfl ⟨⟨(nI_add _ _), (by omega)⟩, trivial⟩ ?_
      refine G.if_gt (off := (7)) (tgt := 49) (by decide +kernel) rfl (fun c3 => ?_) (fun c3 => ?_)
      · skip
        refine G.sl [(.iconst 0, 1, 0, 0, 0, nI 0)] [] (pc2 := 50) (ls2 := [some (.ref 54), some (.int (nI n1)), some (.int (nI n2))]) (st2 := [.int (nI 0)]) (M2 := M) (Ps := []) (by decide +kernel) rfl rfl trivial ?_
        exact G.reti (by decide +kernel) rfl rfl (Nat.le_of_ble_eq_true rfl) (Nat.le_of_ble_eq_true rfl) ((by rw [hQ]; simp only [k_canFind, if_pos c1, if_pos c2, if_pos c3, mrow_self]))
      · skip
        refine G.sl [(.iconst 1, 1, 0, 0, 0, nI 1), (.goto 4, 3, 50, 0, 0, 0)] [] (pc2 := 50) (ls2 := [some (.ref 54), some (.int (nI n1)), some (.int (nI n2))]) (st2 := [.int (nI 1)]) (M2 := M) (Ps := []) (by decide +kernel) rfl rfl trivial ?_
        exact G.reti (by decide +kernel) rfl rfl (Nat.le_of_ble_eq_true rfl) (Nat.le_of_ble_eq_true rfl) ((by rw [hQ]; simp only [k_canFind, if_pos c1, if_pos c2, if_neg c3, mrow_self]))
theorem k_can_01 (Rmd Rrefused Rnow Rs : Nat → Int32) (nf : Nat) (x1 : Int32) (x2 : Int32) : (k_can Rmd Rrefused Rnow Rs nf x1 x2).1 = 0 ∨ (k_can Rmd Rrefused Rnow Rs nf x1 x2).1 = 1 := by
  unfold k_can
  repeat' split
  all_goals first | exact Or.inl rfl | exact Or.inr rfl | (rename_i h9; have q9 := k_isFinder_01 (upd (Rmd) 0 (nI 0)) (Rrefused) nf x1 (nI 1); rw [h9] at q9; exact q9) | (rename_i h9; have q9 := k_isThing_01 r4 r5 (ix (r4 22)) x2 (nI 1); rw [h9] at q9; exact q9) | exact k_canFind_01 _ _ _
