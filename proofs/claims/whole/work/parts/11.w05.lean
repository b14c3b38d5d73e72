set_option maxHeartbeats 4000000 in
set_option maxRecDepth 3000 in
theorem lp_w_leastRound_47_46 (z : Zp) (d : Nat) (M : Mem) (Q : Rs → Prop) (x3 : Int32) (x4 : Int32) (np : Nat) (hnp : np ≤ 8) (hp : M.1 3 0 = nI np) : ∀ (k0 : Nat) (i5 : Nat) (q48 : (Nat → Int32)), i5 + k0 = np → w_leastRound_46_ok (M.1 11) np x3 x4 k0 i5 q48 → (match w_leastRound_46 (M.1 11) np x3 x4 k0 i5 q48 with | q48' => G z mX8_leastRound (d + 2) 0 0 82 [some (.ref 47), none, none, some (.int x3), some (.int x4), none] [] (mrow M 48 (q48')) Q) → G z mX8_leastRound (d + 2) 0 0 46 [some (.ref 47), none, none, some (.int x3), some (.int x4), some (.int (nI i5))] [] (mrow M 48 q48) Q := by
  intro k0
  induction k0 with
  | zero =>
      intro i5 q48 hn hk hX
      refine G.sl [(.iload 5, 2, 5, 0, 0, 0), (.aload_n 0, 1, 0, 0, 0, 0), (.getfield 15, 3, 7, 0, 88, 0), (.getfield 45, 3, 6, 0, 16, 0)] [] (pc2 := 55) (ls2 := [some (.ref 47), none, none, some (.int x3), some (.int x4), some (.int (nI i5))]) (st2 := [.int (M.1 3 0), .int (nI i5)]) (M2 := mrow M 48 q48) (Ps := []) (by decide +kernel) rfl rfl trivial ?_
      rw [hp]
      refine G.ic_ge (off := (27)) (tgt := 82) (by decide +kernel) rfl (fun _ => ?_) (fun h9 => absurd (nI_le (by omega) (by omega)) h9)
      refine G.loc (ls2 := [some (.ref 47), none, none, some (.int x3), some (.int x4), none]) (by simp [subL]) ?_
      simp only [w_leastRound_46] at hX
      exact hX
  | succ k0 ih =>
      intro i5 q48 hn hk hX
      simp only [w_leastRound_46_ok] at hk
      refine G.sl [(.iload 5, 2, 5, 0, 0, 0), (.aload_n 0, 1, 0, 0, 0, 0), (.getfield 15, 3, 7, 0, 88, 0), (.getfield 45, 3, 6, 0, 16, 0)] [] (pc2 := 55) (ls2 := [some (.ref 47), none, none, some (.int x3), some (.int x4), some (.int (nI i5))]) (st2 := [.int (M.1 3 0), .int (nI i5)]) (M2 := mrow M 48 q48) (Ps := []) (by decide +kernel) rfl rfl trivial ?_
      rw [hp]
      refine G.ic_ge (off := (27)) (tgt := 82) (by decide +kernel) rfl (fun h9 => absurd h9 (nI_ge (by omega) (by omega))) (fun _ => ?_)
      refine G.sl [(.iload 4, 2, 4, 0, 0, 0), (.iload_n 3, 1, 3, 0, 0, 0), (.iconst (-1), 1, 0, 0, 0, (-1)), (.ixor, 1, 0, 0, 0, 0), (.iand, 1, 0, 0, 0, 0)] [] (pc2 := 64) (ls2 := [some (.ref 47), none, none, some (.int x3), some (.int x4), some (.int (nI i5))]) (st2 := [.int (x4 &&& (x3 ^^^ ((-1))))]) (M2 := mrow M 48 q48) (Ps := []) (by decide +kernel) rfl rfl trivial ?_
      refine G.if_ne (off := (18)) (tgt := 82) (by decide +kernel) rfl (fun c13 => ?_) (fun c13 => ?_)
      · skip
        rw [if_neg c13] at hk
        refine G.loc (ls2 := [some (.ref 47), none, none, some (.int x3), some (.int x4), none]) (by simp [subL]) ?_
        simp only [w_leastRound_46, if_neg c13] at hX
        exact hX
      · skip
        rw [if_pos c13] at hk
        refine G.sl [(.aload_n 0, 1, 0, 0, 0, 0), (.iload 4, 2, 4, 0, 0, 0), (.iload 5, 2, 5, 0, 0, 0), (.iload_n 3, 1, 3, 0, 0, 0)] [] (pc2 := 73) (ls2 := [some (.ref 47), none, none, some (.int x3), some (.int x4), some (.int (nI i5))]) (st2 := [.int x3, .int (nI i5), .int x4, .ref 47]) (M2 := mrow M 48 q48) (Ps := []) (by decide +kernel) rfl rfl trivial ?_
        obtain ⟨k14, hk⟩ := hk
        rcases g15 : w_lengthen (M.1 11) q48 np x4 i5 x3 with ⟨u16, r17⟩
        try simp only [g15] at hk
        have t18 : GM z mX8_lengthen (d + 1) [.ref 47, .int x4, .int (nI i5), .int x3] (mrow M 48 q48) (fun rs => rs = .inl (none, mrow M 48 r17)) := by
          have q9 := c_w_lengthen_47 z d (mrow M 48 q48) x4 i5 x3 np hnp hp (by omega) k14
          try simp only [mput, mrow_same, mrow_hit, mrow_miss, mrow_sw, idr_eq, ne_eq, Nat.reduceEqDiff, not_false_eq_true, Nat.reduceLT, reduceCtorEq, g15] at q9
          exact q9
        refine G.callV (as := [.int x4, .int (nI i5), .int x3]) (rest := []) (a := 47) oX8_lengthen lk_EvenFinders_Ways_61 (by decide +kernel) rfl rfl ⟨rfl, rfl⟩ (Nat.le_of_ble_eq_true rfl) rfl ⟨Nat.le_of_ble_eq_true rfl, Nat.le_of_ble_eq_true rfl⟩ t18 (fun v9 N9 h19 => ?_) (fun E9 N9 h19 => by cases h19)
        cases h19
        show G z mX8_leastRound (d + 2) 0 0 76 [some (.ref 47), none, none, some (.int x3), some (.int x4), some (.int (nI i5))] [] (mrow M 48 r17) Q
        refine G.sl [(.iinc 5 1, 3, 5, 0, 0, nI 1), (.goto (-33), 3, 46, 0, 0, 0)] [] (pc2 := 46) (ls2 := [some (.ref 47), none, none, some (.int x3), some (.int x4), some (.int ((nI i5) + nI 1))]) (st2 := []) (M2 := mrow M 48 r17) (Ps := []) (by decide +kernel) rfl rfl trivial ?_
        rw [nI_add i5 1]
        simp only [w_leastRound_46, if_pos c13, g15] at hX
        exact ih (i5 + 1) r17 (by omega) hk hX
set_option maxHeartbeats 4000000 in
set_option maxRecDepth 3000 in
theorem lp_w_leastRound_47_37 (z : Zp) (d : Nat) (M : Mem) (Q : Rs → Prop) (x3 : Int32) (np : Nat) (hnp : np ≤ 8) (hp : M.1 3 0 = nI np) : ∀ (k0 : Nat) (s4 : Int32) (q48 : (Nat → Int32)), w_leastRound_37_ok (M.1 11) np x3 k0 s4 q48 → (match w_leastRound_37 (M.1 11) np x3 k0 s4 q48 with | (s4', q48') => G z mX8_leastRound (d + 2) 0 0 88 [some (.ref 47), none, none, some (.int x3), none, none] [] (mrow M 48 (q48')) Q) → G z mX8_leastRound (d + 2) 0 0 37 [some (.ref 47), none, none, some (.int x3), some (.int s4), none] [] (mrow M 48 q48) Q := by
  intro k0
  induction k0 with
  | zero =>
      intro s4 q48 hk hX
      exact (by simpa only [w_leastRound_37_ok] using hk : False).elim
  | succ k0 ih =>
      intro s4 q48 hk hX
      simp only [w_leastRound_37_ok] at hk
      refine G.sl [(.iload 4, 2, 4, 0, 0, 0), (.iload_n 3, 1, 3, 0, 0, 0)] [] (pc2 := 40) (ls2 := [some (.ref 47), none, none, some (.int x3), some (.int s4), none]) (st2 := [.int x3, .int s4]) (M2 := mrow M 48 q48) (Ps := []) (by decide +kernel) rfl rfl trivial ?_
      refine G.ic_ge (off := (48)) (tgt := 88) (by decide +kernel) rfl (fun c12 => ?_) (fun c12 => ?_)
      · skip
        rw [if_pos c12] at hk
        refine G.loc (ls2 := [some (.ref 47), none, none, some (.int x3), none, none]) (by simp [subL]) ?_
        simp only [w_leastRound_37, if_pos c12] at hX
        exact hX
      · skip
        rw [if_neg c12] at hk
        refine G.sl [(.iconst 0, 1, 0, 0, 0, nI 0), (.istore 5, 2, 5, 0, 0, 0)] [] (pc2 := 46) (ls2 := [some (.ref 47), none, none, some (.int x3), some (.int s4), some (.int (nI 0))]) (st2 := []) (M2 := mrow M 48 q48) (Ps := []) (by decide +kernel) rfl rfl trivial ?_
        obtain ⟨k20, hk⟩ := hk
        refine G.mem (M' := mrow (mrow M 48 q48) 48 ((mrow M 48 q48).1 48)) (by simp only [mrow_self]) ?_
        refine lp_w_leastRound_47_46 z d (mrow M 48 q48) Q x3 s4 np hnp hp np 0 ((mrow M 48 q48).1 48) (Nat.zero_add _) (by first | (simp only [mput, mrow_same, mrow_hit, mrow_miss, mrow_sw, idr_eq, ne_eq, Nat.reduceEqDiff, not_false_eq_true, Nat.reduceLT, reduceCtorEq]; exact k20) | exact k20) ?_
        try simp only [mput, mrow_same, mrow_hit, mrow_miss, mrow_sw, idr_eq, ne_eq, Nat.reduceEqDiff, not_false_eq_true, Nat.reduceLT, reduceCtorEq]
        show G z mX8_leastRound (d + 2) 0 0 82 [some (.ref 47), none, none, some (.int x3), some (.int s4), none] [] (mrow M 48 (w_leastRound_46 (M.1 11) np x3 s4 np 0 q48)) Q
        refine G.sl [(.iinc 4 1, 3, 4, 0, 0, nI 1), (.goto (-48), 3, 37, 0, 0, 0)] [] (pc2 := 37) (ls2 := [some (.ref 47), none, none, some (.int x3), some (.int (s4 + nI 1)), none]) (st2 := []) (M2 := mrow M 48 (w_leastRound_46 (M.1 11) np x3 s4 np 0 q48)) (Ps := []) (by decide +kernel) rfl rfl trivial ?_
        simp only [w_leastRound_37, if_neg c12] at hX
        exact ih (s4 + nI 1) (w_leastRound_46 (M.1 11) np x3 s4 np 0 q48) hk hX
set_option maxHeartbeats 4000000 in
set_option maxRecDepth 3000 in
theorem lp_w_leastRound_47_95 (z : Zp) (d : Nat) (M : Mem) (Q : Rs → Prop) (x3 : Int32) (np : Nat) (hnp : np ≤ 8) (hp : M.1 3 0 = nI np) (hk : ∀ i5, i5 < np → w_leastRound_95_ok (M.1 48) x3 i5) (hX : G z mX8_leastRound (d + 2) 0 0 132 [none, none, none, none, some (.int (w_leastRound_95 (M.1 48) x3 np)), none] [] M Q) : G z mX8_leastRound (d + 2) 0 0 95 [some (.ref 47), none, none, some (.int x3), some (.int (nI 1000000)), some (.int (nI 0))] [] M Q := by
  refine down (n := np) (P := fun i5 => G z mX8_leastRound (d + 2) 0 0 95 [some (.ref 47), none, none, some (.int x3), some (.int (w_leastRound_95 (M.1 48) x3 i5)), some (.int (nI i5))] [] M Q) ?_ ?_ 0 (Nat.zero_le _)
  · skip
    refine G.sl [(.iload 5, 2, 5, 0, 0, 0), (.aload_n 0, 1, 0, 0, 0, 0), (.getfield 15, 3, 7, 0, 88, 0), (.getfield 45, 3, 6, 0, 16, 0)] [] (pc2 := 104) (ls2 := [some (.ref 47), none, none, some (.int x3), some (.int (w_leastRound_95 (M.1 48) x3 np)), some (.int (nI np))]) (st2 := [.int (M.1 3 0), .int (nI np)]) (M2 := M) (Ps := []) (by decide +kernel) rfl rfl trivial ?_
    rw [hp]
    refine G.ic_ge (off := (28)) (tgt := 132) (by decide +kernel) rfl (fun _ => ?_) (fun h9 => absurd (nI_le (by omega) (by omega)) h9)
    refine G.loc (ls2 := [none, none, none, none, some (.int (w_leastRound_95 (M.1 48) x3 np)), none]) (by simp [subL]) ?_
    exact hX
  · skip
    intro i5 hi ih
    have hk := hk i5 hi
    simp only [w_leastRound_95_ok] at hk
    show G z mX8_leastRound (d + 2) 0 0 95 [some (.ref 47), none, none, some (.int x3), some (.int (w_leastRound_95 (M.1 48) x3 i5)), some (.int (nI i5))] [] M Q
    refine G.sl [(.iload 5, 2, 5, 0, 0, 0), (.aload_n 0, 1, 0, 0, 0, 0), (.getfield 15, 3, 7, 0, 88, 0), (.getfield 45, 3, 6, 0, 16, 0)] [] (pc2 := 104) (ls2 := [some (.ref 47), none, none, some (.int x3), some (.int (w_leastRound_95 (M.1 48) x3 i5)), some (.int (nI i5))]) (st2 := [.int (M.1 3 0), .int (nI i5)]) (M2 := M) (Ps := []) (by decide +kernel) rfl rfl trivial ?_
    rw [hp]
    refine G.ic_ge (off := (28)) (tgt := 132) (by decide +kernel) rfl (fun h9 => absurd h9 (nI_ge (by omega) (by omega))) (fun _ => ?_)
    obtain ⟨k25, k26, hk⟩ := hk
    refine G.sl [(.iload 4, 2, 4, 0, 0, 0), (.aload_n 0, 1, 0, 0, 0, 0), (.getfield 9, 3, 7, 2, 90, 0), (.iload_n 3, 1, 3, 0, 0, 0), (.bipush 8, 2, 0, 0, 0, nI 8), (.imul, 1, 0, 0, 0, 0), (.iload 5, 2, 5, 0, 0, 0), (.iadd, 1, 0, 0, 0, 0), (.iaload, 1, 0, 0, 0, 0)] [((ix x3) * 8) + i5] (pc2 := 121) (ls2 := [some (.ref 47), none, none, some (.int x3), some (.int (w_leastRound_95 (M.1 48) x3 i5)), some (.int (nI i5))]) (st2 := [.int (M.1 48 (((ix x3) * 8) + i5)), .int (w_leastRound_95 (M.1 48) x3 i5)]) (M2 := M) (Ps := [((x3 * (nI 8)) + (nI i5)) = nI (((ix x3) * 8) + i5) ∧ (((ix x3) * 8) + i5) < 2048]) (by decide +kernel) rfl rfl ⟨⟨(nAdd (nMul (ixE k25) rfl) rfl), k26⟩, trivial⟩ ?_
    refine G.mmin lm_EvenFinders_Ways_65 (by decide +kernel) (Nat.le_of_ble_eq_true rfl) (Nat.le_of_ble_eq_true rfl) (Nat.le_of_ble_eq_true rfl) ?_
    refine G.sl [(.istore 4, 2, 4, 0, 0, 0), (.iinc 5 1, 3, 5, 0, 0, nI 1), (.goto (-34), 3, 95, 0, 0, 0)] [] (pc2 := 95) (ls2 := [some (.ref 47), none, none, some (.int x3), some (.int (if (M.1 48 (((ix x3) * 8) + i5)) < (w_leastRound_95 (M.1 48) x3 i5) then (M.1 48 (((ix x3) * 8) + i5)) else (w_leastRound_95 (M.1 48) x3 i5))), some (.int ((nI i5) + nI 1))]) (st2 := []) (M2 := M) (Ps := []) (by decide +kernel) rfl rfl trivial ?_
    rw [nI_add i5 1]
    simp only [w_leastRound_95] at ih
    exact ih
set_option maxHeartbeats 4000000 in
set_option maxRecDepth 3000 in
theorem c_w_leastRound_47 (z : Zp) (d : Nat) (M : Mem) (n1 : Nat) (np : Nat) (hnp : np ≤ 8) (hp : M.1 3 0 = nI np) (nt : Nat) (hnt : nt ≤ 10) (ht : M.1 3 2 = nI nt) (b1 : n1 < 6) (hk : w_leastRound_ok (M.1 11) (M.1 38) (M.1 48) np nt n1) : GM z mX8_leastRound (d + 2) [.ref 47, .int (nI n1)] M (fun rs => rs = .inl (some (.int ((w_leastRound (M.1 11) (M.1 38) (M.1 48) np nt n1).1)), mrow M 48 ((w_leastRound (M.1 11) (M.1 38) (M.1 48) np nt n1).2))) := by
  simp only [w_leastRound_ok] at hk
  refine GM.of oX8_leastRound.1 (Nat.le_of_ble_eq_true rfl) ?_
  show G z mX8_leastRound (d + 2) 0 0 0 [some (.ref 47), some (.int (nI n1)), none, none, none, none] [] M _
  obtain ⟨Q, hQ⟩ : ∃ Q : Rs → Prop, Q = (fun rs => rs = .inl (some (.int ((w_leastRound (M.1 11) (M.1 38) (M.1 48) np nt n1).1)), mrow M 48 ((w_leastRound (M.1 11) (M.1 38) (M.1 48) np nt n1).2))) := ⟨_, rfl⟩
  rw [← hQ]
  refine G.sl [(.aload_n 0, 1, 0, 0, 0, 0), (.getfield 19, 3, 7, 1, 89, 0), (.getfield 23, 3, 1, 0, 74, 0), (.iconst 1, 1, 0, 0, 0, nI 1), (.iload_n 1, 1, 1, 0, 0, 0), (.iadd, 1, 0, 0, 0, 0), (.iaload, 1, 0, 0, 0, 0), (.istore_n 2, 1, 2, 0, 0, 0), (.aload_n 0, 1, 0, 0, 0, 0), (.iload_n 2, 1, 2, 0, 0, 0)] [1 + n1] (pc2 := 14) (ls2 := [some (.ref 47), some (.int (nI n1)), some (.int (M.1 38 (1 + n1))), none, none, none]) (st2 := [.int (M.1 38 (1 + n1)), .ref 47]) (M2 := M) (Ps := [((nI 1) + (nI n1)) = nI (1 + n1) ∧ (1 + n1) < 51]) (by decide +kernel) rfl rfl ⟨⟨(nI_add _ _), (by omega)⟩, trivial⟩ ?_
  obtain ⟨k1, hk⟩ := hk
  have t2 : GM z mX8_goalsFrom (d + 1) [.ref 47, .int (M.1 38 (1 + n1))] M (fun rs => rs = .inl (some (.int (w_goalsFrom (M.1 38) np nt (M.1 38 (1 + n1)))), M)) := by
    have q9 := c_w_goalsFrom_47 z d M (M.1 38 (1 + n1)) np hnp hp nt hnt ht
    try simp only [mput, mrow_same, mrow_hit, mrow_miss, mrow_sw, idr_eq, ne_eq, Nat.reduceEqDiff, not_false_eq_true, Nat.reduceLT, reduceCtorEq] at q9
    exact q9
  refine G.callV (as := [.int (M.1 38 (1 + n1))]) (rest := []) (a := 47) oX8_goalsFrom lk_EvenFinders_Ways_52 (by decide +kernel) rfl rfl ⟨rfl, rfl⟩ (Nat.le_of_ble_eq_true rfl) rfl ⟨Nat.le_of_ble_eq_true rfl, Nat.le_of_ble_eq_true rfl⟩ t2 (fun v9 N9 h3 => ?_) (fun E9 N9 h3 => by cases h3)
  cases h3
  show G z mX8_leastRound (d + 2) 0 0 17 [some (.ref 47), some (.int (nI n1)), some (.int (M.1 38 (1 + n1))), none, none, none] [.int (w_goalsFrom (M.1 38) np nt (M.1 38 (1 + n1)))] M Q
  refine G.sl [(.istore_n 3, 1, 3, 0, 0, 0), (.aload_n 0, 1, 0, 0, 0, 0), (.getfield 9, 3, 7, 2, 90, 0), (.ldc 34, 2, 0, 0, 3, nI 1000000)] [] (pc2 := 24) (ls2 := [some (.ref 47), some (.int (nI n1)), some (.int (M.1 38 (1 + n1))), some (.int (w_goalsFrom (M.1 38) np nt (M.1 38 (1 + n1)))), none, none]) (st2 := [.int (nI 1000000), .ref 48]) (M2 := M) (Ps := []) (by decide +kernel) rfl rfl trivial ?_
  obtain ⟨k4, hk⟩ := hk
  rcases g5 : J7_fill_53178_L2048 (M.1 48) (nI 1000000) with ⟨u6, r7⟩
  try simp only [g5] at hk
  have t8 : GM z mJ7_fill_53178 (d + 1) [.ref 48, .int (nI 1000000)] M (fun rs => rs = .inl (none, mrow M 48 r7)) := by
    have q9 := c_J7_fill_53178_L2048_48 z (d + 1) M (nI 1000000)
    try simp only [mput, mrow_same, mrow_hit, mrow_miss, mrow_sw, idr_eq, ne_eq, Nat.reduceEqDiff, not_false_eq_true, Nat.reduceLT, reduceCtorEq, g5] at q9
    exact q9
  refine G.callS (as := [.ref 48, .int (nI 1000000)]) (rest := []) oJ7_fill_53178 lk_EvenFinders_Ways_55 (by decide +kernel) rfl (Nat.le_of_ble_eq_true rfl) rfl ⟨Nat.le_of_ble_eq_true rfl, Nat.le_of_ble_eq_true rfl⟩ t8 (fun v9 N9 h9 => ?_) (fun E9 N9 h9 => by cases h9)
  cases h9
  show G z mX8_leastRound (d + 2) 0 0 27 [some (.ref 47), some (.int (nI n1)), some (.int (M.1 38 (1 + n1))), some (.int (w_goalsFrom (M.1 38) np nt (M.1 38 (1 + n1)))), none, none] [] (mrow M 48 r7) Q
  obtain ⟨k10, k11, hk⟩ := hk
  refine G.sl [(.aload_n 0, 1, 0, 0, 0, 0), (.getfield 9, 3, 7, 2, 90, 0), (.iload_n 2, 1, 2, 0, 0, 0), (.iconst 0, 1, 0, 0, 0, nI 0), (.iastore, 1, 0, 0, 0, 0), (.iconst 0, 1, 0, 0, 0, nI 0), (.istore 4, 2, 4, 0, 0, 0)] [ix (M.1 38 (1 + n1))] (pc2 := 37) (ls2 := [some (.ref 47), some (.int (nI n1)), some (.int (M.1 38 (1 + n1))), some (.int (w_goalsFrom (M.1 38) np nt (M.1 38 (1 + n1)))), some (.int (nI 0)), none]) (st2 := []) (M2 := mput (mrow M 48 r7) 48 (ix (M.1 38 (1 + n1))) (nI 0)) (Ps := [(M.1 38 (1 + n1)) = nI (ix (M.1 38 (1 + n1))) ∧ (ix (M.1 38 (1 + n1))) < 2048]) (by decide +kernel) rfl rfl ⟨⟨(ixE k10), k11⟩, trivial⟩ ?_
  refine G.mem (M' := mrow M 48 (upd r7 (ix (M.1 38 (1 + n1))) (nI 0))) (by first | rfl | (simp only [mput, mrow_same, mrow_hit, mrow_miss, mrow_sw, idr_eq, ne_eq, Nat.reduceEqDiff, not_false_eq_true, Nat.reduceLT, reduceCtorEq]; done)) ?_
  refine G.loc (ls2 := [some (.ref 47), none, none, some (.int (w_goalsFrom (M.1 38) np nt (M.1 38 (1 + n1)))), some (.int (nI 0)), none]) (by simp [subL]) ?_
  obtain ⟨k21, hk⟩ := hk
  refine G.mem (M' := mrow (mrow M 48 (upd r7 (ix (M.1 38 (1 + n1))) (nI 0))) 48 ((mrow M 48 (upd r7 (ix (M.1 38 (1 + n1))) (nI 0))).1 48)) (by simp only [mrow_self]) ?_
  refine lp_w_leastRound_47_37 z d (mrow M 48 (upd r7 (ix (M.1 38 (1 + n1))) (nI 0))) Q (w_goalsFrom (M.1 38) np nt (M.1 38 (1 + n1))) np hnp hp FU (nI 0) ((mrow M 48 (upd r7 (ix (M.1 38 (1 + n1))) (nI 0))).1 48) (by first | (simp only [mput, mrow_same, mrow_hit, mrow_miss, mrow_sw, idr_eq, ne_eq, Nat.reduceEqDiff, not_false_eq_true, Nat.reduceLT, reduceCtorEq]; exact k21) | exact k21) ?_
  try simp only [mput, mrow_same, mrow_hit, mrow_miss, mrow_sw, idr_eq, ne_eq, Nat.reduceEqDiff, not_false_eq_true, Nat.reduceLT, reduceCtorEq]
  rcases g22 : w_leastRound_37 (M.1 11) np (w_goalsFrom (M.1 38) np nt (M.1 38 (1 + n1))) FU (nI 0) (upd r7 (ix (M.1 38 (1 + n1))) (nI 0)) with ⟨v23, r24⟩
  try simp only [g22] at hk
  show G z mX8_leastRound (d + 2) 0 0 88 [some (.ref 47), none, none, some (.int (w_goalsFrom (M.1 38) np nt (M.1 38 (1 + n1)))), none, none] [] (mrow M 48 r24) Q
  refine G.sl [(.ldc 34, 2, 0, 0, 3, nI 1000000), (.istore 4, 2, 4, 0, 0, 0), (.iconst 0, 1, 0, 0, 0, nI 0), (.istore 5, 2, 5, 0, 0, 0)] [] (pc2 := 95) (ls2 := [some (.ref 47), none, none, some (.int (w_goalsFrom (M.1 38) np nt (M.1 38 (1 + n1)))), some (.int (nI 1000000)), some (.int (nI 0))]) (st2 := []) (M2 := mrow M 48 r24) (Ps := []) (by decide +kernel) rfl rfl trivial ?_
  obtain ⟨k27, hk⟩ := hk
  refine lp_w_leastRound_47_95 z d (mrow M 48 r24) Q (w_goalsFrom (M.1 38) np nt (M.1 38 (1 + n1))) np hnp hp (by first | (simp only [mput, mrow_same, mrow_hit, mrow_miss, mrow_sw, idr_eq, ne_eq, Nat.reduceEqDiff, not_false_eq_true, Nat.reduceLT, reduceCtorEq]; exact k27) | exact k27) ?_
  show G z mX8_leastRound (d + 2) 0 0 132 [none, none, none, none, some (.int (w_leastRound_95 r24 (w_goalsFrom (M.1 38) np nt (M.1 38 (1 + n1))) np)), none] [] (mrow M 48 r24) Q
  refine G.sl [(.iload 4, 2, 4, 0, 0, 0), (.ldc 34, 2, 0, 0, 3, nI 1000000)] [] (pc2 := 136) (ls2 := [none, none, none, none, some (.int (w_leastRound_95 r24 (w_goalsFrom (M.1 38) np nt (M.1 38 (1 + n1))) np)), none]) (st2 := [.int (nI 1000000), .int (w_leastRound_95 r24 (w_goalsFrom (M.1 38) np nt (M.1 38 (1 + n1))) np)]) (M2 := mrow M 48 r24) (Ps := []) (by decide +kernel) rfl rfl trivial ?_
  refine G.ic_ge (off := (8)) (tgt := 144) (by decide +kernel) rfl (fun c28 => ?_) (fun c28 => ?_)
  · skip
    refine G.sl [(.iconst (-1), 1, 0, 0, 0, (-1))] [] (pc2 := 145) (ls2 := [none, none, none, none, some (.int (w_leastRound_95 r24 (w_goalsFrom (M.1 38) np nt (M.1 38 (1 + n1))) np)), none]) (st2 := [.int ((-1))]) (M2 := mrow M 48 r24) (Ps := []) (by decide +kernel) rfl rfl trivial ?_
    exact G.reti (by decide +kernel) rfl rfl (Nat.le_of_ble_eq_true rfl) (Nat.le_of_ble_eq_true rfl) ((by rw [hQ]; simp only [w_leastRound, g5, g22, if_pos c28, mrow_self]))
  · skip
    refine G.sl [(.iload 4, 2, 4, 0, 0, 0), (.goto 4, 3, 145, 0, 0, 0)] [] (pc2 := 145) (ls2 := [none, none, none, none, some (.int (w_leastRound_95 r24 (w_goalsFrom (M.1 38) np nt (M.1 38 (1 + n1))) np)), none]) (st2 := [.int (w_leastRound_95 r24 (w_goalsFrom (M.1 38) np nt (M.1 38 (1 + n1))) np)]) (M2 := mrow M 48 r24) (Ps := []) (by decide +kernel) rfl rfl trivial ?_
    exact G.reti (by decide +kernel) rfl rfl (Nat.le_of_ble_eq_true rfl) (Nat.le_of_ble_eq_true rfl) ((by rw [hQ]; simp only [w_leastRound, g5, g22, if_neg c28, mrow_self]))
set_option maxHeartbeats 4000000 in
set_option maxRecDepth 3000 in
theorem lp_s_listPairs_49_2 (z : Zp) (d : Nat) (M : Mem) (Q : Rs → Prop) (np : Nat) (hnp : np ≤ 8) (hp : M.1 3 0 = nI np) (nt : Nat) (hnt : nt ≤ 10) (ht : M.1 3 2 = nI nt) (hX : G z mX5_listPairs (d + 2) 0 0 40 [some (.ref 49), none, none, none] [] (mrow M 51 (s_listPairs_2 (M.1 7) (M.1 38) (M.1 51) nt np)) Q) : G z mX5_listPairs (d + 2) 0 0 2 [some (.ref 49), some (.int (nI 0)), none, none] [] M Q := by
  refine G.mem (M' := mrow M 51 (M.1 51)) (by simp only [mrow_self]) ?_
  refine down (n := np) (P := fun i1 => G z mX5_listPairs (d + 2) 0 0 2 [some (.ref 49), some (.int (nI i1)), none, none] [] (mrow M 51 (s_listPairs_2 (M.1 7) (M.1 38) (M.1 51) nt i1)) Q) ?_ ?_ 0 (Nat.zero_le _)
  · skip
    refine G.sl [(.iload_n 1, 1, 1, 0, 0, 0), (.aload_n 0, 1, 0, 0, 0, 0), (.getfield 21, 3, 4, 2, 95, 0), (.getfield 33, 3, 6, 0, 15, 0)] [] (pc2 := 10) (ls2 := [some (.ref 49), some (.int (nI np)), none, none]) (st2 := [.int (M.1 3 0), .int (nI np)]) (M2 := mrow M 51 (s_listPairs_2 (M.1 7) (M.1 38) (M.1 51) nt np)) (Ps := []) (by decide +kernel) rfl rfl trivial ?_
    rw [hp]
    refine G.ic_ge (off := (30)) (tgt := 40) (by decide +kernel) rfl (fun _ => ?_) (fun h9 => absurd (nI_le (by omega) (by omega)) h9)
    refine G.loc (ls2 := [some (.ref 49), none, none, none]) (by simp [subL]) ?_
    exact hX
  · skip
    intro i1 hi ih
    show G z mX5_listPairs (d + 2) 0 0 2 [some (.ref 49), some (.int (nI i1)), none, none] [] (mrow M 51 (s_listPairs_2 (M.1 7) (M.1 38) (M.1 51) nt i1)) Q
    refine G.sl [(.iload_n 1, 1, 1, 0, 0, 0), (.aload_n 0, 1, 0, 0, 0, 0), (.getfield 21, 3, 4, 2, 95, 0), (.getfield 33, 3, 6, 0, 15, 0)] [] (pc2 := 10) (ls2 := [some (.ref 49), some (.int (nI i1)), none, none]) (st2 := [.int (M.1 3 0), .int (nI i1)]) (M2 := mrow M 51 (s_listPairs_2 (M.1 7) (M.1 38) (M.1 51) nt i1)) (Ps := []) (by decide +kernel) rfl rfl trivial ?_
    rw [hp]
    refine G.ic_ge (off := (30)) (tgt := 40) (by decide +kernel) rfl (fun h9 => absurd h9 (nI_ge (by omega) (by omega))) (fun _ => ?_)
    refine G.sl [(.aload_n 0, 1, 0, 0, 0, 0), (.getfield 15, 3, 4, 5, 98, 0), (.iload_n 1, 1, 1, 0, 0, 0), (.aload_n 0, 1, 0, 0, 0, 0), (.getfield 21, 3, 4, 2, 95, 0), (.aload_n 0, 1, 0, 0, 0, 0), (.getfield 25, 3, 4, 3, 96, 0), (.iload_n 1, 1, 1, 0, 0, 0)] [] (pc2 := 27) (ls2 := [some (.ref 49), some (.int (nI i1)), none, none]) (st2 := [.int (nI i1), .ref 37, .ref 3, .int (nI i1), .ref 51]) (M2 := mrow M 51 (s_listPairs_2 (M.1 7) (M.1 38) (M.1 51) nt i1)) (Ps := []) (by decide +kernel) rfl rfl trivial ?_
    have t2 : GM z mX1_lyingAt (d + 1) [.ref 37, .int (nI i1)] (mrow M 51 (s_listPairs_2 (M.1 7) (M.1 38) (M.1 51) nt i1)) (fun rs => rs = .inl (some (.int (d_lyingAt (M.1 38) nt (nI i1))), mrow M 51 (s_listPairs_2 (M.1 7) (M.1 38) (M.1 51) nt i1))) := by
      have q9 := c_d_lyingAt_37 z (d + 1) (mrow M 51 (s_listPairs_2 (M.1 7) (M.1 38) (M.1 51) nt i1)) (nI i1) nt hnt ht
      try simp only [mput, mrow_same, mrow_hit, mrow_miss, mrow_sw, idr_eq, ne_eq, Nat.reduceEqDiff, not_false_eq_true, Nat.reduceLT, reduceCtorEq] at q9
      exact q9
    refine G.callV (as := [.int (nI i1)]) (rest := [.ref 3, .int (nI i1), .ref 51]) (a := 37) oX1_lyingAt lk_EvenFinders_Search_39 (by decide +kernel) rfl rfl ⟨rfl, rfl⟩ (Nat.le_of_ble_eq_true rfl) rfl ⟨Nat.le_of_ble_eq_true rfl, Nat.le_of_ble_eq_true rfl⟩ t2 (fun v9 N9 h3 => ?_) (fun E9 N9 h3 => by cases h3)
    cases h3
    show G z mX5_listPairs (d + 2) 0 0 30 [some (.ref 49), some (.int (nI i1)), none, none] [.int (d_lyingAt (M.1 38) nt (nI i1)), .ref 3, .int (nI i1), .ref 51] (mrow M 51 (s_listPairs_2 (M.1 7) (M.1 38) (M.1 51) nt i1)) Q
    have t5 : GM z mX7_worthOf (d + 1) [.ref 3, .int (d_lyingAt (M.1 38) nt (nI i1))] (mrow M 51 (s_listPairs_2 (M.1 7) (M.1 38) (M.1 51) nt i1)) (fun rs => rs = .inl (some (.int (v_worthOf (M.1 7) nt (d_lyingAt (M.1 38) nt (nI i1)))), mrow M 51 (s_listPairs_2 (M.1 7) (M.1 38) (M.1 51) nt i1))) := by
      have q9 := c_v_worthOf_3 z (d + 1) (mrow M 51 (s_listPairs_2 (M.1 7) (M.1 38) (M.1 51) nt i1)) (d_lyingAt (M.1 38) nt (nI i1)) nt hnt ht
      try simp only [mput, mrow_same, mrow_hit, mrow_miss, mrow_sw, idr_eq, ne_eq, Nat.reduceEqDiff, not_false_eq_true, Nat.reduceLT, reduceCtorEq] at q9
      exact q9
    refine G.callV (as := [.int (d_lyingAt (M.1 38) nt (nI i1))]) (rest := [.int (nI i1), .ref 51]) (a := 3) oX7_worthOf lk_EvenFinders_Search_45 (by decide +kernel) rfl rfl ⟨rfl, rfl⟩ (Nat.le_of_ble_eq_true rfl) rfl ⟨Nat.le_of_ble_eq_true rfl, Nat.le_of_ble_eq_true rfl⟩ t5 (fun v9 N9 h6 => ?_) (fun E9 N9 h6 => by cases h6)
    cases h6
    show G z mX5_listPairs (d + 2) 0 0 33 [some (.ref 49), some (.int (nI i1)), none, none] [.int (v_worthOf (M.1 7) nt (d_lyingAt (M.1 38) nt (nI i1))), .int (nI i1), .ref 51] (mrow M 51 (s_listPairs_2 (M.1 7) (M.1 38) (M.1 51) nt i1)) Q
    refine G.sl [(.iastore, 1, 0, 0, 0, 0), (.iinc 1 1, 3, 1, 0, 0, nI 1), (.goto (-35), 3, 2, 0, 0, 0)] [i1] (pc2 := 2) (ls2 := [some (.ref 49), some (.int ((nI i1) + nI 1)), none, none]) (st2 := []) (M2 := mput (mrow M 51 (s_listPairs_2 (M.1 7) (M.1 38) (M.1 51) nt i1)) 51 i1 (v_worthOf (M.1 7) nt (d_lyingAt (M.1 38) nt (nI i1)))) (Ps := [(nI i1) = nI i1 ∧ i1 < 8]) (by decide +kernel) rfl rfl ⟨⟨rfl, (by omega)⟩, trivial⟩ ?_
    refine G.mem (M' := mrow M 51 (upd (s_listPairs_2 (M.1 7) (M.1 38) (M.1 51) nt i1) i1 (v_worthOf (M.1 7) nt (d_lyingAt (M.1 38) nt (nI i1))))) (by first | rfl | (simp only [mput, mrow_same, mrow_hit, mrow_miss, mrow_sw, idr_eq, ne_eq, Nat.reduceEqDiff, not_false_eq_true, Nat.reduceLT, reduceCtorEq]; done)) ?_
    rw [nI_add i1 1]
    simp only [s_listPairs_2] at ih
    exact ih
set_option maxHeartbeats 4000000 in
set_option maxRecDepth 3000 in
theorem c_s_worthThen_49 (z : Zp) (d : Nat) (M : Mem) (n1 : Nat) (x2 : Int32) (b1 : n1 < 8) (hk : s_worthThen_ok (M.1 7) (M.1 38) (M.1 51) n1 x2) : GM z mX5_worthThen (d) [.ref 49, .int (nI n1), .int x2] M (fun rs => rs = .inl (some (.int (s_worthThen (M.1 7) (M.1 38) (M.1 51) n1 x2)), M)) := by
  simp only [s_worthThen_ok] at hk
  refine GM.of oX5_worthThen.1 (Nat.le_of_ble_eq_true rfl) ?_
  show G z mX5_worthThen (d) 0 0 0 [some (.ref 49), some (.int (nI n1)), some (.int x2), none, none] [] M _
  obtain ⟨Q, hQ⟩ : ∃ Q : Rs → Prop, Q = (fun rs => rs = .inl (some (.int (s_worthThen (M.1 7) (M.1 38) (M.1 51) n1 x2)), M)) := ⟨_, rfl⟩
  rw [← hQ]
  obtain ⟨k1, k2, hk⟩ := hk
  refine G.sl [(.iload_n 2, 1, 2, 0, 0, 0), (.bipush 10, 2, 0, 0, 0, nI 10), (.idiv, 1, 0, 0, 0, 0), (.istore_n 3, 1, 3, 0, 0, 0), (.aload_n 0, 1, 0, 0, 0, 0), (.getfield 15, 3, 4, 5, 98, 0), (.iload_n 1, 1, 1, 0, 0, 0), (.iaload, 1, 0, 0, 0, 0), (.istore 4, 2, 4, 0, 0, 0), (.aload_n 0, 1, 0, 0, 0, 0), (.getfield 25, 3, 4, 3, 96, 0), (.getfield 67, 3, 1, 0, 76, 0), (.bipush 31, 2, 0, 0, 0, nI 31), (.iload_n 3, 1, 3, 0, 0, 0), (.iadd, 1, 0, 0, 0, 0), (.iaload, 1, 0, 0, 0, 0), (.iload_n 1, 1, 1, 0, 0, 0)] [n1, 31 + (ix (x2 / (nI 10)))] (pc2 := 26) (ls2 := [some (.ref 49), some (.int (nI n1)), some (.int x2), some (.int (x2 / (nI 10))), some (.int (M.1 51 n1))]) (st2 := [.int (nI n1), .int (M.1 38 (31 + (ix (x2 / (nI 10)))))]) (M2 := M) (Ps := [¬ (nI 10) = 0, (nI n1) = nI n1 ∧ n1 < 8, ((nI 31) + (x2 / (nI 10))) = nI (31 + (ix (x2 / (nI 10)))) ∧ (31 + (ix (x2 / (nI 10)))) < 51]) (by decide +kernel) rfl rfl ⟨(by decide), ⟨rfl, (by omega)⟩, ⟨(nAdd rfl (ixE k1)), k2⟩, trivial⟩ ?_
  refine G.ic_ne (off := (17)) (tgt := 43) (by decide +kernel) rfl (fun c3 => ?_) (fun c3 => ?_)
  · skip
    rw [if_neg c3] at hk
    refine G.sl [(.iload_n 2, 1, 2, 0, 0, 0), (.bipush 10, 2, 0, 0, 0, nI 10), (.irem, 1, 0, 0, 0, 0), (.iload_n 1, 1, 1, 0, 0, 0)] [] (pc2 := 48) (ls2 := [some (.ref 49), some (.int (nI n1)), some (.int x2), some (.int (x2 / (nI 10))), some (.int (M.1 51 n1))]) (st2 := [.int (nI n1), .int (x2 - x2 / (nI 10) * (nI 10))]) (M2 := M) (Ps := [¬ (nI 10) = 0]) (by decide +kernel) rfl rfl ⟨(by decide), trivial⟩ ?_
    refine G.ic_ne (off := (18)) (tgt := 66) (by decide +kernel) rfl (fun c4 => ?_) (fun c4 => ?_)
    · skip
      rw [if_neg c4] at hk
      refine G.sl [(.iload 4, 2, 4, 0, 0, 0)] [] (pc2 := 68) (ls2 := [some (.ref 49), some (.int (nI n1)), some (.int x2), some (.int (x2 / (nI 10))), some (.int (M.1 51 n1))]) (st2 := [.int (M.1 51 n1)]) (M2 := M) (Ps := []) (by decide +kernel) rfl rfl trivial ?_
      exact G.reti (by decide +kernel) rfl rfl (Nat.le_of_ble_eq_true rfl) (Nat.le_of_ble_eq_true rfl) ((by rw [hQ]; simp only [s_worthThen, if_neg c3, if_neg c4, mrow_self]))
    · skip
      rw [if_pos c4] at hk
      obtain ⟨k5, hk⟩ := hk
      refine G.sl [(.iload 4, 2, 4, 0, 0, 0), (.aload_n 0, 1, 0, 0, 0, 0), (.getfield 21, 3, 4, 2, 95, 0), (.getfield 70, 3, 6, 7, 43, 0), (.iload_n 3, 1, 3, 0, 0, 0), (.iaload, 1, 0, 0, 0, 0), (.iadd, 1, 0, 0, 0, 0), (.goto 5, 3, 68, 0, 0, 0)] [ix (x2 / (nI 10))] (pc2 := 68) (ls2 := [some (.ref 49), some (.int (nI n1)), some (.int x2), some (.int (x2 / (nI 10))), some (.int (M.1 51 n1))]) (st2 := [.int ((M.1 51 n1) + (M.1 7 (ix (x2 / (nI 10)))))]) (M2 := M) (Ps := [(x2 / (nI 10)) = nI (ix (x2 / (nI 10))) ∧ (ix (x2 / (nI 10))) < 10]) (by decide +kernel) rfl rfl ⟨⟨(ixE k1), k5⟩, trivial⟩ ?_
      exact G.reti (by decide +kernel) rfl rfl (Nat.le_of_ble_eq_true rfl) (Nat.le_of_ble_eq_true rfl) ((by rw [hQ]; simp only [s_worthThen, if_neg c3, if_pos c4, mrow_self]))
  · skip
    rw [if_pos c3] at hk
    obtain ⟨k6, hk⟩ := hk
    refine G.sl [(.iload 4, 2, 4, 0, 0, 0), (.aload_n 0, 1, 0, 0, 0, 0), (.getfield 21, 3, 4, 2, 95, 0), (.getfield 70, 3, 6, 7, 43, 0), (.iload_n 3, 1, 3, 0, 0, 0), (.iaload, 1, 0, 0, 0, 0), (.isub, 1, 0, 0, 0, 0), (.istore 4, 2, 4, 0, 0, 0), (.iload_n 2, 1, 2, 0, 0, 0), (.bipush 10, 2, 0, 0, 0, nI 10), (.irem, 1, 0, 0, 0, 0), (.iload_n 1, 1, 1, 0, 0, 0)] [ix (x2 / (nI 10))] (pc2 := 48) (ls2 := [some (.ref 49), some (.int (nI n1)), some (.int x2), some (.int (x2 / (nI 10))), some (.int ((M.1 51 n1) - (M.1 7 (ix (x2 / (nI 10))))))]) (st2 := [.int (nI n1), .int (x2 - x2 / (nI 10) * (nI 10))]) (M2 := M) (Ps := [(x2 / (nI 10)) = nI (ix (x2 / (nI 10))) ∧ (ix (x2 / (nI 10))) < 10, ¬ (nI 10) = 0]) (by decide +kernel) rfl rfl ⟨⟨(ixE k1), k6⟩, (by decide), trivial⟩ ?_
    refine G.ic_ne (off := (18)) (tgt := 66) (by decide +kernel) rfl (fun c7 => ?_) (fun c7 => ?_)
    · skip
      refine G.sl [(.iload 4, 2, 4, 0, 0, 0)] [] (pc2 := 68) (ls2 := [some (.ref 49), some (.int (nI n1)), some (.int x2), some (.int (x2 / (nI 10))), some (.int ((M.1 51 n1) - (M.1 7 (ix (x2 / (nI 10))))))]) (st2 := [.int ((M.1 51 n1) - (M.1 7 (ix (x2 / (nI 10)))))]) (M2 := M) (Ps := []) (by decide +kernel) rfl rfl trivial ?_
      exact G.reti (by decide +kernel) rfl rfl (Nat.le_of_ble_eq_true rfl) (Nat.le_of_ble_eq_true rfl) ((by rw [hQ]; simp only [s_worthThen, if_pos c3, if_neg c7, mrow_self]))
    · skip
      refine G.sl [(.iload 4, 2, 4, 0, 0, 0), (.aload_n 0, 1, 0, 0, 0, 0), (.getfield 21, 3, 4, 2, 95, 0), (.getfield 70, 3, 6, 7, 43, 0), (.iload_n 3, 1, 3, 0, 0, 0), (.iaload, 1, 0, 0, 0, 0), (.iadd, 1, 0, 0, 0, 0), (.goto 5, 3, 68, 0, 0, 0)] [ix (x2 / (nI 10))] (pc2 := 68) (ls2 := [some (.ref 49), some (.int (nI n1)), some (.int x2), some (.int (x2 / (nI 10))), some (.int ((M.1 51 n1) - (M.1 7 (ix (x2 / (nI 10))))))]) (st2 := [.int (((M.1 51 n1) - (M.1 7 (ix (x2 / (nI 10))))) + (M.1 7 (ix (x2 / (nI 10)))))]) (M2 := M) (Ps := [(x2 / (nI 10)) = nI (ix (x2 / (nI 10))) ∧ (ix (x2 / (nI 10))) < 10]) (by decide +kernel) rfl rfl ⟨⟨(ixE k1), k6⟩, trivial⟩ ?_
      exact G.reti (by decide +kernel) rfl rfl (Nat.le_of_ble_eq_true rfl) (Nat.le_of_ble_eq_true rfl) ((by rw [hQ]; simp only [s_worthThen, if_pos c3, if_pos c7, mrow_self]))
theorem s_isRight_2_r01 (Rworth RworthAt Rrow Rlying : Nat → Int32) (x1 : Int32) : ∀ (k0 : Nat) (i2 : Nat) , R01 (s_isRight_2 Rworth RworthAt Rrow Rlying x1 k0 i2) := by
  intro k0
  induction k0 with
  | zero =>
    intro i2
    exact trivial
  | succ k0 ih =>
    intro i2
    simp only [s_isRight_2]
    repeat' (apply R01_ite)
    all_goals first | exact Or.inl rfl | exact Or.inr rfl | exact trivial | exact ih _
set_option maxHeartbeats 4000000 in
set_option maxRecDepth 3000 in
theorem lp_s_isRight_49_2 (z : Zp) (d : Nat) (M : Mem) (Q : Rs → Prop) (x1 : Int32) (np : Nat) (hnp : np ≤ 8) (hp : M.1 3 0 = nI np) : ∀ (k0 : Nat) (i2 : Nat), i2 + k0 = np → s_isRight_2_ok (M.1 7) (M.1 30) (M.1 38) (M.1 51) x1 k0 i2 → (match s_isRight_2 (M.1 7) (M.1 30) (M.1 38) (M.1 51) x1 k0 i2 with | .inl v' => Q (.inl (some (.int v'), M)) | .inr _ => G z mX5_isRight (d + 1) 0 0 52 [none, none, none] [] M Q) → G z mX5_isRight (d + 1) 0 0 2 [some (.ref 49), some (.int x1), some (.int (nI i2))] [] M Q := by
  intro k0
  induction k0 with
  | zero =>
      intro i2 hn hk hX
      refine G.sl [(.iload_n 2, 1, 2, 0, 0, 0), (.aload_n 0, 1, 0, 0, 0, 0), (.getfield 21, 3, 4, 2, 95, 0), (.getfield 33, 3, 6, 0, 15, 0)] [] (pc2 := 10) (ls2 := [some (.ref 49), some (.int x1), some (.int (nI i2))]) (st2 := [.int (M.1 3 0), .int (nI i2)]) (M2 := M) (Ps := []) (by decide +kernel) rfl rfl trivial ?_
      rw [hp]
      refine G.ic_ge (off := (42)) (tgt := 52) (by decide +kernel) rfl (fun _ => ?_) (fun h9 => absurd (nI_le (by omega) (by omega)) h9)
      refine G.loc (ls2 := [none, none, none]) (by simp [subL]) ?_
      simp only [s_isRight_2] at hX
      exact hX
  | succ k0 ih =>
      intro i2 hn hk hX
      simp only [s_isRight_2_ok] at hk
      refine G.sl [(.iload_n 2, 1, 2, 0, 0, 0), (.aload_n 0, 1, 0, 0, 0, 0), (.getfield 21, 3, 4, 2, 95, 0), (.getfield 33, 3, 6, 0, 15, 0)] [] (pc2 := 10) (ls2 := [some (.ref 49), some (.int x1), some (.int (nI i2))]) (st2 := [.int (M.1 3 0), .int (nI i2)]) (M2 := M) (Ps := []) (by decide +kernel) rfl rfl trivial ?_
      rw [hp]
      refine G.ic_ge (off := (42)) (tgt := 52) (by decide +kernel) rfl (fun h9 => absurd h9 (nI_ge (by omega) (by omega))) (fun _ => ?_)
      refine G.sl [(.aload_n 0, 1, 0, 0, 0, 0), (.getfield 29, 3, 4, 4, 97, 0), (.getfield 58, 3, 0, 1, 62, 0), (.iload_n 2, 1, 2, 0, 0, 0), (.iaload, 1, 0, 0, 0, 0), (.iconst (-1), 1, 0, 0, 0, (-1))] [i2] (pc2 := 23) (ls2 := [some (.ref 49), some (.int x1), some (.int (nI i2))]) (st2 := [.int ((-1)), .int (M.1 30 i2)]) (M2 := M) (Ps := [(nI i2) = nI i2 ∧ i2 < 8]) (by decide +kernel) rfl rfl ⟨⟨rfl, (by omega)⟩, trivial⟩ ?_
      refine G.ic_eq (off := (23)) (tgt := 46) (by decide +kernel) rfl (fun c1 => ?_) (fun c1 => ?_)
      · skip
        rw [if_pos c1] at hk
        refine G.sl [(.iinc 2 1, 3, 2, 0, 0, nI 1), (.goto (-47), 3, 2, 0, 0, 0)] [] (pc2 := 2) (ls2 := [some (.ref 49), some (.int x1), some (.int ((nI i2) + nI 1))]) (st2 := []) (M2 := M) (Ps := []) (by decide +kernel) rfl rfl trivial ?_
        rw [nI_add i2 1]
        simp only [s_isRight_2, if_pos c1] at hX
        exact ih (i2 + 1) (by omega) hk hX
      · skip
        rw [if_neg c1] at hk
        refine G.sl [(.aload_n 0, 1, 0, 0, 0, 0), (.getfield 29, 3, 4, 4, 97, 0), (.getfield 58, 3, 0, 1, 62, 0), (.iload_n 2, 1, 2, 0, 0, 0), (.iaload, 1, 0, 0, 0, 0), (.aload_n 0, 1, 0, 0, 0, 0), (.iload_n 2, 1, 2, 0, 0, 0), (.iload_n 1, 1, 1, 0, 0, 0)] [i2] (pc2 := 38) (ls2 := [some (.ref 49), some (.int x1), some (.int (nI i2))]) (st2 := [.int x1, .int (nI i2), .ref 49, .int (M.1 30 i2)]) (M2 := M) (Ps := [(nI i2) = nI i2 ∧ i2 < 8]) (by decide +kernel) rfl rfl ⟨⟨rfl, (by omega)⟩, trivial⟩ ?_
        obtain ⟨k2, hk⟩ := hk
        have t3 : GM z mX5_worthThen (d) [.ref 49, .int (nI i2), .int x1] M (fun rs => rs = .inl (some (.int (s_worthThen (M.1 7) (M.1 38) (M.1 51) i2 x1)), M)) := by
          have q9 := c_s_worthThen_49 z d M i2 x1 (by omega) k2
          try simp only [mput, mrow_same, mrow_hit, mrow_miss, mrow_sw, idr_eq, ne_eq, Nat.reduceEqDiff, not_false_eq_true, Nat.reduceLT, reduceCtorEq] at q9
          exact q9
        refine G.callV (as := [.int (nI i2), .int x1]) (rest := [.int (M.1 30 i2)]) (a := 49) oX5_worthThen lk_EvenFinders_Search_63 (by decide +kernel) rfl rfl ⟨rfl, rfl⟩ (Nat.le_of_ble_eq_true rfl) rfl ⟨Nat.le_of_ble_eq_true rfl, Nat.le_of_ble_eq_true rfl⟩ t3 (fun v9 N9 h4 => ?_) (fun E9 N9 h4 => by cases h4)
        cases h4
        show G z mX5_isRight (d + 1) 0 0 41 [some (.ref 49), some (.int x1), some (.int (nI i2))] [.int (s_worthThen (M.1 7) (M.1 38) (M.1 51) i2 x1), .int (M.1 30 i2)] M Q
        refine G.ic_eq (off := (5)) (tgt := 46) (by decide +kernel) rfl (fun c5 => ?_) (fun c5 => ?_)
        · skip
          rw [if_pos c5] at hk
          refine G.sl [(.iinc 2 1, 3, 2, 0, 0, nI 1), (.goto (-47), 3, 2, 0, 0, 0)] [] (pc2 := 2) (ls2 := [some (.ref 49), some (.int x1), some (.int ((nI i2) + nI 1))]) (st2 := []) (M2 := M) (Ps := []) (by decide +kernel) rfl rfl trivial ?_
          rw [nI_add i2 1]
          simp only [s_isRight_2, if_neg c1, if_pos c5] at hX
          exact ih (i2 + 1) (by omega) hk hX
        · skip
          rw [if_neg c5] at hk
          refine G.sl [(.iconst 0, 1, 0, 0, 0, nI 0)] [] (pc2 := 45) (ls2 := [some (.ref 49), some (.int x1), some (.int (nI i2))]) (st2 := [.int (nI 0)]) (M2 := M) (Ps := []) (by decide +kernel) rfl rfl trivial ?_
          exact G.reti (by decide +kernel) rfl rfl (Nat.le_of_ble_eq_true rfl) (Nat.le_of_ble_eq_true rfl) ((by simp only [s_isRight_2, if_neg c1, if_neg c5] at hX; exact hX))
theorem s_isRight_01 (Rworth RworthAt Rrow Rlying : Nat → Int32) (np : Nat) (x1 : Int32) : s_isRight Rworth RworthAt Rrow Rlying np x1 = 0 ∨ s_isRight Rworth RworthAt Rrow Rlying np x1 = 1 := by
  unfold s_isRight
  repeat' split
  all_goals first | exact Or.inl rfl | exact Or.inr rfl | (rename_i h9; have q9 := s_isRight_2_r01 (Rworth) (RworthAt) (Rrow) (Rlying) x1 np 0; rw [h9] at q9; exact q9)
set_option maxHeartbeats 4000000 in
set_option maxRecDepth 3000 in
theorem c_s_isRight_49 (z : Zp) (d : Nat) (M : Mem) (x1 : Int32) (np : Nat) (hnp : np ≤ 8) (hp : M.1 3 0 = nI np) (hk : s_isRight_ok (M.1 7) (M.1 30) (M.1 38) (M.1 51) np x1) : GM z mX5_isRight (d + 1) [.ref 49, .int x1] M (fun rs => rs = .inl (some (.int (s_isRight (M.1 7) (M.1 30) (M.1 38) (M.1 51) np x1)), M)) := by
  simp only [s_isRight_ok] at hk
  refine GM.of oX5_isRight.1 (Nat.le_of_ble_eq_true rfl) ?_
  show G z mX5_isRight (d + 1) 0 0 0 [some (.ref 49), some (.int x1), none] [] M _
  obtain ⟨Q, hQ⟩ : ∃ Q : Rs → Prop, Q = (fun rs => rs = .inl (some (.int (s_isRight (M.1 7) (M.1 30) (M.1 38) (M.1 51) np x1)), M)) := ⟨_, rfl⟩
  rw [← hQ]
  refine G.sl [(.iconst 0, 1, 0, 0, 0, nI 0), (.istore_n 2, 1, 2, 0, 0, 0)] [] (pc2 := 2) (ls2 := [some (.ref 49), some (.int x1), some (.int (nI 0))]) (st2 := []) (M2 := M) (Ps := []) (by decide +kernel) rfl rfl trivial ?_
  obtain ⟨k6, hk⟩ := hk
  refine lp_s_isRight_49_2 z d M Q x1 np hnp hp np 0 (Nat.zero_add _) (by first | (simp only [mput, mrow_same, mrow_hit, mrow_miss, mrow_sw, idr_eq, ne_eq, Nat.reduceEqDiff, not_false_eq_true, Nat.reduceLT, reduceCtorEq]; exact k6) | exact k6) ?_
  try simp only [mput, mrow_same, mrow_hit, mrow_miss, mrow_sw, idr_eq, ne_eq, Nat.reduceEqDiff, not_false_eq_true, Nat.reduceLT, reduceCtorEq]
  rcases g7 : s_isRight_2 (M.1 7) (M.1 30) (M.1 38) (M.1 51) x1 np 0 with v8 | _
  · skip
    show Q (.inl (some (.int v8), M))
    rw [hQ]
    simp only [s_isRight, g7, mrow_self]
  · skip
    show G z mX5_isRight (d + 1) 0 0 52 [none, none, none] [] M Q
    refine G.sl [(.iconst 1, 1, 0, 0, 0, nI 1)] [] (pc2 := 53) (ls2 := [none, none, none]) (st2 := [.int (nI 1)]) (M2 := M) (Ps := []) (by decide +kernel) rfl rfl trivial ?_
    exact G.reti (by decide +kernel) rfl rfl (Nat.le_of_ble_eq_true rfl) (Nat.le_of_ble_eq_true rfl) ((by rw [hQ]; simp only [s_isRight, g7, mrow_self]))
set_option maxHeartbeats 4000000 in
set_option maxRecDepth 3000 in
theorem lp_s_listPairs_49_60 (z : Zp) (d : Nat) (M : Mem) (Q : Rs → Prop) (n1 : Nat) (np : Nat) (hnp : np ≤ 8) (hp : M.1 3 0 = nI np) (b1 : n1 < 10) (hk : ∀ i2, i2 < np → s_listPairs_60_ok (M.1 7) (M.1 30) (M.1 38) (M.1 49) (M.1 50) (M.1 51) np n1 i2) (hX : G z mX5_listPairs (d + 2) 0 0 124 [some (.ref 49), some (.int (nI n1)), none, none] [] (mrow (mrow M 49 ((s_listPairs_60 (M.1 7) (M.1 30) (M.1 38) (M.1 49) (M.1 50) (M.1 51) np n1 np).1)) 50 ((s_listPairs_60 (M.1 7) (M.1 30) (M.1 38) (M.1 49) (M.1 50) (M.1 51) np n1 np).2)) Q) : G z mX5_listPairs (d + 2) 0 0 60 [some (.ref 49), some (.int (nI n1)), some (.int (nI 0)), none] [] M Q := by
  refine G.mem (M' := mrow (mrow M 49 (M.1 49)) 50 (M.1 50)) (by simp only [mrow_self]) ?_
  refine down (n := np) (P := fun i2 => G z mX5_listPairs (d + 2) 0 0 60 [some (.ref 49), some (.int (nI n1)), some (.int (nI i2)), none] [] (mrow (mrow M 49 ((s_listPairs_60 (M.1 7) (M.1 30) (M.1 38) (M.1 49) (M.1 50) (M.1 51) np n1 i2).1)) 50 ((s_listPairs_60 (M.1 7) (M.1 30) (M.1 38) (M.1 49) (M.1 50) (M.1 51) np n1 i2).2)) Q) ?_ ?_ 0 (Nat.zero_le _)
  · skip
    refine G.sl [(.iload_n 2, 1, 2, 0, 0, 0), (.aload_n 0, 1, 0, 0, 0, 0), (.getfield 21, 3, 4, 2, 95, 0), (.getfield 33, 3, 6, 0, 15, 0)] [] (pc2 := 68) (ls2 := [some (.ref 49), some (.int (nI n1)), some (.int (nI np)), none]) (st2 := [.int (M.1 3 0), .int (nI np)]) (M2 := mrow (mrow M 49 ((s_listPairs_60 (M.1 7) (M.1 30) (M.1 38) (M.1 49) (M.1 50) (M.1 51) np n1 np).1)) 50 ((s_listPairs_60 (M.1 7) (M.1 30) (M.1 38) (M.1 49) (M.1 50) (M.1 51) np n1 np).2)) (Ps := []) (by decide +kernel) rfl rfl trivial ?_
    rw [hp]
    refine G.ic_ge (off := (56)) (tgt := 124) (by decide +kernel) rfl (fun _ => ?_) (fun h9 => absurd (nI_le (by omega) (by omega)) h9)
    refine G.loc (ls2 := [some (.ref 49), some (.int (nI n1)), none, none]) (by simp [subL]) ?_
    exact hX
  · skip
    intro i2 hi ih
    have hk := hk i2 hi
    simp only [s_listPairs_60_ok] at hk
    rcases g9 : s_listPairs_60 (M.1 7) (M.1 30) (M.1 38) (M.1 49) (M.1 50) (M.1 51) np n1 i2 with ⟨q49, q50⟩
    try simp only [g9] at hk
    try simp only [g9]
    show G z mX5_listPairs (d + 2) 0 0 60 [some (.ref 49), some (.int (nI n1)), some (.int (nI i2)), none] [] (mrow (mrow M 49 q49) 50 q50) Q
    refine G.sl [(.iload_n 2, 1, 2, 0, 0, 0), (.aload_n 0, 1, 0, 0, 0, 0), (.getfield 21, 3, 4, 2, 95, 0), (.getfield 33, 3, 6, 0, 15, 0)] [] (pc2 := 68) (ls2 := [some (.ref 49), some (.int (nI n1)), some (.int (nI i2)), none]) (st2 := [.int (M.1 3 0), .int (nI i2)]) (M2 := mrow (mrow M 49 q49) 50 q50) (Ps := []) (by decide +kernel) rfl rfl trivial ?_
    rw [hp]
    refine G.ic_ge (off := (56)) (tgt := 124) (by decide +kernel) rfl (fun h9 => absurd h9 (nI_ge (by omega) (by omega))) (fun _ => ?_)
    refine G.sl [(.iload_n 1, 1, 1, 0, 0, 0), (.bipush 10, 2, 0, 0, 0, nI 10), (.imul, 1, 0, 0, 0, 0), (.iload_n 2, 1, 2, 0, 0, 0), (.iadd, 1, 0, 0, 0, 0), (.istore_n 3, 1, 3, 0, 0, 0), (.aload_n 0, 1, 0, 0, 0, 0), (.iload_n 3, 1, 3, 0, 0, 0)] [] (pc2 := 80) (ls2 := [some (.ref 49), some (.int (nI n1)), some (.int (nI i2)), some (.int (((nI n1) * (nI 10)) + (nI i2)))]) (st2 := [.int (((nI n1) * (nI 10)) + (nI i2)), .ref 49]) (M2 := mrow (mrow M 49 q49) 50 q50) (Ps := []) (by decide +kernel) rfl rfl trivial ?_
    obtain ⟨k10, hk⟩ := hk
    have t11 : GM z mX5_isRight (d + 1) [.ref 49, .int (((nI n1) * (nI 10)) + (nI i2))] (mrow (mrow M 49 q49) 50 q50) (fun rs => rs = .inl (some (.int (s_isRight (M.1 7) (M.1 30) (M.1 38) (M.1 51) np (((nI n1) * (nI 10)) + (nI i2)))), mrow (mrow M 49 q49) 50 q50)) := by
      have q9 := c_s_isRight_49 z d (mrow (mrow M 49 q49) 50 q50) (((nI n1) * (nI 10)) + (nI i2)) np hnp hp k10
      try simp only [mput, mrow_same, mrow_hit, mrow_miss, mrow_sw, idr_eq, ne_eq, Nat.reduceEqDiff, not_false_eq_true, Nat.reduceLT, reduceCtorEq] at q9
      exact q9
    refine G.callV (as := [.int (((nI n1) * (nI 10)) + (nI i2))]) (rest := []) (a := 49) oX5_isRight lk_EvenFinders_Search_54 (by decide +kernel) rfl rfl ⟨rfl, rfl⟩ (Nat.le_of_ble_eq_true rfl) rfl ⟨Nat.le_of_ble_eq_true rfl, Nat.le_of_ble_eq_true rfl⟩ t11 (fun v9 N9 h12 => ?_) (fun E9 N9 h12 => by cases h12)
    cases h12
    show G z mX5_listPairs (d + 2) 0 0 83 [some (.ref 49), some (.int (nI n1)), some (.int (nI i2)), some (.int (((nI n1) * (nI 10)) + (nI i2)))] [.int (s_isRight (M.1 7) (M.1 30) (M.1 38) (M.1 51) np (((nI n1) * (nI 10)) + (nI i2)))] (mrow (mrow M 49 q49) 50 q50) Q
    refine G.if_eq (off := (35)) (tgt := 118) (by decide +kernel) rfl (fun c13 => ?_) (fun c13 => ?_)
    · skip
      rw [if_pos c13] at hk
      refine G.sl [(.iinc 2 1, 3, 2, 0, 0, nI 1), (.goto (-61), 3, 60, 0, 0, 0)] [] (pc2 := 60) (ls2 := [some (.ref 49), some (.int (nI n1)), some (.int ((nI i2) + nI 1)), some (.int (((nI n1) * (nI 10)) + (nI i2)))]) (st2 := []) (M2 := mrow (mrow M 49 q49) 50 q50) (Ps := []) (by decide +kernel) rfl rfl trivial ?_
      refine G.loc (ls2 := [some (.ref 49), some (.int (nI n1)), some (.int ((nI i2) + nI 1)), none]) (by simp [subL]) ?_
      rw [nI_add i2 1]
      simp only [s_listPairs_60, g9, if_pos c13] at ih
      exact ih
    · skip
      rw [if_neg c13] at hk
      refine G.sl [(.aload_n 0, 1, 0, 0, 0, 0), (.getfield 48, 3, 4, 0, 91, 0), (.aload_n 0, 1, 0, 0, 0, 0), (.getfield 9, 3, 4, 1, 93, 0), (.arraylength, 1, 0, 0, 0, 0)] [] (pc2 := 95) (ls2 := [some (.ref 49), some (.int (nI n1)), some (.int (nI i2)), some (.int (((nI n1) * (nI 10)) + (nI i2)))]) (st2 := [.int (nI 80), .int (q49 0)]) (M2 := mrow (mrow M 49 q49) 50 q50) (Ps := []) (by decide +kernel) rfl rfl trivial ?_
      refine G.ic_ge (off := (23)) (tgt := 118) (by decide +kernel) rfl (fun c14 => ?_) (fun c14 => ?_)
      · skip
        rw [if_pos c14] at hk
        refine G.sl [(.iinc 2 1, 3, 2, 0, 0, nI 1), (.goto (-61), 3, 60, 0, 0, 0)] [] (pc2 := 60) (ls2 := [some (.ref 49), some (.int (nI n1)), some (.int ((nI i2) + nI 1)), some (.int (((nI n1) * (nI 10)) + (nI i2)))]) (st2 := []) (M2 := mrow (mrow M 49 q49) 50 q50) (Ps := []) (by decide +kernel) rfl rfl trivial ?_
        refine G.loc (ls2 := [some (.ref 49), some (.int (nI n1)), some (.int ((nI i2) + nI 1)), none]) (by simp [subL]) ?_
        rw [nI_add i2 1]
        simp only [s_listPairs_60, g9, if_neg c13, if_pos c14] at ih
        exact ih
      · skip
        rw [if_neg c14] at hk
        obtain ⟨k15, k16, hk⟩ := hk
        refine G.sl [(.aload_n 0, 1, 0, 0, 0, 0), (.getfield 9, 3, 4, 1, 93, 0), (.aload_n 0, 1, 0, 0, 0, 0), (.getfield 48, 3, 4, 0, 91, 0), (.iload_n 3, 1, 3, 0, 0, 0), (.iastore, 1, 0, 0, 0, 0), (.aload_n 0, 1, 0, 0, 0, 0), (.dup, 1, 0, 0, 0, 0), (.getfield 48, 3, 4, 0, 91, 0), (.iconst 1, 1, 0, 0, 0, nI 1), (.iadd, 1, 0, 0, 0, 0), (.putfield 48, 3, 4, 0, 91, 0), (.iinc 2 1, 3, 2, 0, 0, nI 1), (.goto (-61), 3, 60, 0, 0, 0)] [ix (q49 0)] (pc2 := 60) (ls2 := [some (.ref 49), some (.int (nI n1)), some (.int ((nI i2) + nI 1)), some (.int (((nI n1) * (nI 10)) + (nI i2)))]) (st2 := []) (M2 := mput (mput (mrow (mrow M 49 q49) 50 q50) 50 (ix (q49 0)) (((nI n1) * (nI 10)) + (nI i2))) 49 0 ((q49 0) + (nI 1))) (Ps := [(q49 0) = nI (ix (q49 0)) ∧ (ix (q49 0)) < 80]) (by decide +kernel) rfl rfl ⟨⟨(ixE k15), k16⟩, trivial⟩ ?_
        refine G.mem (M' := mrow (mrow M 49 (upd q49 0 ((q49 0) + (nI 1)))) 50 (upd q50 (ix (q49 0)) (((nI n1) * (nI 10)) + (nI i2)))) (by first | rfl | (simp only [mput, mrow_same, mrow_hit, mrow_miss, mrow_sw, idr_eq, ne_eq, Nat.reduceEqDiff, not_false_eq_true, Nat.reduceLT, reduceCtorEq]; done)) ?_
        refine G.loc (ls2 := [some (.ref 49), some (.int (nI n1)), some (.int ((nI i2) + nI 1)), none]) (by simp [subL]) ?_
        rw [nI_add i2 1]
        simp only [s_listPairs_60, g9, if_neg c13, if_neg c14] at ih
        exact ih
set_option maxHeartbeats 4000000 in
set_option maxRecDepth 3000 in
theorem lp_s_listPairs_49_47 (z : Zp) (d : Nat) (M : Mem) (Q : Rs → Prop) (np : Nat) (hnp : np ≤ 8) (hp : M.1 3 0 = nI np) (nt : Nat) (hnt : nt ≤ 10) (ht : M.1 3 2 = nI nt) (hk : ∀ i1, i1 < nt → s_listPairs_47_ok (M.1 7) (M.1 30) (M.1 38) (M.1 49) (M.1 50) (M.1 51) np i1) (hX : G z mX5_listPairs (d + 2) 0 0 130 [none, none, none, none] [] (mrow (mrow M 49 ((s_listPairs_47 (M.1 7) (M.1 30) (M.1 38) (M.1 49) (M.1 50) (M.1 51) np nt).1)) 50 ((s_listPairs_47 (M.1 7) (M.1 30) (M.1 38) (M.1 49) (M.1 50) (M.1 51) np nt).2)) Q) : G z mX5_listPairs (d + 2) 0 0 47 [some (.ref 49), some (.int (nI 0)), none, none] [] M Q := by
  refine G.mem (M' := mrow (mrow M 49 (M.1 49)) 50 (M.1 50)) (by simp only [mrow_self]) ?_
  refine down (n := nt) (P := fun i1 => G z mX5_listPairs (d + 2) 0 0 47 [some (.ref 49), some (.int (nI i1)), none, none] [] (mrow (mrow M 49 ((s_listPairs_47 (M.1 7) (M.1 30) (M.1 38) (M.1 49) (M.1 50) (M.1 51) np i1).1)) 50 ((s_listPairs_47 (M.1 7) (M.1 30) (M.1 38) (M.1 49) (M.1 50) (M.1 51) np i1).2)) Q) ?_ ?_ 0 (Nat.zero_le _)
  · skip
    refine G.sl [(.iload_n 1, 1, 1, 0, 0, 0), (.aload_n 0, 1, 0, 0, 0, 0), (.getfield 21, 3, 4, 2, 95, 0), (.getfield 51, 3, 6, 2, 24, 0)] [] (pc2 := 55) (ls2 := [some (.ref 49), some (.int (nI nt)), none, none]) (st2 := [.int (M.1 3 2), .int (nI nt)]) (M2 := mrow (mrow M 49 ((s_listPairs_47 (M.1 7) (M.1 30) (M.1 38) (M.1 49) (M.1 50) (M.1 51) np nt).1)) 50 ((s_listPairs_47 (M.1 7) (M.1 30) (M.1 38) (M.1 49) (M.1 50) (M.1 51) np nt).2)) (Ps := []) (by decide +kernel) rfl rfl trivial ?_
    rw [ht]
    refine G.ic_ge (off := (75)) (tgt := 130) (by decide +kernel) rfl (fun _ => ?_) (fun h9 => absurd (nI_le (by omega) (by omega)) h9)
    refine G.loc (ls2 := [none, none, none, none]) (by simp [subL]) ?_
    exact hX
  · skip
    intro i1 hi ih
    have hk := hk i1 hi
    simp only [s_listPairs_47_ok] at hk
    rcases g8 : s_listPairs_47 (M.1 7) (M.1 30) (M.1 38) (M.1 49) (M.1 50) (M.1 51) np i1 with ⟨q49, q50⟩
    try simp only [g8] at hk
    try simp only [g8]
    show G z mX5_listPairs (d + 2) 0 0 47 [some (.ref 49), some (.int (nI i1)), none, none] [] (mrow (mrow M 49 q49) 50 q50) Q
    refine G.sl [(.iload_n 1, 1, 1, 0, 0, 0), (.aload_n 0, 1, 0, 0, 0, 0), (.getfield 21, 3, 4, 2, 95, 0), (.getfield 51, 3, 6, 2, 24, 0)] [] (pc2 := 55) (ls2 := [some (.ref 49), some (.int (nI i1)), none, none]) (st2 := [.int (M.1 3 2), .int (nI i1)]) (M2 := mrow (mrow M 49 q49) 50 q50) (Ps := []) (by decide +kernel) rfl rfl trivial ?_
    rw [ht]
    refine G.ic_ge (off := (75)) (tgt := 130) (by decide +kernel) rfl (fun h9 => absurd h9 (nI_ge (by omega) (by omega))) (fun _ => ?_)
    refine G.sl [(.iconst 0, 1, 0, 0, 0, nI 0), (.istore_n 2, 1, 2, 0, 0, 0)] [] (pc2 := 60) (ls2 := [some (.ref 49), some (.int (nI i1)), some (.int (nI 0)), none]) (st2 := []) (M2 := mrow (mrow M 49 q49) 50 q50) (Ps := []) (by decide +kernel) rfl rfl trivial ?_
    obtain ⟨k17, hk⟩ := hk
    refine lp_s_listPairs_49_60 z d (mrow (mrow M 49 q49) 50 q50) Q i1 np hnp hp (by omega) (by first | (simp only [mput, mrow_same, mrow_hit, mrow_miss, mrow_sw, idr_eq, ne_eq, Nat.reduceEqDiff, not_false_eq_true, Nat.reduceLT, reduceCtorEq]; exact k17) | exact k17) ?_
    try simp only [mput, mrow_same, mrow_hit, mrow_miss, mrow_sw, idr_eq, ne_eq, Nat.reduceEqDiff, not_false_eq_true, Nat.reduceLT, reduceCtorEq]
    rcases g18 : s_listPairs_60 (M.1 7) (M.1 30) (M.1 38) q49 q50 (M.1 51) np i1 np with ⟨r19, r20⟩
    show G z mX5_listPairs (d + 2) 0 0 124 [some (.ref 49), some (.int (nI i1)), none, none] [] (mrow (mrow M 49 r19) 50 r20) Q
    refine G.sl [(.iinc 1 1, 3, 1, 0, 0, nI 1), (.goto (-80), 3, 47, 0, 0, 0)] [] (pc2 := 47) (ls2 := [some (.ref 49), some (.int ((nI i1) + nI 1)), none, none]) (st2 := []) (M2 := mrow (mrow M 49 r19) 50 r20) (Ps := []) (by decide +kernel) rfl rfl trivial ?_
    rw [nI_add i1 1]
    simp only [s_listPairs_47, g8, g18] at ih
    exact ih
set_option maxHeartbeats 4000000 in
set_option maxRecDepth 3000 in
theorem c_s_listPairs_49 (z : Zp) (d : Nat) (M : Mem) (np : Nat) (hnp : np ≤ 8) (hp : M.1 3 0 = nI np) (nt : Nat) (hnt : nt ≤ 10) (ht : M.1 3 2 = nI nt) (hk : s_listPairs_ok (M.1 7) (M.1 30) (M.1 38) (M.1 49) (M.1 50) (M.1 51) np nt) : GM z mX5_listPairs (d + 2) [.ref 49] M (fun rs => rs = .inl (none, mrow (mrow (mrow M 49 ((s_listPairs (M.1 7) (M.1 30) (M.1 38) (M.1 49) (M.1 50) (M.1 51) np nt).2.1)) 50 ((s_listPairs (M.1 7) (M.1 30) (M.1 38) (M.1 49) (M.1 50) (M.1 51) np nt).2.2.1)) 51 ((s_listPairs (M.1 7) (M.1 30) (M.1 38) (M.1 49) (M.1 50) (M.1 51) np nt).2.2.2))) := by
  simp only [s_listPairs_ok] at hk
  refine GM.of oX5_listPairs.1 (Nat.le_of_ble_eq_true rfl) ?_
  show G z mX5_listPairs (d + 2) 0 0 0 [some (.ref 49), none, none, none] [] M _
  obtain ⟨Q, hQ⟩ : ∃ Q : Rs → Prop, Q = (fun rs => rs = .inl (none, mrow (mrow (mrow M 49 ((s_listPairs (M.1 7) (M.1 30) (M.1 38) (M.1 49) (M.1 50) (M.1 51) np nt).2.1)) 50 ((s_listPairs (M.1 7) (M.1 30) (M.1 38) (M.1 49) (M.1 50) (M.1 51) np nt).2.2.1)) 51 ((s_listPairs (M.1 7) (M.1 30) (M.1 38) (M.1 49) (M.1 50) (M.1 51) np nt).2.2.2))) := ⟨_, rfl⟩
  rw [← hQ]
  refine G.sl [(.iconst 0, 1, 0, 0, 0, nI 0), (.istore_n 1, 1, 1, 0, 0, 0)] [] (pc2 := 2) (ls2 := [some (.ref 49), some (.int (nI 0)), none, none]) (st2 := []) (M2 := M) (Ps := []) (by decide +kernel) rfl rfl trivial ?_
  obtain ⟨k7, hk⟩ := hk
  refine lp_s_listPairs_49_2 z d M Q np hnp hp nt hnt ht ?_
  try simp only [mput, mrow_same, mrow_hit, mrow_miss, mrow_sw, idr_eq, ne_eq, Nat.reduceEqDiff, not_false_eq_true, Nat.reduceLT, reduceCtorEq]
  show G z mX5_listPairs (d + 2) 0 0 40 [some (.ref 49), none, none, none] [] (mrow M 51 (s_listPairs_2 (M.1 7) (M.1 38) (M.1 51) nt np)) Q
  refine G.sl [(.aload_n 0, 1, 0, 0, 0, 0), (.iconst 0, 1, 0, 0, 0, nI 0), (.putfield 48, 3, 4, 0, 91, 0), (.iconst 0, 1, 0, 0, 0, nI 0), (.istore_n 1, 1, 1, 0, 0, 0)] [] (pc2 := 47) (ls2 := [some (.ref 49), some (.int (nI 0)), none, none]) (st2 := []) (M2 := mput (mrow M 51 (s_listPairs_2 (M.1 7) (M.1 38) (M.1 51) nt np)) 49 0 (nI 0)) (Ps := []) (by decide +kernel) rfl rfl trivial ?_
  refine G.mem (M' := mrow (mrow M 49 (upd (M.1 49) 0 (nI 0))) 51 (s_listPairs_2 (M.1 7) (M.1 38) (M.1 51) nt np)) (by first | rfl | (simp only [mput, mrow_same, mrow_hit, mrow_miss, mrow_sw, idr_eq, ne_eq, Nat.reduceEqDiff, not_false_eq_true, Nat.reduceLT, reduceCtorEq]; done)) ?_
  obtain ⟨k21, hk⟩ := hk
  refine lp_s_listPairs_49_47 z d (mrow (mrow M 49 (upd (M.1 49) 0 (nI 0))) 51 (s_listPairs_2 (M.1 7) (M.1 38) (M.1 51) nt np)) Q np hnp hp nt hnt ht (by first | (simp only [mput, mrow_same, mrow_hit, mrow_miss, mrow_sw, idr_eq, ne_eq, Nat.reduceEqDiff, not_false_eq_true, Nat.reduceLT, reduceCtorEq]; exact k21) | exact k21) ?_
  try simp only [mput, mrow_same, mrow_hit, mrow_miss, mrow_sw, idr_eq, ne_eq, Nat.reduceEqDiff, not_false_eq_true, Nat.reduceLT, reduceCtorEq]
  rcases g22 : s_listPairs_47 (M.1 7) (M.1 30) (M.1 38) (upd (M.1 49) 0 (nI 0)) (M.1 50) (s_listPairs_2 (M.1 7) (M.1 38) (M.1 51) nt np) np nt with ⟨r23, r24⟩
  show G z mX5_listPairs (d + 2) 0 0 130 [none, none, none, none] [] (mrow (mrow (mrow M 49 r23) 50 r24) 51 (s_listPairs_2 (M.1 7) (M.1 38) (M.1 51) nt np)) Q
  exact G.retv (by decide +kernel) rfl (Nat.le_of_ble_eq_true rfl) (Nat.le_of_ble_eq_true rfl) ((by rw [hQ]; simp only [s_listPairs, g22, mrow_self]))
set_option maxHeartbeats 4000000 in
set_option maxRecDepth 3000 in
theorem lp_J7_fill_53178_L601_52_5 (z : Zp) (d : Nat) (M : Mem) (Q : Rs → Prop) (nn : Nat) (x1 : Int32) (hnn : nn = 601) (hX : G z mJ7_fill_53178 (d) 0 0 20 [none, none, none, none] [] (mrow M 52 (J7_fill_53178_L601_5 (M.1 52) x1 nn)) Q) : G z mJ7_fill_53178 (d) 0 0 5 [some (.ref 52), some (.int x1), some (.int (nI 0)), some (.int (nI 601))] [] M Q := by
  refine G.mem (M' := mrow M 52 (M.1 52)) (by simp only [mrow_self]) ?_
  refine down (n := nn) (P := fun i2 => G z mJ7_fill_53178 (d) 0 0 5 [some (.ref 52), some (.int x1), some (.int (nI i2)), some (.int (nI 601))] [] (mrow M 52 (J7_fill_53178_L601_5 (M.1 52) x1 i2)) Q) ?_ ?_ 0 (Nat.zero_le _)
  · skip
    refine G.sl [(.iload_n 2, 1, 2, 0, 0, 0), (.iload_n 3, 1, 3, 0, 0, 0)] [] (pc2 := 7) (ls2 := [some (.ref 52), some (.int x1), some (.int (nI nn)), some (.int (nI 601))]) (st2 := [.int (nI 601), .int (nI nn)]) (M2 := mrow M 52 (J7_fill_53178_L601_5 (M.1 52) x1 nn)) (Ps := []) (by decide +kernel) rfl rfl trivial ?_
    refine G.ic_ge (off := (13)) (tgt := 20) (by decide +kernel) rfl (fun _ => ?_) (fun h9 => absurd (nI_le (by omega) (by omega)) h9)
    refine G.loc (ls2 := [none, none, none, none]) (by simp [subL]) ?_
    exact hX
  · skip
    intro i2 hi ih
    show G z mJ7_fill_53178 (d) 0 0 5 [some (.ref 52), some (.int x1), some (.int (nI i2)), some (.int (nI 601))] [] (mrow M 52 (J7_fill_53178_L601_5 (M.1 52) x1 i2)) Q
    refine G.sl [(.iload_n 2, 1, 2, 0, 0, 0), (.iload_n 3, 1, 3, 0, 0, 0)] [] (pc2 := 7) (ls2 := [some (.ref 52), some (.int x1), some (.int (nI i2)), some (.int (nI 601))]) (st2 := [.int (nI 601), .int (nI i2)]) (M2 := mrow M 52 (J7_fill_53178_L601_5 (M.1 52) x1 i2)) (Ps := []) (by decide +kernel) rfl rfl trivial ?_
    refine G.ic_ge (off := (13)) (tgt := 20) (by decide +kernel) rfl (fun h9 => absurd h9 (nI_ge (by omega) (by omega))) (fun _ => ?_)
    refine G.sl [(.aload_n 0, 1, 0, 0, 0, 0), (.iload_n 2, 1, 2, 0, 0, 0), (.iload_n 1, 1, 1, 0, 0, 0), (.iastore, 1, 0, 0, 0, 0), (.iinc 2 1, 3, 2, 0, 0, nI 1), (.goto (-12), 3, 5, 0, 0, 0)] [i2] (pc2 := 5) (ls2 := [some (.ref 52), some (.int x1), some (.int ((nI i2) + nI 1)), some (.int (nI 601))]) (st2 := []) (M2 := mput (mrow M 52 (J7_fill_53178_L601_5 (M.1 52) x1 i2)) 52 i2 x1) (Ps := [(nI i2) = nI i2 ∧ i2 < 601]) (by decide +kernel) rfl rfl ⟨⟨rfl, (by omega)⟩, trivial⟩ ?_
    refine G.mem (M' := mrow M 52 (upd (J7_fill_53178_L601_5 (M.1 52) x1 i2) i2 x1)) (by first | rfl | (simp only [mput, mrow_same, mrow_hit, mrow_miss, mrow_sw, idr_eq, ne_eq, Nat.reduceEqDiff, not_false_eq_true, Nat.reduceLT, reduceCtorEq]; done)) ?_
    rw [nI_add i2 1]
    simp only [J7_fill_53178_L601_5] at ih
    exact ih
set_option maxHeartbeats 4000000 in
set_option maxRecDepth 3000 in
theorem c_J7_fill_53178_L601_52 (z : Zp) (d : Nat) (M : Mem) (x1 : Int32) : GM z mJ7_fill_53178 (d) [.ref 52, .int x1] M (fun rs => rs = .inl (none, mrow M 52 ((J7_fill_53178_L601 (M.1 52) x1).2))) := by
  refine GM.of oJ7_fill_53178.1 (Nat.le_of_ble_eq_true rfl) ?_
  show G z mJ7_fill_53178 (d) 0 0 0 [some (.ref 52), some (.int x1), none, none] [] M _
  obtain ⟨Q, hQ⟩ : ∃ Q : Rs → Prop, Q = (fun rs => rs = .inl (none, mrow M 52 ((J7_fill_53178_L601 (M.1 52) x1).2))) := ⟨_, rfl⟩
  rw [← hQ]
  refine G.sl [(.iconst 0, 1, 0, 0, 0, nI 0), (.istore_n 2, 1, 2, 0, 0, 0), (.aload_n 0, 1, 0, 0, 0, 0), (.arraylength, 1, 0, 0, 0, 0), (.istore_n 3, 1, 3, 0, 0, 0)] [] (pc2 := 5) (ls2 := [some (.ref 52), some (.int x1), some (.int (nI 0)), some (.int (nI 601))]) (st2 := []) (M2 := M) (Ps := []) (by decide +kernel) rfl rfl trivial ?_
  refine lp_J7_fill_53178_L601_52_5 z d M Q (cN 601) x1 (cN_eq 601) ?_
  try simp only [mput, mrow_same, mrow_hit, mrow_miss, mrow_sw, idr_eq, ne_eq, Nat.reduceEqDiff, not_false_eq_true, Nat.reduceLT, reduceCtorEq]
  show G z mJ7_fill_53178 (d) 0 0 20 [none, none, none, none] [] (mrow M 52 (J7_fill_53178_L601_5 (M.1 52) x1 (cN 601))) Q
  exact G.retv (by decide +kernel) rfl (Nat.le_of_ble_eq_true rfl) (Nat.le_of_ble_eq_true rfl) ((by rw [hQ]; simp only [J7_fill_53178_L601, mrow_self]))
set_option maxHeartbeats 4000000 in
set_option maxRecDepth 3000 in
theorem lp_s_leftAtWorst_49_12 (z : Zp) (d : Nat) (M : Mem) (Q : Rs → Prop) (n1 : Nat) (b1 : n1 < 8) : ∀ (k0 : Nat) (s2 : Int32) (s3 : Int32) (q52 : (Nat → Int32)), s_leftAtWorst_12_ok (M.1 7) (M.1 38) (M.1 49) (M.1 50) (M.1 51) n1 k0 s2 s3 q52 → (match s_leftAtWorst_12 (M.1 7) (M.1 38) (M.1 49) (M.1 50) (M.1 51) n1 k0 s2 s3 q52 with | (s2', s3', q52') => G z mX5_leftAtWorst (d + 1) 0 0 77 [none, none, some (.int (s2')), none, none] [] (mrow M 52 (q52')) Q) → G z mX5_leftAtWorst (d + 1) 0 0 12 [some (.ref 49), some (.int (nI n1)), some (.int s2), some (.int s3), none] [] (mrow M 52 q52) Q := by
  intro k0
  induction k0 with
  | zero =>
      intro s2 s3 q52 hk hX
      exact (by simpa only [s_leftAtWorst_12_ok] using hk : False).elim
  | succ k0 ih =>
      intro s2 s3 q52 hk hX
      simp only [s_leftAtWorst_12_ok] at hk
      refine G.sl [(.iload_n 3, 1, 3, 0, 0, 0), (.aload_n 0, 1, 0, 0, 0, 0), (.getfield 48, 3, 4, 0, 91, 0)] [] (pc2 := 17) (ls2 := [some (.ref 49), some (.int (nI n1)), some (.int s2), some (.int s3), none]) (st2 := [.int (M.1 49 0), .int s3]) (M2 := mrow M 52 q52) (Ps := []) (by decide +kernel) rfl rfl trivial ?_
      refine G.ic_ge (off := (60)) (tgt := 77) (by decide +kernel) rfl (fun c7 => ?_) (fun c7 => ?_)
      · skip
        rw [if_pos c7] at hk
        refine G.loc (ls2 := [none, none, some (.int s2), none, none]) (by simp [subL]) ?_
        simp only [s_leftAtWorst_12, if_pos c7] at hX
        exact hX
      · skip
        rw [if_neg c7] at hk
        obtain ⟨k8, k9, hk⟩ := hk
        refine G.sl [(.aload_n 0, 1, 0, 0, 0, 0), (.iload_n 1, 1, 1, 0, 0, 0), (.aload_n 0, 1, 0, 0, 0, 0), (.getfield 9, 3, 4, 1, 93, 0), (.iload_n 3, 1, 3, 0, 0, 0), (.iaload, 1, 0, 0, 0, 0)] [ix s3] (pc2 := 28) (ls2 := [some (.ref 49), some (.int (nI n1)), some (.int s2), some (.int s3), none]) (st2 := [.int (M.1 50 (ix s3)), .int (nI n1), .ref 49]) (M2 := mrow M 52 q52) (Ps := [s3 = nI (ix s3) ∧ (ix s3) < 80]) (by decide +kernel) rfl rfl ⟨⟨(ixE k8), k9⟩, trivial⟩ ?_
        obtain ⟨k10, hk⟩ := hk
        have t11 : GM z mX5_worthThen (d) [.ref 49, .int (nI n1), .int (M.1 50 (ix s3))] (mrow M 52 q52) (fun rs => rs = .inl (some (.int (s_worthThen (M.1 7) (M.1 38) (M.1 51) n1 (M.1 50 (ix s3)))), mrow M 52 q52)) := by
          have q9 := c_s_worthThen_49 z d (mrow M 52 q52) n1 (M.1 50 (ix s3)) (by omega) k10
          try simp only [mput, mrow_same, mrow_hit, mrow_miss, mrow_sw, idr_eq, ne_eq, Nat.reduceEqDiff, not_false_eq_true, Nat.reduceLT, reduceCtorEq] at q9
          exact q9
        refine G.callV (as := [.int (nI n1), .int (M.1 50 (ix s3))]) (rest := []) (a := 49) oX5_worthThen lk_EvenFinders_Search_63 (by decide +kernel) rfl rfl ⟨rfl, rfl⟩ (Nat.le_of_ble_eq_true rfl) rfl ⟨Nat.le_of_ble_eq_true rfl, Nat.le_of_ble_eq_true rfl⟩ t11 (fun v9 N9 h12 => ?_) (fun E9 N9 h12 => by cases h12)
        cases h12
        show G z mX5_leftAtWorst (d + 1) 0 0 31 [some (.ref 49), some (.int (nI n1)), some (.int s2), some (.int s3), none] [.int (s_worthThen (M.1 7) (M.1 38) (M.1 51) n1 (M.1 50 (ix s3)))] (mrow M 52 q52) Q
        refine G.sl [(.istore 4, 2, 4, 0, 0, 0), (.iload 4, 2, 4, 0, 0, 0)] [] (pc2 := 35) (ls2 := [some (.ref 49), some (.int (nI n1)), some (.int s2), some (.int s3), some (.int (s_worthThen (M.1 7) (M.1 38) (M.1 51) n1 (M.1 50 (ix s3))))]) (st2 := [.int (s_worthThen (M.1 7) (M.1 38) (M.1 51) n1 (M.1 50 (ix s3)))]) (M2 := mrow M 52 q52) (Ps := []) (by decide +kernel) rfl rfl trivial ?_
        refine G.if_lt (off := (36)) (tgt := 71) (by decide +kernel) rfl (fun c13 => ?_) (fun c13 => ?_)
        · skip
          rw [if_pos c13] at hk
          refine G.sl [(.iinc 3 1, 3, 3, 0, 0, nI 1), (.goto (-62), 3, 12, 0, 0, 0)] [] (pc2 := 12) (ls2 := [some (.ref 49), some (.int (nI n1)), some (.int s2), some (.int (s3 + nI 1)), some (.int (s_worthThen (M.1 7) (M.1 38) (M.1 51) n1 (M.1 50 (ix s3))))]) (st2 := []) (M2 := mrow M 52 q52) (Ps := []) (by decide +kernel) rfl rfl trivial ?_
          refine G.loc (ls2 := [some (.ref 49), some (.int (nI n1)), some (.int s2), some (.int (s3 + nI 1)), none]) (by simp [subL]) ?_
          simp only [s_leftAtWorst_12, if_neg c7, if_pos c13] at hX
          exact ih s2 (s3 + nI 1) q52 hk hX
        · skip
          rw [if_neg c13] at hk
          refine G.sl [(.iload 4, 2, 4, 0, 0, 0), (.aload_n 0, 1, 0, 0, 0, 0), (.getfield 18, 3, 4, 6, 99, 0), (.arraylength, 1, 0, 0, 0, 0)] [] (pc2 := 45) (ls2 := [some (.ref 49), some (.int (nI n1)), some (.int s2), some (.int s3), some (.int (s_worthThen (M.1 7) (M.1 38) (M.1 51) n1 (M.1 50 (ix s3))))]) (st2 := [.int (nI 601), .int (s_worthThen (M.1 7) (M.1 38) (M.1 51) n1 (M.1 50 (ix s3)))]) (M2 := mrow M 52 q52) (Ps := []) (by decide +kernel) rfl rfl trivial ?_
          refine G.ic_ge (off := (26)) (tgt := 71) (by decide +kernel) rfl (fun c14 => ?_) (fun c14 => ?_)
          · skip
            rw [if_pos c14] at hk
            refine G.sl [(.iinc 3 1, 3, 3, 0, 0, nI 1), (.goto (-62), 3, 12, 0, 0, 0)] [] (pc2 := 12) (ls2 := [some (.ref 49), some (.int (nI n1)), some (.int s2), some (.int (s3 + nI 1)), some (.int (s_worthThen (M.1 7) (M.1 38) (M.1 51) n1 (M.1 50 (ix s3))))]) (st2 := []) (M2 := mrow M 52 q52) (Ps := []) (by decide +kernel) rfl rfl trivial ?_
            refine G.loc (ls2 := [some (.ref 49), some (.int (nI n1)), some (.int s2), some (.int (s3 + nI 1)), none]) (by simp [subL]) ?_
            simp only [s_leftAtWorst_12, if_neg c7, if_neg c13, if_pos c14] at hX
            exact ih s2 (s3 + nI 1) q52 hk hX
          · skip
            rw [if_neg c14] at hk
            obtain ⟨k15, k16, hk⟩ := hk
            refine G.sl [(.aload_n 0, 1, 0, 0, 0, 0), (.getfield 18, 3, 4, 6, 99, 0), (.iload 4, 2, 4, 0, 0, 0), (.dup2, 1, 0, 0, 0, 0), (.iaload, 1, 0, 0, 0, 0), (.iconst 1, 1, 0, 0, 0, nI 1), (.iadd, 1, 0, 0, 0, 0), (.iastore, 1, 0, 0, 0, 0), (.iload_n 2, 1, 2, 0, 0, 0), (.aload_n 0, 1, 0, 0, 0, 0), (.getfield 18, 3, 4, 6, 99, 0), (.iload 4, 2, 4, 0, 0, 0), (.iaload, 1, 0, 0, 0, 0)] [ix (s_worthThen (M.1 7) (M.1 38) (M.1 51) n1 (M.1 50 (ix s3))), ix (s_worthThen (M.1 7) (M.1 38) (M.1 51) n1 (M.1 50 (ix s3))), ix (s_worthThen (M.1 7) (M.1 38) (M.1 51) n1 (M.1 50 (ix s3)))] (pc2 := 67) (ls2 := [some (.ref 49), some (.int (nI n1)), some (.int s2), some (.int s3), some (.int (s_worthThen (M.1 7) (M.1 38) (M.1 51) n1 (M.1 50 (ix s3))))]) (st2 := [.int ((upd q52 (ix (s_worthThen (M.1 7) (M.1 38) (M.1 51) n1 (M.1 50 (ix s3)))) ((q52 (ix (s_worthThen (M.1 7) (M.1 38) (M.1 51) n1 (M.1 50 (ix s3))))) + (nI 1))) (ix (s_worthThen (M.1 7) (M.1 38) (M.1 51) n1 (M.1 50 (ix s3))))), .int s2]) (M2 := mput (mrow M 52 q52) 52 (ix (s_worthThen (M.1 7) (M.1 38) (M.1 51) n1 (M.1 50 (ix s3)))) ((q52 (ix (s_worthThen (M.1 7) (M.1 38) (M.1 51) n1 (M.1 50 (ix s3))))) + (nI 1))) (Ps := [(s_worthThen (M.1 7) (M.1 38) (M.1 51) n1 (M.1 50 (ix s3))) = nI (ix (s_worthThen (M.1 7) (M.1 38) (M.1 51) n1 (M.1 50 (ix s3)))) ∧ (ix (s_worthThen (M.1 7) (M.1 38) (M.1 51) n1 (M.1 50 (ix s3)))) < 601, (s_worthThen (M.1 7) (M.1 38) (M.1 51) n1 (M.1 50 (ix s3))) = nI (ix (s_worthThen (M.1 7) (M.1 38) (M.1 51) n1 (M.1 50 (ix s3)))) ∧ (ix (s_worthThen (M.1 7) (M.1 38) (M.1 51) n1 (M.1 50 (ix s3)))) < 601, (s_worthThen (M.1 7) (M.1 38) (M.1 51) n1 (M.1 50 (ix s3))) = nI (ix (s_worthThen (M.1 7) (M.1 38) (M.1 51) n1 (M.1 50 (ix s3)))) ∧ (ix (s_worthThen (M.1 7) (M.1 38) (M.1 51) n1 (M.1 50 (ix s3)))) < 601]) (by decide +kernel) rfl rfl ⟨⟨(ixE k15), k16⟩, ⟨(ixE k15), k16⟩, ⟨(ixE k15), k16⟩, trivial⟩ ?_
            refine G.mem (M' := mrow M 52 (upd q52 (ix (s_worthThen (M.1 7) (M.1 38) (M.1 51) n1 (M.1 50 (ix s3)))) ((q52 (ix (s_worthThen (M.1 7) (M.1 38) (M.1 51) n1 (M.1 50 (ix s3))))) + (nI 1)))) (by first | rfl | (simp only [mput, mrow_same, mrow_hit, mrow_miss, mrow_sw, idr_eq, ne_eq, Nat.reduceEqDiff, not_false_eq_true, Nat.reduceLT, reduceCtorEq]; done)) ?_
            refine G.mmax lm_EvenFinders_Search_83 (by decide +kernel) (Nat.le_of_ble_eq_true rfl) (Nat.le_of_ble_eq_true rfl) (Nat.le_of_ble_eq_true rfl) ?_
            refine G.sl [(.istore_n 2, 1, 2, 0, 0, 0), (.iinc 3 1, 3, 3, 0, 0, nI 1), (.goto (-62), 3, 12, 0, 0, 0)] [] (pc2 := 12) (ls2 := [some (.ref 49), some (.int (nI n1)), some (.int (if s2 < ((upd q52 (ix (s_worthThen (M.1 7) (M.1 38) (M.1 51) n1 (M.1 50 (ix s3)))) ((q52 (ix (s_worthThen (M.1 7) (M.1 38) (M.1 51) n1 (M.1 50 (ix s3))))) + (nI 1))) (ix (s_worthThen (M.1 7) (M.1 38) (M.1 51) n1 (M.1 50 (ix s3))))) then ((upd q52 (ix (s_worthThen (M.1 7) (M.1 38) (M.1 51) n1 (M.1 50 (ix s3)))) ((q52 (ix (s_worthThen (M.1 7) (M.1 38) (M.1 51) n1 (M.1 50 (ix s3))))) + (nI 1))) (ix (s_worthThen (M.1 7) (M.1 38) (M.1 51) n1 (M.1 50 (ix s3))))) else s2)), some (.int (s3 + nI 1)), some (.int (s_worthThen (M.1 7) (M.1 38) (M.1 51) n1 (M.1 50 (ix s3))))]) (st2 := []) (M2 := mrow M 52 (upd q52 (ix (s_worthThen (M.1 7) (M.1 38) (M.1 51) n1 (M.1 50 (ix s3)))) ((q52 (ix (s_worthThen (M.1 7) (M.1 38) (M.1 51) n1 (M.1 50 (ix s3))))) + (nI 1)))) (Ps := []) (by decide +kernel) rfl rfl trivial ?_
            refine G.loc (ls2 := [some (.ref 49), some (.int (nI n1)), some (.int (if s2 < ((upd q52 (ix (s_worthThen (M.1 7) (M.1 38) (M.1 51) n1 (M.1 50 (ix s3)))) ((q52 (ix (s_worthThen (M.1 7) (M.1 38) (M.1 51) n1 (M.1 50 (ix s3))))) + (nI 1))) (ix (s_worthThen (M.1 7) (M.1 38) (M.1 51) n1 (M.1 50 (ix s3))))) then ((upd q52 (ix (s_worthThen (M.1 7) (M.1 38) (M.1 51) n1 (M.1 50 (ix s3)))) ((q52 (ix (s_worthThen (M.1 7) (M.1 38) (M.1 51) n1 (M.1 50 (ix s3))))) + (nI 1))) (ix (s_worthThen (M.1 7) (M.1 38) (M.1 51) n1 (M.1 50 (ix s3))))) else s2)), some (.int (s3 + nI 1)), none]) (by simp [subL]) ?_
            simp only [s_leftAtWorst_12, if_neg c7, if_neg c13, if_neg c14] at hX
            exact ih (if s2 < ((upd q52 (ix (s_worthThen (M.1 7) (M.1 38) (M.1 51) n1 (M.1 50 (ix s3)))) ((q52 (ix (s_worthThen (M.1 7) (M.1 38) (M.1 51) n1 (M.1 50 (ix s3))))) + (nI 1))) (ix (s_worthThen (M.1 7) (M.1 38) (M.1 51) n1 (M.1 50 (ix s3))))) then ((upd q52 (ix (s_worthThen (M.1 7) (M.1 38) (M.1 51) n1 (M.1 50 (ix s3)))) ((q52 (ix (s_worthThen (M.1 7) (M.1 38) (M.1 51) n1 (M.1 50 (ix s3))))) + (nI 1))) (ix (s_worthThen (M.1 7) (M.1 38) (M.1 51) n1 (M.1 50 (ix s3))))) else s2) (s3 + nI 1) (upd q52 (ix (s_worthThen (M.1 7) (M.1 38) (M.1 51) n1 (M.1 50 (ix s3)))) ((q52 (ix (s_worthThen (M.1 7) (M.1 38) (M.1 51) n1 (M.1 50 (ix s3))))) + (nI 1))) hk hX
set_option maxHeartbeats 4000000 in
set_option maxRecDepth 3000 in
theorem c_s_leftAtWorst_49 (z : Zp) (d : Nat) (M : Mem) (n1 : Nat) (b1 : n1 < 8) (hk : s_leftAtWorst_ok (M.1 7) (M.1 38) (M.1 49) (M.1 50) (M.1 51) (M.1 52) n1) : GM z mX5_leftAtWorst (d + 1) [.ref 49, .int (nI n1)] M (fun rs => rs = .inl (some (.int ((s_leftAtWorst (M.1 7) (M.1 38) (M.1 49) (M.1 50) (M.1 51) (M.1 52) n1).1)), mrow M 52 ((s_leftAtWorst (M.1 7) (M.1 38) (M.1 49) (M.1 50) (M.1 51) (M.1 52) n1).2))) := by
  simp only [s_leftAtWorst_ok] at hk
  refine GM.of oX5_leftAtWorst.1 (Nat.le_of_ble_eq_true rfl) ?_
  show G z mX5_leftAtWorst (d + 1) 0 0 0 [some (.ref 49), some (.int (nI n1)), none, none, none] [] M _
  obtain ⟨Q, hQ⟩ : ∃ Q : Rs → Prop, Q = (fun rs => rs = .inl (some (.int ((s_leftAtWorst (M.1 7) (M.1 38) (M.1 49) (M.1 50) (M.1 51) (M.1 52) n1).1)), mrow M 52 ((s_leftAtWorst (M.1 7) (M.1 38) (M.1 49) (M.1 50) (M.1 51) (M.1 52) n1).2))) := ⟨_, rfl⟩
  rw [← hQ]
  refine G.sl [(.aload_n 0, 1, 0, 0, 0, 0), (.getfield 18, 3, 4, 6, 99, 0), (.iconst 0, 1, 0, 0, 0, nI 0)] [] (pc2 := 5) (ls2 := [some (.ref 49), some (.int (nI n1)), none, none, none]) (st2 := [.int (nI 0), .ref 52]) (M2 := M) (Ps := []) (by decide +kernel) rfl rfl trivial ?_
  obtain ⟨k1, hk⟩ := hk
  rcases g2 : J7_fill_53178_L601 (M.1 52) (nI 0) with ⟨u3, r4⟩
  try simp only [g2] at hk
  have t5 : GM z mJ7_fill_53178 (d) [.ref 52, .int (nI 0)] M (fun rs => rs = .inl (none, mrow M 52 r4)) := by
    have q9 := c_J7_fill_53178_L601_52 z d M (nI 0)
    try simp only [mput, mrow_same, mrow_hit, mrow_miss, mrow_sw, idr_eq, ne_eq, Nat.reduceEqDiff, not_false_eq_true, Nat.reduceLT, reduceCtorEq, g2] at q9
    exact q9
  refine G.callS (as := [.ref 52, .int (nI 0)]) (rest := []) oJ7_fill_53178 lk_EvenFinders_Search_77 (by decide +kernel) rfl (Nat.le_of_ble_eq_true rfl) rfl ⟨Nat.le_of_ble_eq_true rfl, Nat.le_of_ble_eq_true rfl⟩ t5 (fun v9 N9 h6 => ?_) (fun E9 N9 h6 => by cases h6)
  cases h6
  show G z mX5_leftAtWorst (d + 1) 0 0 8 [some (.ref 49), some (.int (nI n1)), none, none, none] [] (mrow M 52 r4) Q
  refine G.sl [(.iconst 0, 1, 0, 0, 0, nI 0), (.istore_n 2, 1, 2, 0, 0, 0), (.iconst 0, 1, 0, 0, 0, nI 0), (.istore_n 3, 1, 3, 0, 0, 0)] [] (pc2 := 12) (ls2 := [some (.ref 49), some (.int (nI n1)), some (.int (nI 0)), some (.int (nI 0)), none]) (st2 := []) (M2 := mrow M 52 r4) (Ps := []) (by decide +kernel) rfl rfl trivial ?_
  obtain ⟨k17, hk⟩ := hk
  refine G.mem (M' := mrow (mrow M 52 r4) 52 ((mrow M 52 r4).1 52)) (by simp only [mrow_self]) ?_
  refine lp_s_leftAtWorst_49_12 z d (mrow M 52 r4) Q n1 (by omega) FU (nI 0) (nI 0) ((mrow M 52 r4).1 52) (by first | (simp only [mput, mrow_same, mrow_hit, mrow_miss, mrow_sw, idr_eq, ne_eq, Nat.reduceEqDiff, not_false_eq_true, Nat.reduceLT, reduceCtorEq]; exact k17) | exact k17) ?_
  try simp only [mput, mrow_same, mrow_hit, mrow_miss, mrow_sw, idr_eq, ne_eq, Nat.reduceEqDiff, not_false_eq_true, Nat.reduceLT, reduceCtorEq]
  rcases g18 : s_leftAtWorst_12 (M.1 7) (M.1 38) (M.1 49) (M.1 50) (M.1 51) n1 FU (nI 0) (nI 0) r4 with ⟨v19, v20, r21⟩
  show G z mX5_leftAtWorst (d + 1) 0 0 77 [none, none, some (.int v19), none, none] [] (mrow M 52 r21) Q
  refine G.sl [(.iload_n 2, 1, 2, 0, 0, 0)] [] (pc2 := 78) (ls2 := [none, none, some (.int v19), none, none]) (st2 := [.int v19]) (M2 := mrow M 52 r21) (Ps := []) (by decide +kernel) rfl rfl trivial ?_
  exact G.reti (by decide +kernel) rfl rfl (Nat.le_of_ble_eq_true rfl) (Nat.le_of_ble_eq_true rfl) ((by rw [hQ]; simp only [s_leftAtWorst, g2, g18, mrow_self]))
set_option maxHeartbeats 4000000 in
set_option maxRecDepth 3000 in
theorem lp_s_nextPlace_49_7 (z : Zp) (d : Nat) (M : Mem) (Q : Rs → Prop) (np : Nat) (hnp : np ≤ 8) (hp : M.1 3 0 = nI np) (hk : ∀ i3, i3 < np → s_nextPlace_7_ok (M.1 7) (M.1 30) (M.1 38) (M.1 49) (M.1 50) (M.1 51) (M.1 52) i3) (hX : G z mX5_nextPlace (d + 2) 0 0 55 [none, some (.int ((s_nextPlace_7 (M.1 7) (M.1 30) (M.1 38) (M.1 49) (M.1 50) (M.1 51) (M.1 52) np).1)), none, none, none] [] (mrow M 52 ((s_nextPlace_7 (M.1 7) (M.1 30) (M.1 38) (M.1 49) (M.1 50) (M.1 51) (M.1 52) np).2.2)) Q) : G z mX5_nextPlace (d + 2) 0 0 7 [some (.ref 49), some (.int ((-1))), some (.int (nI 1000000)), some (.int (nI 0)), none] [] M Q := by
  refine G.mem (M' := mrow M 52 (M.1 52)) (by simp only [mrow_self]) ?_
  refine down (n := np) (P := fun i3 => G z mX5_nextPlace (d + 2) 0 0 7 [some (.ref 49), some (.int ((s_nextPlace_7 (M.1 7) (M.1 30) (M.1 38) (M.1 49) (M.1 50) (M.1 51) (M.1 52) i3).1)), some (.int ((s_nextPlace_7 (M.1 7) (M.1 30) (M.1 38) (M.1 49) (M.1 50) (M.1 51) (M.1 52) i3).2.1)), some (.int (nI i3)), none] [] (mrow M 52 ((s_nextPlace_7 (M.1 7) (M.1 30) (M.1 38) (M.1 49) (M.1 50) (M.1 51) (M.1 52) i3).2.2)) Q) ?_ ?_ 0 (Nat.zero_le _)
  · skip
    refine G.sl [(.iload_n 3, 1, 3, 0, 0, 0), (.aload_n 0, 1, 0, 0, 0, 0), (.getfield 21, 3, 4, 2, 95, 0), (.getfield 33, 3, 6, 0, 15, 0)] [] (pc2 := 15) (ls2 := [some (.ref 49), some (.int ((s_nextPlace_7 (M.1 7) (M.1 30) (M.1 38) (M.1 49) (M.1 50) (M.1 51) (M.1 52) np).1)), some (.int ((s_nextPlace_7 (M.1 7) (M.1 30) (M.1 38) (M.1 49) (M.1 50) (M.1 51) (M.1 52) np).2.1)), some (.int (nI np)), none]) (st2 := [.int (M.1 3 0), .int (nI np)]) (M2 := mrow M 52 ((s_nextPlace_7 (M.1 7) (M.1 30) (M.1 38) (M.1 49) (M.1 50) (M.1 51) (M.1 52) np).2.2)) (Ps := []) (by decide +kernel) rfl rfl trivial ?_
    rw [hp]
    refine G.ic_ge (off := (40)) (tgt := 55) (by decide +kernel) rfl (fun _ => ?_) (fun h9 => absurd (nI_le (by omega) (by omega)) h9)
    refine G.loc (ls2 := [none, some (.int ((s_nextPlace_7 (M.1 7) (M.1 30) (M.1 38) (M.1 49) (M.1 50) (M.1 51) (M.1 52) np).1)), none, none, none]) (by simp [subL]) ?_
    exact hX
  · skip
    intro i3 hi ih
    have hk := hk i3 hi
    simp only [s_nextPlace_7_ok] at hk
    rcases g1 : s_nextPlace_7 (M.1 7) (M.1 30) (M.1 38) (M.1 49) (M.1 50) (M.1 51) (M.1 52) i3 with ⟨s1, s2, q52⟩
    try simp only [g1] at hk
    try simp only [g1]
    show G z mX5_nextPlace (d + 2) 0 0 7 [some (.ref 49), some (.int s1), some (.int s2), some (.int (nI i3)), none] [] (mrow M 52 q52) Q
    refine G.sl [(.iload_n 3, 1, 3, 0, 0, 0), (.aload_n 0, 1, 0, 0, 0, 0), (.getfield 21, 3, 4, 2, 95, 0), (.getfield 33, 3, 6, 0, 15, 0)] [] (pc2 := 15) (ls2 := [some (.ref 49), some (.int s1), some (.int s2), some (.int (nI i3)), none]) (st2 := [.int (M.1 3 0), .int (nI i3)]) (M2 := mrow M 52 q52) (Ps := []) (by decide +kernel) rfl rfl trivial ?_
    rw [hp]
    refine G.ic_ge (off := (40)) (tgt := 55) (by decide +kernel) rfl (fun h9 => absurd h9 (nI_ge (by omega) (by omega))) (fun _ => ?_)
    refine G.sl [(.aload_n 0, 1, 0, 0, 0, 0), (.getfield 29, 3, 4, 4, 97, 0), (.getfield 58, 3, 0, 1, 62, 0), (.iload_n 3, 1, 3, 0, 0, 0), (.iaload, 1, 0, 0, 0, 0), (.iconst (-1), 1, 0, 0, 0, (-1))] [i3] (pc2 := 28) (ls2 := [some (.ref 49), some (.int s1), some (.int s2), some (.int (nI i3)), none]) (st2 := [.int ((-1)), .int (M.1 30 i3)]) (M2 := mrow M 52 q52) (Ps := [(nI i3) = nI i3 ∧ i3 < 8]) (by decide +kernel) rfl rfl ⟨⟨rfl, (by omega)⟩, trivial⟩ ?_
    refine G.ic_ne (off := (21)) (tgt := 49) (by decide +kernel) rfl (fun c2 => ?_) (fun c2 => ?_)
    · skip
      rw [if_neg c2] at hk
      refine G.sl [(.iinc 3 1, 3, 3, 0, 0, nI 1), (.goto (-45), 3, 7, 0, 0, 0)] [] (pc2 := 7) (ls2 := [some (.ref 49), some (.int s1), some (.int s2), some (.int ((nI i3) + nI 1)), none]) (st2 := []) (M2 := mrow M 52 q52) (Ps := []) (by decide +kernel) rfl rfl trivial ?_
      rw [nI_add i3 1]
      simp only [s_nextPlace_7, g1, if_neg c2] at ih
      exact ih
    · skip
      rw [if_pos c2] at hk
      refine G.sl [(.aload_n 0, 1, 0, 0, 0, 0), (.iload_n 3, 1, 3, 0, 0, 0)] [] (pc2 := 33) (ls2 := [some (.ref 49), some (.int s1), some (.int s2), some (.int (nI i3)), none]) (st2 := [.int (nI i3), .ref 49]) (M2 := mrow M 52 q52) (Ps := []) (by decide +kernel) rfl rfl trivial ?_
      obtain ⟨k3, hk⟩ := hk
      rcases g4 : s_leftAtWorst (M.1 7) (M.1 38) (M.1 49) (M.1 50) (M.1 51) q52 i3 with ⟨v5, r6⟩
      have t7 : GM z mX5_leftAtWorst (d + 1) [.ref 49, .int (nI i3)] (mrow M 52 q52) (fun rs => rs = .inl (some (.int v5), mrow M 52 r6)) := by
        have q9 := c_s_leftAtWorst_49 z d (mrow M 52 q52) i3 (by omega) k3
        try simp only [mput, mrow_same, mrow_hit, mrow_miss, mrow_sw, idr_eq, ne_eq, Nat.reduceEqDiff, not_false_eq_true, Nat.reduceLT, reduceCtorEq, g4] at q9
        exact q9
      refine G.callV (as := [.int (nI i3)]) (rest := []) (a := 49) oX5_leftAtWorst lk_EvenFinders_Search_74 (by decide +kernel) rfl rfl ⟨rfl, rfl⟩ (Nat.le_of_ble_eq_true rfl) rfl ⟨Nat.le_of_ble_eq_true rfl, Nat.le_of_ble_eq_true rfl⟩ t7 (fun v9 N9 h8 => ?_) (fun E9 N9 h8 => by cases h8)
      cases h8
      show G z mX5_nextPlace (d + 2) 0 0 36 [some (.ref 49), some (.int s1), some (.int s2), some (.int (nI i3)), none] [.int v5] (mrow M 52 r6) Q
      refine G.sl [(.istore 4, 2, 4, 0, 0, 0), (.iload 4, 2, 4, 0, 0, 0), (.iload_n 2, 1, 2, 0, 0, 0)] [] (pc2 := 41) (ls2 := [some (.ref 49), some (.int s1), some (.int s2), some (.int (nI i3)), some (.int v5)]) (st2 := [.int s2, .int v5]) (M2 := mrow M 52 r6) (Ps := []) (by decide +kernel) rfl rfl trivial ?_
      refine G.ic_ge (off := (8)) (tgt := 49) (by decide +kernel) rfl (fun c9 => ?_) (fun c9 => ?_)
      · skip
        refine G.sl [(.iinc 3 1, 3, 3, 0, 0, nI 1), (.goto (-45), 3, 7, 0, 0, 0)] [] (pc2 := 7) (ls2 := [some (.ref 49), some (.int s1), some (.int s2), some (.int ((nI i3) + nI 1)), some (.int v5)]) (st2 := []) (M2 := mrow M 52 r6) (Ps := []) (by decide +kernel) rfl rfl trivial ?_
        refine G.loc (ls2 := [some (.ref 49), some (.int s1), some (.int s2), some (.int ((nI i3) + nI 1)), none]) (by simp [subL]) ?_
        rw [nI_add i3 1]
        simp only [s_nextPlace_7, g1, if_pos c2, g4, if_pos c9] at ih
        exact ih
      · skip
        refine G.sl [(.iload_n 3, 1, 3, 0, 0, 0), (.istore_n 1, 1, 1, 0, 0, 0), (.iload 4, 2, 4, 0, 0, 0), (.istore_n 2, 1, 2, 0, 0, 0), (.iinc 3 1, 3, 3, 0, 0, nI 1), (.goto (-45), 3, 7, 0, 0, 0)] [] (pc2 := 7) (ls2 := [some (.ref 49), some (.int (nI i3)), some (.int v5), some (.int ((nI i3) + nI 1)), some (.int v5)]) (st2 := []) (M2 := mrow M 52 r6) (Ps := []) (by decide +kernel) rfl rfl trivial ?_
        refine G.loc (ls2 := [some (.ref 49), some (.int (nI i3)), some (.int v5), some (.int ((nI i3) + nI 1)), none]) (by simp [subL]) ?_
        rw [nI_add i3 1]
        simp only [s_nextPlace_7, g1, if_pos c2, g4, if_neg c9] at ih
        exact ih
set_option maxHeartbeats 4000000 in
set_option maxRecDepth 3000 in
theorem c_s_nextPlace_49 (z : Zp) (d : Nat) (M : Mem) (np : Nat) (hnp : np ≤ 8) (hp : M.1 3 0 = nI np) (hk : s_nextPlace_ok (M.1 7) (M.1 30) (M.1 38) (M.1 49) (M.1 50) (M.1 51) (M.1 52) np) : GM z mX5_nextPlace (d + 2) [.ref 49] M (fun rs => rs = .inl (some (.int ((s_nextPlace (M.1 7) (M.1 30) (M.1 38) (M.1 49) (M.1 50) (M.1 51) (M.1 52) np).1)), mrow M 52 ((s_nextPlace (M.1 7) (M.1 30) (M.1 38) (M.1 49) (M.1 50) (M.1 51) (M.1 52) np).2))) := by
  simp only [s_nextPlace_ok] at hk
  refine GM.of oX5_nextPlace.1 (Nat.le_of_ble_eq_true rfl) ?_
  show G z mX5_nextPlace (d + 2) 0 0 0 [some (.ref 49), none, none, none, none] [] M _
  obtain ⟨Q, hQ⟩ : ∃ Q : Rs → Prop, Q = (fun rs => rs = .inl (some (.int ((s_nextPlace (M.1 7) (M.1 30) (M.1 38) (M.1 49) (M.1 50) (M.1 51) (M.1 52) np).1)), mrow M 52 ((s_nextPlace (M.1 7) (M.1 30) (M.1 38) (M.1 49) (M.1 50) (M.1 51) (M.1 52) np).2))) := ⟨_, rfl⟩
  rw [← hQ]
  refine G.sl [(.iconst (-1), 1, 0, 0, 0, (-1)), (.istore_n 1, 1, 1, 0, 0, 0), (.ldc 73, 2, 0, 0, 5, nI 1000000), (.istore_n 2, 1, 2, 0, 0, 0), (.iconst 0, 1, 0, 0, 0, nI 0), (.istore_n 3, 1, 3, 0, 0, 0)] [] (pc2 := 7) (ls2 := [some (.ref 49), some (.int ((-1))), some (.int (nI 1000000)), some (.int (nI 0)), none]) (st2 := []) (M2 := M) (Ps := []) (by decide +kernel) rfl rfl trivial ?_
  obtain ⟨k10, hk⟩ := hk
  refine lp_s_nextPlace_49_7 z d M Q np hnp hp (by first | (simp only [mput, mrow_same, mrow_hit, mrow_miss, mrow_sw, idr_eq, ne_eq, Nat.reduceEqDiff, not_false_eq_true, Nat.reduceLT, reduceCtorEq]; exact k10) | exact k10) ?_
  try simp only [mput, mrow_same, mrow_hit, mrow_miss, mrow_sw, idr_eq, ne_eq, Nat.reduceEqDiff, not_false_eq_true, Nat.reduceLT, reduceCtorEq]
  rcases g11 : s_nextPlace_7 (M.1 7) (M.1 30) (M.1 38) (M.1 49) (M.1 50) (M.1 51) (M.1 52) np with ⟨v12, v13, r14⟩
  show G z mX5_nextPlace (d + 2) 0 0 55 [none, some (.int v12), none, none, none] [] (mrow M 52 r14) Q
  refine G.sl [(.iload_n 1, 1, 1, 0, 0, 0)] [] (pc2 := 56) (ls2 := [none, some (.int v12), none, none, none]) (st2 := [.int v12]) (M2 := mrow M 52 r14) (Ps := []) (by decide +kernel) rfl rfl trivial ?_
  exact G.reti (by decide +kernel) rfl rfl (Nat.le_of_ble_eq_true rfl) (Nat.le_of_ble_eq_true rfl) ((by rw [hQ]; simp only [s_nextPlace, g11, mrow_self]))
set_option maxHeartbeats 4000000 in
set_option maxRecDepth 3000 in
theorem lp_o_choose_12 (z : Zp) (d : Nat) (M : Mem) (Q : Rs → Prop) (x0 : Int32) (x1 : Int32) : ∀ (k0 : Nat) (s2 : Int64) (s4 : Int32), o_choose_12_ok x0 x1 k0 s2 s4 → (match o_choose_12 x0 x1 k0 s2 s4 with | (s2', s4') => G z mX4_choose (d) 0 0 38 [none, none, some (.long (s2')), none, none] [] M Q) → G z mX4_choose (d) 0 0 12 [some (.int x0), some (.int x1), some (.long s2), none, some (.int s4)] [] M Q := by
  intro k0
  induction k0 with
  | zero =>
      intro s2 s4 hk hX
      exact (by simpa only [o_choose_12_ok] using hk : False).elim
  | succ k0 ih =>
      intro s2 s4 hk hX
      simp only [o_choose_12_ok] at hk
      refine G.sl [(.iload 4, 2, 4, 0, 0, 0), (.iload_n 1, 1, 1, 0, 0, 0)] [] (pc2 := 15) (ls2 := [some (.int x0), some (.int x1), some (.long s2), none, some (.int s4)]) (st2 := [.int x1, .int s4]) (M2 := M) (Ps := []) (by decide +kernel) rfl rfl trivial ?_
      refine G.ic_gt (off := (23)) (tgt := 38) (by decide +kernel) rfl (fun c2 => ?_) (fun c2 => ?_)
      · skip
        rw [if_pos c2] at hk
        refine G.loc (ls2 := [none, none, some (.long s2), none, none]) (by simp [subL]) ?_
        simp only [o_choose_12, if_pos c2] at hX
        exact hX
      · skip
        rw [if_neg c2] at hk
        obtain ⟨k3, hk⟩ := hk
        refine G.sl [(.lload_n 2, 1, 2, 0, 0, 0), (.iload_n 0, 1, 0, 0, 0, 0), (.iload_n 1, 1, 1, 0, 0, 0), (.isub, 1, 0, 0, 0, 0), (.iload 4, 2, 4, 0, 0, 0), (.iadd, 1, 0, 0, 0, 0), (.i2l, 1, 0, 0, 0, 0), (.lmul, 1, 0, 0, 0, 0), (.iload 4, 2, 4, 0, 0, 0), (.i2l, 1, 0, 0, 0, 0), (.ldiv, 1, 0, 0, 0, 0), (.lstore_n 2, 1, 2, 0, 0, 0), (.iinc 4 1, 3, 4, 0, 0, nI 1), (.goto (-23), 3, 12, 0, 0, 0)] [] (pc2 := 12) (ls2 := [some (.int x0), some (.int x1), some (.long ((s2 * (((x0 - x1) + s4).toInt64)) / s4.toInt64)), none, some (.int (s4 + nI 1))]) (st2 := []) (M2 := M) (Ps := [¬ s4.toInt64 = 0]) (by decide +kernel) rfl rfl ⟨k3, trivial⟩ ?_
        simp only [o_choose_12, if_neg c2] at hX
        exact ih ((s2 * (((x0 - x1) + s4).toInt64)) / s4.toInt64) (s4 + nI 1) hk hX
set_option maxHeartbeats 4000000 in
set_option maxRecDepth 3000 in
theorem c_o_choose (z : Zp) (d : Nat) (M : Mem) (x0 : Int32) (x1 : Int32) (hk : o_choose_ok x0 x1) : GM z mX4_choose (d) [.int x0, .int x1] M (fun rs => rs = .inl (some (.long (o_choose x0 x1)), M)) := by
  simp only [o_choose_ok] at hk
  refine GM.of oX4_choose.1 (Nat.le_of_ble_eq_true rfl) ?_
  show G z mX4_choose (d) 0 0 0 [some (.int x0), some (.int x1), none, none, none] [] M _
  obtain ⟨Q, hQ⟩ : ∃ Q : Rs → Prop, Q = (fun rs => rs = .inl (some (.long (o_choose x0 x1)), M)) := ⟨_, rfl⟩
  rw [← hQ]
  refine G.sl [(.iload_n 1, 1, 1, 0, 0, 0), (.iload_n 0, 1, 0, 0, 0, 0)] [] (pc2 := 2) (ls2 := [some (.int x0), some (.int x1), none, none, none]) (st2 := [.int x0, .int x1]) (M2 := M) (Ps := []) (by decide +kernel) rfl rfl trivial ?_
  refine G.ic_le (off := (5)) (tgt := 7) (by decide +kernel) rfl (fun c1 => ?_) (fun c1 => ?_)
  · skip
    rw [if_pos c1] at hk
    refine G.sl [(.lconst 1, 1, 1, 0, 0, 0), (.lstore_n 2, 1, 2, 0, 0, 0), (.iconst 1, 1, 0, 0, 0, nI 1), (.istore 4, 2, 4, 0, 0, 0)] [] (pc2 := 12) (ls2 := [some (.int x0), some (.int x1), some (.long 1), none, some (.int (nI 1))]) (st2 := []) (M2 := M) (Ps := []) (by decide +kernel) rfl rfl trivial ?_
    obtain ⟨k4, hk⟩ := hk
    refine lp_o_choose_12 z d M Q x0 x1 FU 1 (nI 1) (by first | (simp only [mput, mrow_same, mrow_hit, mrow_miss, mrow_sw, idr_eq, ne_eq, Nat.reduceEqDiff, not_false_eq_true, Nat.reduceLT, reduceCtorEq]; exact k4) | exact k4) ?_
    try simp only [mput, mrow_same, mrow_hit, mrow_miss, mrow_sw, idr_eq, ne_eq, Nat.reduceEqDiff, not_false_eq_true, Nat.reduceLT, reduceCtorEq]
    rcases g5 : o_choose_12 x0 x1 FU 1 (nI 1) with ⟨v6, v7⟩
    show G z mX4_choose (d) 0 0 38 [none, none, some (.long v6), none, none] [] M Q
    refine G.sl [(.lload_n 2, 1, 2, 0, 0, 0)] [] (pc2 := 39) (ls2 := [none, none, some (.long v6), none, none]) (st2 := [.long v6]) (M2 := M) (Ps := []) (by decide +kernel) rfl rfl trivial ?_
    exact G.retl (by decide +kernel) rfl (Nat.le_of_ble_eq_true rfl) (Nat.le_of_ble_eq_true rfl) ((by rw [hQ]; simp only [o_choose, if_pos c1, g5, mrow_self]))
  · skip
    rw [if_neg c1] at hk
    refine G.sl [(.lconst 0, 1, 0, 0, 0, 0)] [] (pc2 := 6) (ls2 := [some (.int x0), some (.int x1), none, none, none]) (st2 := [.long 0]) (M2 := M) (Ps := []) (by decide +kernel) rfl rfl trivial ?_
    exact G.retl (by decide +kernel) rfl (Nat.le_of_ble_eq_true rfl) (Nat.le_of_ble_eq_true rfl) ((by rw [hQ]; simp only [o_choose, if_neg c1, mrow_self]))
set_option maxHeartbeats 4000000 in
set_option maxRecDepth 3000 in
theorem lp_o_commonPart_9 (z : Zp) (d : Nat) (M : Mem) (Q : Rs → Prop) (nn : Nat) (hnn : nn = 100) : ∀ (k0 : Nat) (i8 : Nat) (s4 : Int64) (s6 : Int64), i8 + k0 = nn → o_commonPart_9_ok  k0 i8 s4 s6 → (match o_commonPart_9  k0 i8 s4 s6 with | (s4', s6') => G z mX4_commonPart (d) 0 0 44 [none, none, none, none, some (.long (s4')), none, none, none, none, none, none] [] M Q) → G z mX4_commonPart (d) 0 0 9 [none, none, none, none, some (.long s4), none, some (.long s6), none, some (.int (nI i8)), none, none] [] M Q := by
  intro k0
  induction k0 with
  | zero =>
      intro i8 s4 s6 hn hk hX
      refine G.sl [(.iload 8, 2, 8, 0, 0, 0), (.bipush 100, 2, 0, 0, 0, nI 100)] [] (pc2 := 13) (ls2 := [none, none, none, none, some (.long s4), none, some (.long s6), none, some (.int (nI i8)), none, none]) (st2 := [.int (nI 100), .int (nI i8)]) (M2 := M) (Ps := []) (by decide +kernel) rfl rfl trivial ?_
      refine G.ic_ge (off := (31)) (tgt := 44) (by decide +kernel) rfl (fun _ => ?_) (fun h9 => absurd (nI_le (by omega) (by omega)) h9)
      refine G.loc (ls2 := [none, none, none, none, some (.long s4), none, none, none, none, none, none]) (by simp [subL]) ?_
      simp only [o_commonPart_9] at hX
      exact hX
  | succ k0 ih =>
      intro i8 s4 s6 hn hk hX
      simp only [o_commonPart_9_ok] at hk
      refine G.sl [(.iload 8, 2, 8, 0, 0, 0), (.bipush 100, 2, 0, 0, 0, nI 100)] [] (pc2 := 13) (ls2 := [none, none, none, none, some (.long s4), none, some (.long s6), none, some (.int (nI i8)), none, none]) (st2 := [.int (nI 100), .int (nI i8)]) (M2 := M) (Ps := []) (by decide +kernel) rfl rfl trivial ?_
      refine G.ic_ge (off := (31)) (tgt := 44) (by decide +kernel) rfl (fun h9 => absurd h9 (nI_ge (by omega) (by omega))) (fun _ => ?_)
      refine G.sl [(.lload 6, 2, 6, 0, 0, 0), (.lconst 0, 1, 0, 0, 0, 0), (.lcmp, 1, 0, 0, 0, 0)] [] (pc2 := 20) (ls2 := [none, none, none, none, some (.long s4), none, some (.long s6), none, some (.int (nI i8)), none, none]) (st2 := [.int (lg_cmp s6 0)]) (M2 := M) (Ps := []) (by decide +kernel) rfl rfl trivial ?_
      refine G.if_eq (off := (24)) (tgt := 44) (by decide +kernel) rfl (fun c1 => ?_) (fun c1 => ?_)
      · skip
        rw [if_pos c1] at hk
        refine G.loc (ls2 := [none, none, none, none, some (.long s4), none, none, none, none, none, none]) (by simp [subL]) ?_
        simp only [o_commonPart_9, if_pos c1] at hX
        exact hX
      · skip
        rw [if_neg c1] at hk
        obtain ⟨k2, hk⟩ := hk
        refine G.sl [(.lload 4, 2, 4, 0, 0, 0), (.lload 6, 2, 6, 0, 0, 0), (.lrem, 1, 0, 0, 0, 0), (.lstore 9, 2, 9, 0, 0, 0), (.lload 6, 2, 6, 0, 0, 0), (.lstore 4, 2, 4, 0, 0, 0), (.lload 9, 2, 9, 0, 0, 0), (.lstore 6, 2, 6, 0, 0, 0), (.iinc 8 1, 3, 8, 0, 0, nI 1), (.goto (-32), 3, 9, 0, 0, 0)] [] (pc2 := 9) (ls2 := [none, none, none, none, some (.long s6), none, some (.long (s4 - s4 / s6 * s6)), none, some (.int ((nI i8) + nI 1)), some (.long (s4 - s4 / s6 * s6)), none]) (st2 := []) (M2 := M) (Ps := [¬ s6 = 0]) (by decide +kernel) rfl rfl ⟨k2, trivial⟩ ?_
        refine G.loc (ls2 := [none, none, none, none, some (.long s6), none, some (.long (s4 - s4 / s6 * s6)), none, some (.int ((nI i8) + nI 1)), none, none]) (by simp [subL]) ?_
        rw [nI_add i8 1]
        simp only [o_commonPart_9, if_neg c1] at hX
        exact ih (i8 + 1) s6 (s4 - s4 / s6 * s6) (by omega) hk hX
set_option maxHeartbeats 4000000 in
set_option maxRecDepth 3000 in
theorem c_o_commonPart (z : Zp) (d : Nat) (M : Mem) (x0 : Int64) (x2 : Int64) (hk : o_commonPart_ok x0 x2) : GM z mX4_commonPart (d) [.long x0, .long x2] M (fun rs => rs = .inl (some (.long (o_commonPart x0 x2)), M)) := by
  simp only [o_commonPart_ok] at hk
  refine GM.of oX4_commonPart.1 (Nat.le_of_ble_eq_true rfl) ?_
  show G z mX4_commonPart (d) 0 0 0 [some (.long x0), none, some (.long x2), none, none, none, none, none, none, none, none] [] M _
  obtain ⟨Q, hQ⟩ : ∃ Q : Rs → Prop, Q = (fun rs => rs = .inl (some (.long (o_commonPart x0 x2)), M)) := ⟨_, rfl⟩
  rw [← hQ]
  refine G.sl [(.lload_n 0, 1, 0, 0, 0, 0), (.lstore 4, 2, 4, 0, 0, 0), (.lload_n 2, 1, 2, 0, 0, 0), (.lstore 6, 2, 6, 0, 0, 0), (.iconst 0, 1, 0, 0, 0, nI 0), (.istore 8, 2, 8, 0, 0, 0)] [] (pc2 := 9) (ls2 := [some (.long x0), none, some (.long x2), none, some (.long x0), none, some (.long x2), none, some (.int (nI 0)), none, none]) (st2 := []) (M2 := M) (Ps := []) (by decide +kernel) rfl rfl trivial ?_
  refine G.loc (ls2 := [none, none, none, none, some (.long x0), none, some (.long x2), none, some (.int (nI 0)), none, none]) (by simp [subL]) ?_
  obtain ⟨k3, hk⟩ := hk
  refine lp_o_commonPart_9 z d M Q (cN 100) (cN_eq 100) (cN 100) 0 x0 x2 (Nat.zero_add _) (by first | (simp only [mput, mrow_same, mrow_hit, mrow_miss, mrow_sw, idr_eq, ne_eq, Nat.reduceEqDiff, not_false_eq_true, Nat.reduceLT, reduceCtorEq]; exact k3) | exact k3) ?_
  try simp only [mput, mrow_same, mrow_hit, mrow_miss, mrow_sw, idr_eq, ne_eq, Nat.reduceEqDiff, not_false_eq_true, Nat.reduceLT, reduceCtorEq]
  rcases g4 : o_commonPart_9 (cN 100) 0 x0 x2 with ⟨v5, v6⟩
  show G z mX4_commonPart (d) 0 0 44 [none, none, none, none, some (.long v5), none, none, none, none, none, none] [] M Q
  refine G.sl [(.lload 4, 2, 4, 0, 0, 0)] [] (pc2 := 46) (ls2 := [none, none, none, none, some (.long v5), none, none, none, none, none, none]) (st2 := [.long v5]) (M2 := M) (Ps := []) (by decide +kernel) rfl rfl trivial ?_
  exact G.retl (by decide +kernel) rfl (Nat.le_of_ble_eq_true rfl) (Nat.le_of_ble_eq_true rfl) ((by rw [hQ]; simp only [o_commonPart, g4, mrow_self]))
set_option maxHeartbeats 4000000 in
set_option maxRecDepth 3000 in
theorem c_o_bentPart (z : Zp) (d : Nat) (M : Mem) (x0 : Int32) (x1 : Int32) (x2 : Int32) (x3 : Int32) (hk : o_bentPart_ok x0 x1 x2 x3) : GM z mX4_bentPart (d + 1) [.int x0, .int x1, .int x2, .int x3] M (fun rs => rs = .inl (some (.long (o_bentPart x0 x1 x2 x3)), M)) := by
  simp only [o_bentPart_ok] at hk
  refine GM.of oX4_bentPart.1 (Nat.le_of_ble_eq_true rfl) ?_
  show G z mX4_bentPart (d + 1) 0 0 0 [some (.int x0), some (.int x1), some (.int x2), some (.int x3), none, none, none, none, none, none] [] M _
  obtain ⟨Q, hQ⟩ : ∃ Q : Rs → Prop, Q = (fun rs => rs = .inl (some (.long (o_bentPart x0 x1 x2 x3)), M)) := ⟨_, rfl⟩
  rw [← hQ]
  refine G.sl [(.iload_n 0, 1, 0, 0, 0, 0), (.iload_n 2, 1, 2, 0, 0, 0)] [] (pc2 := 2) (ls2 := [some (.int x0), some (.int x1), some (.int x2), some (.int x3), none, none, none, none, none, none]) (st2 := [.int x2, .int x0]) (M2 := M) (Ps := []) (by decide +kernel) rfl rfl trivial ?_
  obtain ⟨k1, hk⟩ := hk
  have t2 : GM z mX4_choose (d) [.int x0, .int x2] M (fun rs => rs = .inl (some (.long (o_choose x0 x2)), M)) := by
    have q9 := c_o_choose z d M x0 x2 k1
    try simp only [mput, mrow_same, mrow_hit, mrow_miss, mrow_sw, idr_eq, ne_eq, Nat.reduceEqDiff, not_false_eq_true, Nat.reduceLT, reduceCtorEq] at q9
    exact q9
  refine G.callS (as := [.int x0, .int x2]) (rest := []) oX4_choose lk_EvenFinders_Odds_9 (by decide +kernel) rfl (Nat.le_of_ble_eq_true rfl) rfl ⟨Nat.le_of_ble_eq_true rfl, Nat.le_of_ble_eq_true rfl⟩ t2 (fun v9 N9 h3 => ?_) (fun E9 N9 h3 => by cases h3)
  cases h3
  show G z mX4_bentPart (d + 1) 0 0 5 [some (.int x0), some (.int x1), some (.int x2), some (.int x3), none, none, none, none, none, none] [.long (o_choose x0 x2)] M Q
  refine G.sl [(.lstore 4, 2, 4, 0, 0, 0), (.lload 4, 2, 4, 0, 0, 0), (.iload_n 0, 1, 0, 0, 0, 0), (.iload_n 1, 1, 1, 0, 0, 0), (.isub, 1, 0, 0, 0, 0), (.iload_n 2, 1, 2, 0, 0, 0)] [] (pc2 := 13) (ls2 := [some (.int x0), some (.int x1), some (.int x2), some (.int x3), some (.long (o_choose x0 x2)), none, none, none, none, none]) (st2 := [.int x2, .int (x0 - x1), .long (o_choose x0 x2)]) (M2 := M) (Ps := []) (by decide +kernel) rfl rfl trivial ?_
  obtain ⟨k4, hk⟩ := hk
  have t5 : GM z mX4_choose (d) [.int (x0 - x1), .int x2] M (fun rs => rs = .inl (some (.long (o_choose (x0 - x1) x2)), M)) := by
    have q9 := c_o_choose z d M (x0 - x1) x2 k4
    try simp only [mput, mrow_same, mrow_hit, mrow_miss, mrow_sw, idr_eq, ne_eq, Nat.reduceEqDiff, not_false_eq_true, Nat.reduceLT, reduceCtorEq] at q9
    exact q9
  refine G.callS (as := [.int (x0 - x1), .int x2]) (rest := [.long (o_choose x0 x2)]) oX4_choose lk_EvenFinders_Odds_9 (by decide +kernel) rfl (Nat.le_of_ble_eq_true rfl) rfl ⟨Nat.le_of_ble_eq_true rfl, Nat.le_of_ble_eq_true rfl⟩ t5 (fun v9 N9 h6 => ?_) (fun E9 N9 h6 => by cases h6)
  cases h6
  show G z mX4_bentPart (d + 1) 0 0 16 [some (.int x0), some (.int x1), some (.int x2), some (.int x3), some (.long (o_choose x0 x2)), none, none, none, none, none] [.long (o_choose (x0 - x1) x2), .long (o_choose x0 x2)] M Q
  refine G.sl [(.lsub, 1, 0, 0, 0, 0), (.lstore 6, 2, 6, 0, 0, 0), (.lload 6, 2, 6, 0, 0, 0), (.lload 4, 2, 4, 0, 0, 0)] [] (pc2 := 23) (ls2 := [some (.int x0), some (.int x1), some (.int x2), some (.int x3), some (.long (o_choose x0 x2)), none, some (.long ((o_choose x0 x2) - (o_choose (x0 - x1) x2))), none, none, none]) (st2 := [.long (o_choose x0 x2), .long ((o_choose x0 x2) - (o_choose (x0 - x1) x2))]) (M2 := M) (Ps := []) (by decide +kernel) rfl rfl trivial ?_
  obtain ⟨k7, hk⟩ := hk
  have t8 : GM z mX4_commonPart (d) [.long ((o_choose x0 x2) - (o_choose (x0 - x1) x2)), .long (o_choose x0 x2)] M (fun rs => rs = .inl (some (.long (o_commonPart ((o_choose x0 x2) - (o_choose (x0 - x1) x2)) (o_choose x0 x2))), M)) := by
    have q9 := c_o_commonPart z d M ((o_choose x0 x2) - (o_choose (x0 - x1) x2)) (o_choose x0 x2) k7
    try simp only [mput, mrow_same, mrow_hit, mrow_miss, mrow_sw, idr_eq, ne_eq, Nat.reduceEqDiff, not_false_eq_true, Nat.reduceLT, reduceCtorEq] at q9
    exact q9
  refine G.callS (as := [.long ((o_choose x0 x2) - (o_choose (x0 - x1) x2)), .long (o_choose x0 x2)]) (rest := []) oX4_commonPart lk_EvenFinders_Odds_15 (by decide +kernel) rfl (Nat.le_of_ble_eq_true rfl) rfl ⟨Nat.le_of_ble_eq_true rfl, Nat.le_of_ble_eq_true rfl⟩ t8 (fun v9 N9 h9 => ?_) (fun E9 N9 h9 => by cases h9)
  cases h9
  show G z mX4_bentPart (d + 1) 0 0 26 [some (.int x0), some (.int x1), some (.int x2), some (.int x3), some (.long (o_choose x0 x2)), none, some (.long ((o_choose x0 x2) - (o_choose (x0 - x1) x2))), none, none, none] [.long (o_commonPart ((o_choose x0 x2) - (o_choose (x0 - x1) x2)) (o_choose x0 x2))] M Q
  refine G.sl [(.lstore 8, 2, 8, 0, 0, 0), (.lload 8, 2, 8, 0, 0, 0), (.lconst 0, 1, 0, 0, 0, 0), (.lcmp, 1, 0, 0, 0, 0)] [] (pc2 := 32) (ls2 := [some (.int x0), some (.int x1), some (.int x2), some (.int x3), some (.long (o_choose x0 x2)), none, some (.long ((o_choose x0 x2) - (o_choose (x0 - x1) x2))), none, some (.long (o_commonPart ((o_choose x0 x2) - (o_choose (x0 - x1) x2)) (o_choose x0 x2))), none]) (st2 := [.int (lg_cmp (o_commonPart ((o_choose x0 x2) - (o_choose (x0 - x1) x2)) (o_choose x0 x2)) 0)]) (M2 := M) (Ps := []) (by decide +kernel) rfl rfl trivial ?_
  refine G.if_ne (off := (6)) (tgt := 38) (by decide +kernel) rfl (fun c10 => ?_) (fun c10 => ?_)
  · skip
    rw [if_neg c10] at hk
    refine G.sl [(.iload_n 3, 1, 3, 0, 0, 0)] [] (pc2 := 39) (ls2 := [some (.int x0), some (.int x1), some (.int x2), some (.int x3), some (.long (o_choose x0 x2)), none, some (.long ((o_choose x0 x2) - (o_choose (x0 - x1) x2))), none, some (.long (o_commonPart ((o_choose x0 x2) - (o_choose (x0 - x1) x2)) (o_choose x0 x2))), none]) (st2 := [.int x3]) (M2 := M) (Ps := []) (by decide +kernel) rfl rfl trivial ?_
    refine G.if_ne (off := (8)) (tgt := 47) (by decide +kernel) rfl (fun c11 => ?_) (fun c11 => ?_)
    · skip
      rw [if_neg c11] at hk
      obtain ⟨k12, hk⟩ := hk
      refine G.sl [(.lload 4, 2, 4, 0, 0, 0), (.lload 8, 2, 8, 0, 0, 0), (.ldiv, 1, 0, 0, 0, 0)] [] (pc2 := 52) (ls2 := [some (.int x0), some (.int x1), some (.int x2), some (.int x3), some (.long (o_choose x0 x2)), none, some (.long ((o_choose x0 x2) - (o_choose (x0 - x1) x2))), none, some (.long (o_commonPart ((o_choose x0 x2) - (o_choose (x0 - x1) x2)) (o_choose x0 x2))), none]) (st2 := [.long ((o_choose x0 x2) / (o_commonPart ((o_choose x0 x2) - (o_choose (x0 - x1) x2)) (o_choose x0 x2)))]) (M2 := M) (Ps := [¬ (o_commonPart ((o_choose x0 x2) - (o_choose (x0 - x1) x2)) (o_choose x0 x2)) = 0]) (by decide +kernel) rfl rfl ⟨k12, trivial⟩ ?_
      exact G.retl (by decide +kernel) rfl (Nat.le_of_ble_eq_true rfl) (Nat.le_of_ble_eq_true rfl) ((by rw [hQ]; simp only [o_bentPart, if_neg c10, if_neg c11, mrow_self]))
    · skip
      rw [if_pos c11] at hk
      obtain ⟨k13, hk⟩ := hk
      refine G.sl [(.lload 6, 2, 6, 0, 0, 0), (.goto 5, 3, 49, 0, 0, 0), (.lload 8, 2, 8, 0, 0, 0), (.ldiv, 1, 0, 0, 0, 0)] [] (pc2 := 52) (ls2 := [some (.int x0), some (.int x1), some (.int x2), some (.int x3), some (.long (o_choose x0 x2)), none, some (.long ((o_choose x0 x2) - (o_choose (x0 - x1) x2))), none, some (.long (o_commonPart ((o_choose x0 x2) - (o_choose (x0 - x1) x2)) (o_choose x0 x2))), none]) (st2 := [.long (((o_choose x0 x2) - (o_choose (x0 - x1) x2)) / (o_commonPart ((o_choose x0 x2) - (o_choose (x0 - x1) x2)) (o_choose x0 x2)))]) (M2 := M) (Ps := [¬ (o_commonPart ((o_choose x0 x2) - (o_choose (x0 - x1) x2)) (o_choose x0 x2)) = 0]) (by decide +kernel) rfl rfl ⟨k13, trivial⟩ ?_
      exact G.retl (by decide +kernel) rfl (Nat.le_of_ble_eq_true rfl) (Nat.le_of_ble_eq_true rfl) ((by rw [hQ]; simp only [o_bentPart, if_neg c10, if_pos c11, mrow_self]))
  · skip
    rw [if_pos c10] at hk
    refine G.sl [(.iload_n 3, 1, 3, 0, 0, 0), (.i2l, 1, 0, 0, 0, 0)] [] (pc2 := 37) (ls2 := [some (.int x0), some (.int x1), some (.int x2), some (.int x3), some (.long (o_choose x0 x2)), none, some (.long ((o_choose x0 x2) - (o_choose (x0 - x1) x2))), none, some (.long (o_commonPart ((o_choose x0 x2) - (o_choose (x0 - x1) x2)) (o_choose x0 x2))), none]) (st2 := [.long x3.toInt64]) (M2 := M) (Ps := []) (by decide +kernel) rfl rfl trivial ?_
    exact G.retl (by decide +kernel) rfl (Nat.le_of_ble_eq_true rfl) (Nat.le_of_ble_eq_true rfl) ((by rw [hQ]; simp only [o_bentPart, if_pos c10, mrow_self]))
