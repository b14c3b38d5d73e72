set_option maxHeartbeats 4000000 in
set_option maxRecDepth 3000 in
theorem c_k_can_54 (z : Zp) (d : Nat) (M : Mem) (x1 : Int32) (x2 : Int32) (nf : Nat) (hnf : nf ≤ 6) (cf : M.1 54 23 = nI nf) (hk : k_can_ok (M.1 54) (M.1 55) (M.1 71) (M.1 72) nf x1 x2) : GM z mX12_can (d + 2) [.ref 54, .int x1, .int x2] M (fun rs => rs = .inl (some (.int ((k_can (M.1 54) (M.1 55) (M.1 71) (M.1 72) nf x1 x2).1)), mrow (mrow (mrow M 54 ((k_can (M.1 54) (M.1 55) (M.1 71) (M.1 72) nf x1 x2).2.1)) 55 ((k_can (M.1 54) (M.1 55) (M.1 71) (M.1 72) nf x1 x2).2.2.1)) 72 ((k_can (M.1 54) (M.1 55) (M.1 71) (M.1 72) nf x1 x2).2.2.2))) := by
  simp only [k_can_ok] at hk
  refine GM.of oX12_can.1 (Nat.le_of_ble_eq_true rfl) ?_
  show G z mX12_can (d + 2) 0 0 0 [some (.ref 54), some (.int x1), some (.int x2)] [] M _
  obtain ⟨Q, hQ⟩ : ∃ Q : Rs → Prop, Q = (fun rs => rs = .inl (some (.int ((k_can (M.1 54) (M.1 55) (M.1 71) (M.1 72) nf x1 x2).1)), mrow (mrow (mrow M 54 ((k_can (M.1 54) (M.1 55) (M.1 71) (M.1 72) nf x1 x2).2.1)) 55 ((k_can (M.1 54) (M.1 55) (M.1 71) (M.1 72) nf x1 x2).2.2.1)) 72 ((k_can (M.1 54) (M.1 55) (M.1 71) (M.1 72) nf x1 x2).2.2.2))) := ⟨_, rfl⟩
  rw [← hQ]
  refine G.sl [(.aload_n 0, 1, 0, 0, 0, 0), (.iconst 0, 1, 0, 0, 0, nI 0), (.putfield 3, 3, 11, 0, 123, 0), (.aload_n 0, 1, 0, 0, 0, 0), (.iload_n 1, 1, 1, 0, 0, 0), (.iconst 1, 1, 0, 0, 0, nI 1)] [] (pc2 := 8) (ls2 := [some (.ref 54), some (.int x1), some (.int x2)]) (st2 := [.int (nI 1), .int x1, .ref 54]) (M2 := mput M 54 0 (nI 0)) (Ps := []) (by decide +kernel) rfl rfl trivial ?_
  refine G.mem (M' := mrow M 54 (upd (M.1 54) 0 (nI 0))) (by first | rfl | (simp only [mput, mrow_same, mrow_hit, mrow_miss, mrow_sw, idr_eq, ne_eq, Nat.reduceEqDiff, not_false_eq_true, Nat.reduceLT, reduceCtorEq]; done)) ?_
  obtain ⟨k1, hk⟩ := hk
  rcases g2 : k_isFinder (upd (M.1 54) 0 (nI 0)) (M.1 55) nf x1 (nI 1) with ⟨v3, r4, r5⟩
  try simp only [g2] at hk
  have ev3 : v3 = 0 ∨ v3 = 1 := by
    have q9 := k_isFinder_01 (upd (M.1 54) 0 (nI 0)) (M.1 55) nf x1 (nI 1)
    rw [g2] at q9
    exact q9
  have t6 : GM z mX12_isFinder (d + 1) [.ref 54, .int x1, .int (nI 1)] (mrow M 54 (upd (M.1 54) 0 (nI 0))) (fun rs => rs = .inl (some (.int v3), mrow (mrow M 54 r4) 55 r5)) := by
    have q9 := c_k_isFinder_54 z d (mrow M 54 (upd (M.1 54) 0 (nI 0))) x1 (nI 1) nf hnf cf
    try simp only [mput, mrow_same, mrow_hit, mrow_miss, mrow_sw, idr_eq, ne_eq, Nat.reduceEqDiff, not_false_eq_true, Nat.reduceLT, reduceCtorEq, g2] at q9
    exact q9
  refine G.callV (as := [.int x1, .int (nI 1)]) (rest := []) (a := 54) oX12_isFinder lk_EvenFindersModel_400 (by decide +kernel) rfl rfl ⟨rfl, rfl⟩ (Nat.le_of_ble_eq_true rfl) rfl ⟨Nat.le_of_ble_eq_true rfl, Nat.le_of_ble_eq_true rfl⟩ t6 (fun v9 N9 h7 => ?_) (fun E9 N9 h7 => by cases h7)
  cases h7
  show G z mX12_can (d + 2) 0 0 11 [some (.ref 54), some (.int x1), some (.int x2)] [.int v3] (mrow (mrow M 54 r4) 55 r5) Q
  refine G.if_eq (off := (12)) (tgt := 23) (by decide +kernel) rfl (fun c8 => ?_) (fun c8 => ?_)
  · skip
    rw [if_pos c8] at hk
    refine G.sl [(.iconst 0, 1, 0, 0, 0, nI 0)] [] (pc2 := 24) (ls2 := [some (.ref 54), some (.int x1), some (.int x2)]) (st2 := [.int (nI 0)]) (M2 := mrow (mrow M 54 r4) 55 r5) (Ps := []) (by decide +kernel) rfl rfl trivial ?_
    refine G.mem (M' := mrow (mrow (mrow M 54 r4) 55 r5) 72 (M.1 72)) (((mrow_id (N := mrow (mrow M 54 r4) 55 r5) (c := 72) (f := M.1 72) (by first | rfl | (simp only [mput, mrow_same, mrow_hit, mrow_miss, mrow_sw, idr_eq, ne_eq, Nat.reduceEqDiff, not_false_eq_true, Nat.reduceLT, reduceCtorEq]; done))).symm).trans (by first | rfl | (simp only [mput, mrow_same, mrow_hit, mrow_miss, mrow_sw, idr_eq, ne_eq, Nat.reduceEqDiff, not_false_eq_true, Nat.reduceLT, reduceCtorEq]; done))) ?_
    exact G.reti (by decide +kernel) rfl rfl (Nat.le_of_ble_eq_true rfl) (Nat.le_of_ble_eq_true rfl) ((by rw [hQ]; simp only [k_can, g2, if_pos c8, mrow_self]))
  · skip
    rw [if_neg c8] at hk
    refine G.sl [(.aload_n 0, 1, 0, 0, 0, 0), (.iload_n 2, 1, 2, 0, 0, 0), (.iconst 1, 1, 0, 0, 0, nI 1)] [] (pc2 := 17) (ls2 := [some (.ref 54), some (.int x1), some (.int x2)]) (st2 := [.int (nI 1), .int x2, .ref 54]) (M2 := mrow (mrow M 54 r4) 55 r5) (Ps := []) (by decide +kernel) rfl rfl trivial ?_
    obtain ⟨k9, k10, hk⟩ := hk
    obtain ⟨k11, hk⟩ := hk
    rcases g12 : k_isThing r4 r5 (ix (r4 22)) x2 (nI 1) with ⟨v13, r14, r15⟩
    try simp only [g12] at hk
    have ev13 : v13 = 0 ∨ v13 = 1 := by
      have q9 := k_isThing_01 r4 r5 (ix (r4 22)) x2 (nI 1)
      rw [g12] at q9
      exact q9
    have t16 : GM z mX12_isThing (d + 1) [.ref 54, .int x2, .int (nI 1)] (mrow (mrow M 54 r4) 55 r5) (fun rs => rs = .inl (some (.int v13), mrow (mrow M 54 r14) 55 r15)) := by
      have q9 := c_k_isThing_54 z d (mrow (mrow M 54 r4) 55 r5) x2 (nI 1) (ix (r4 22)) k10 (ixE k9)
      try simp only [mput, mrow_same, mrow_hit, mrow_miss, mrow_sw, idr_eq, ne_eq, Nat.reduceEqDiff, not_false_eq_true, Nat.reduceLT, reduceCtorEq, g12] at q9
      exact q9
    refine G.callV (as := [.int x2, .int (nI 1)]) (rest := []) (a := 54) oX12_isThing lk_EvenFindersModel_397 (by decide +kernel) rfl rfl ⟨rfl, rfl⟩ (Nat.le_of_ble_eq_true rfl) rfl ⟨Nat.le_of_ble_eq_true rfl, Nat.le_of_ble_eq_true rfl⟩ t16 (fun v9 N9 h17 => ?_) (fun E9 N9 h17 => by cases h17)
    cases h17
    show G z mX12_can (d + 2) 0 0 20 [some (.ref 54), some (.int x1), some (.int x2)] [.int v13] (mrow (mrow M 54 r14) 55 r15) Q
    refine G.if_ne (off := (5)) (tgt := 25) (by decide +kernel) rfl (fun c18 => ?_) (fun c18 => ?_)
    · skip
      rw [if_neg c18] at hk
      refine G.sl [(.aload_n 0, 1, 0, 0, 0, 0)] [] (pc2 := 26) (ls2 := [some (.ref 54), some (.int x1), some (.int x2)]) (st2 := [.ref 54]) (M2 := mrow (mrow M 54 r14) 55 r15) (Ps := []) (by decide +kernel) rfl rfl trivial ?_
      obtain ⟨k19, hk⟩ := hk
      rcases g20 : k_take (M.1 71) (M.1 72) with ⟨u21, r22⟩
      try simp only [g20] at hk
      have t23 : GM z mX12_take (d + 1) [.ref 54] (mrow (mrow M 54 r14) 55 r15) (fun rs => rs = .inl (none, mrow (mrow (mrow M 54 r14) 55 r15) 72 r22)) := by
        have q9 := c_k_take_54 z d (mrow (mrow M 54 r14) 55 r15) k19
        try simp only [mput, mrow_same, mrow_hit, mrow_miss, mrow_sw, idr_eq, ne_eq, Nat.reduceEqDiff, not_false_eq_true, Nat.reduceLT, reduceCtorEq, g20] at q9
        exact q9
      refine G.callV (as := []) (rest := []) (a := 54) oX12_take lk_EvenFindersModel_320 (by decide +kernel) rfl rfl ⟨rfl, rfl⟩ (Nat.le_of_ble_eq_true rfl) rfl ⟨Nat.le_of_ble_eq_true rfl, Nat.le_of_ble_eq_true rfl⟩ t23 (fun v9 N9 h24 => ?_) (fun E9 N9 h24 => by cases h24)
      cases h24
      show G z mX12_can (d + 2) 0 0 29 [some (.ref 54), some (.int x1), some (.int x2)] [] (mrow (mrow (mrow M 54 r14) 55 r15) 72 r22) Q
      refine G.sl [(.aload_n 0, 1, 0, 0, 0, 0), (.iload_n 1, 1, 1, 0, 0, 0), (.iload_n 2, 1, 2, 0, 0, 0)] [] (pc2 := 32) (ls2 := [some (.ref 54), some (.int x1), some (.int x2)]) (st2 := [.int x2, .int x1, .ref 54]) (M2 := mrow (mrow (mrow M 54 r14) 55 r15) 72 r22) (Ps := []) (by decide +kernel) rfl rfl trivial ?_
      obtain ⟨k25, k26, k27, k28, hk⟩ := hk
      refine G.eq (st' := [.int (nI (ix x2)), .int (nI (ix x1)), .ref 54]) ?_ rfl (by rw [← (show x1 = nI (ix x1) from (ixE k25)), ← (show x2 = nI (ix x2) from (ixE k27))]) rfl
      have t30 : GM z mX12_canFind (d + 1) [.ref 54, .int (nI (ix x1)), .int (nI (ix x2))] (mrow (mrow (mrow M 54 r14) 55 r15) 72 r22) (fun rs => rs = .inl (some (.int (k_canFind r22 (ix x1) (ix x2))), mrow (mrow (mrow M 54 r14) 55 r15) 72 r22)) := by
        have q9 := c_k_canFind_54 z (d + 1) (mrow (mrow (mrow M 54 r14) 55 r15) 72 r22) (ix x1) (ix x2) k26 k28
        try simp only [mput, mrow_same, mrow_hit, mrow_miss, mrow_sw, idr_eq, ne_eq, Nat.reduceEqDiff, not_false_eq_true, Nat.reduceLT, reduceCtorEq] at q9
        exact q9
      refine G.callV (as := [.int (nI (ix x1)), .int (nI (ix x2))]) (rest := []) (a := 54) oX12_canFind lk_EvenFindersModel_355 (by decide +kernel) rfl rfl ⟨rfl, rfl⟩ (Nat.le_of_ble_eq_true rfl) rfl ⟨Nat.le_of_ble_eq_true rfl, Nat.le_of_ble_eq_true rfl⟩ t30 (fun v9 N9 h31 => ?_) (fun E9 N9 h31 => by cases h31)
      cases h31
      show G z mX12_can (d + 2) 0 0 35 [some (.ref 54), some (.int x1), some (.int x2)] [.int (k_canFind r22 (ix x1) (ix x2))] (mrow (mrow (mrow M 54 r14) 55 r15) 72 r22) Q
      exact G.reti (by decide +kernel) rfl (nar01 (k_canFind_01 r22 (ix x1) (ix x2))) (Nat.le_of_ble_eq_true rfl) (Nat.le_of_ble_eq_true rfl) ((by rw [hQ]; simp only [k_can, g2, if_neg c8, g12, if_neg c18, g20, mrow_self]))
    · skip
      rw [if_pos c18] at hk
      refine G.sl [(.iconst 0, 1, 0, 0, 0, nI 0)] [] (pc2 := 24) (ls2 := [some (.ref 54), some (.int x1), some (.int x2)]) (st2 := [.int (nI 0)]) (M2 := mrow (mrow M 54 r14) 55 r15) (Ps := []) (by decide +kernel) rfl rfl trivial ?_
      refine G.mem (M' := mrow (mrow (mrow M 54 r14) 55 r15) 72 (M.1 72)) (((mrow_id (N := mrow (mrow M 54 r14) 55 r15) (c := 72) (f := M.1 72) (by first | rfl | (simp only [mput, mrow_same, mrow_hit, mrow_miss, mrow_sw, idr_eq, ne_eq, Nat.reduceEqDiff, not_false_eq_true, Nat.reduceLT, reduceCtorEq]; done))).symm).trans (by first | rfl | (simp only [mput, mrow_same, mrow_hit, mrow_miss, mrow_sw, idr_eq, ne_eq, Nat.reduceEqDiff, not_false_eq_true, Nat.reduceLT, reduceCtorEq]; done))) ?_
      exact G.reti (by decide +kernel) rfl rfl (Nat.le_of_ble_eq_true rfl) (Nat.le_of_ble_eq_true rfl) ((by rw [hQ]; simp only [k_can, g2, if_neg c8, g12, if_pos c18, mrow_self]))
set_option maxHeartbeats 4000000 in
set_option maxRecDepth 3000 in
theorem lp_k_passes_54_52 (z : Zp) (d : Nat) (M : Mem) (Q : Rs → Prop) (n1 : Nat) (nt : Nat) (hnt : nt ≤ 10) (ct : M.1 54 22 = nI nt) (b1 : n1 < 6) (hk : ∀ i3, i3 < nt → k_passes_52_ok (M.1 61) (M.1 72) n1 i3) (hX : G z mX12_passes (d) 0 0 109 [some (.ref 54), some (.int (nI n1)), some (.int (k_passes_52 (M.1 61) (M.1 72) n1 nt)), none] [] M Q) : G z mX12_passes (d) 0 0 52 [some (.ref 54), some (.int (nI n1)), some (.int ((-1))), some (.int (nI 0))] [] M Q := by
  refine down (n := nt) (P := fun i3 => G z mX12_passes (d) 0 0 52 [some (.ref 54), some (.int (nI n1)), some (.int (k_passes_52 (M.1 61) (M.1 72) n1 i3)), some (.int (nI i3))] [] M Q) ?_ ?_ 0 (Nat.zero_le _)
  · skip
    refine G.sl [(.iload_n 3, 1, 3, 0, 0, 0), (.aload_n 0, 1, 0, 0, 0, 0), (.getfield 162, 3, 11, 22, 145, 0)] [] (pc2 := 57) (ls2 := [some (.ref 54), some (.int (nI n1)), some (.int (k_passes_52 (M.1 61) (M.1 72) n1 nt)), some (.int (nI nt))]) (st2 := [.int (M.1 54 22), .int (nI nt)]) (M2 := M) (Ps := []) (by decide +kernel) rfl rfl trivial ?_
    rw [ct]
    refine G.ic_ge (off := (52)) (tgt := 109) (by decide +kernel) rfl (fun _ => ?_) (fun h9 => absurd (nI_le (by omega) (by omega)) h9)
    refine G.loc (ls2 := [some (.ref 54), some (.int (nI n1)), some (.int (k_passes_52 (M.1 61) (M.1 72) n1 nt)), none]) (by simp [subL]) ?_
    exact hX
  · skip
    intro i3 hi ih
    have hk := hk i3 hi
    simp only [k_passes_52_ok] at hk
    show G z mX12_passes (d) 0 0 52 [some (.ref 54), some (.int (nI n1)), some (.int (k_passes_52 (M.1 61) (M.1 72) n1 i3)), some (.int (nI i3))] [] M Q
    refine G.sl [(.iload_n 3, 1, 3, 0, 0, 0), (.aload_n 0, 1, 0, 0, 0, 0), (.getfield 162, 3, 11, 22, 145, 0)] [] (pc2 := 57) (ls2 := [some (.ref 54), some (.int (nI n1)), some (.int (k_passes_52 (M.1 61) (M.1 72) n1 i3)), some (.int (nI i3))]) (st2 := [.int (M.1 54 22), .int (nI i3)]) (M2 := M) (Ps := []) (by decide +kernel) rfl rfl trivial ?_
    rw [ct]
    refine G.ic_ge (off := (52)) (tgt := 109) (by decide +kernel) rfl (fun h9 => absurd h9 (nI_ge (by omega) (by omega))) (fun _ => ?_)
    refine G.sl [(.aload_n 0, 1, 0, 0, 0, 0), (.getfield 68, 3, 11, 41, 164, 0), (.bipush 10, 2, 0, 0, 0, nI 10), (.iload_n 3, 1, 3, 0, 0, 0), (.iadd, 1, 0, 0, 0, 0), (.iaload, 1, 0, 0, 0, 0), (.iload_n 1, 1, 1, 0, 0, 0)] [10 + i3] (pc2 := 70) (ls2 := [some (.ref 54), some (.int (nI n1)), some (.int (k_passes_52 (M.1 61) (M.1 72) n1 i3)), some (.int (nI i3))]) (st2 := [.int (nI n1), .int (M.1 72 (10 + i3))]) (M2 := M) (Ps := [((nI 10) + (nI i3)) = nI (10 + i3) ∧ (10 + i3) < 51]) (by decide +kernel) rfl rfl ⟨⟨(nI_add _ _), (by omega)⟩, trivial⟩ ?_
    refine G.ic_ne (off := (33)) (tgt := 103) (by decide +kernel) rfl (fun c2 => ?_) (fun c2 => ?_)
    · skip
      rw [if_neg c2] at hk
      refine G.sl [(.iinc 3 1, 3, 3, 0, 0, nI 1), (.goto (-54), 3, 52, 0, 0, 0)] [] (pc2 := 52) (ls2 := [some (.ref 54), some (.int (nI n1)), some (.int (k_passes_52 (M.1 61) (M.1 72) n1 i3)), some (.int ((nI i3) + nI 1))]) (st2 := []) (M2 := M) (Ps := []) (by decide +kernel) rfl rfl trivial ?_
      rw [nI_add i3 1]
      simp only [k_passes_52, if_neg c2] at ih
      exact ih
    · skip
      rw [if_pos c2] at hk
      refine G.sl [(.iload_n 2, 1, 2, 0, 0, 0), (.iconst (-1), 1, 0, 0, 0, (-1))] [] (pc2 := 75) (ls2 := [some (.ref 54), some (.int (nI n1)), some (.int (k_passes_52 (M.1 61) (M.1 72) n1 i3)), some (.int (nI i3))]) (st2 := [.int ((-1)), .int (k_passes_52 (M.1 61) (M.1 72) n1 i3)]) (M2 := M) (Ps := []) (by decide +kernel) rfl rfl trivial ?_
      refine G.ic_eq (off := (26)) (tgt := 101) (by decide +kernel) rfl (fun c3 => ?_) (fun c3 => ?_)
      · skip
        rw [if_pos c3] at hk
        refine G.sl [(.iload_n 3, 1, 3, 0, 0, 0), (.istore_n 2, 1, 2, 0, 0, 0), (.iinc 3 1, 3, 3, 0, 0, nI 1), (.goto (-54), 3, 52, 0, 0, 0)] [] (pc2 := 52) (ls2 := [some (.ref 54), some (.int (nI n1)), some (.int (nI i3)), some (.int ((nI i3) + nI 1))]) (st2 := []) (M2 := M) (Ps := []) (by decide +kernel) rfl rfl trivial ?_
        rw [nI_add i3 1]
        simp only [k_passes_52, if_pos c2, if_pos c3] at ih
        exact ih
      · skip
        rw [if_neg c3] at hk
        obtain ⟨k4, k5, hk⟩ := hk
        refine G.sl [(.aload_n 0, 1, 0, 0, 0, 0), (.getfield 35, 3, 11, 14, 137, 0), (.iconst 3, 1, 0, 0, 0, nI 3), (.iload_n 3, 1, 3, 0, 0, 0), (.imul, 1, 0, 0, 0, 0), (.iconst 2, 1, 0, 0, 0, nI 2), (.iadd, 1, 0, 0, 0, 0), (.iaload, 1, 0, 0, 0, 0), (.aload_n 0, 1, 0, 0, 0, 0), (.getfield 35, 3, 11, 14, 137, 0), (.iconst 3, 1, 0, 0, 0, nI 3), (.iload_n 2, 1, 2, 0, 0, 0), (.imul, 1, 0, 0, 0, 0), (.iconst 2, 1, 0, 0, 0, nI 2), (.iadd, 1, 0, 0, 0, 0), (.iaload, 1, 0, 0, 0, 0)] [(3 * i3) + 2, (3 * (ix (k_passes_52 (M.1 61) (M.1 72) n1 i3))) + 2] (pc2 := 98) (ls2 := [some (.ref 54), some (.int (nI n1)), some (.int (k_passes_52 (M.1 61) (M.1 72) n1 i3)), some (.int (nI i3))]) (st2 := [.int (M.1 61 ((3 * (ix (k_passes_52 (M.1 61) (M.1 72) n1 i3))) + 2)), .int (M.1 61 ((3 * i3) + 2))]) (M2 := M) (Ps := [(((nI 3) * (nI i3)) + (nI 2)) = nI ((3 * i3) + 2) ∧ ((3 * i3) + 2) < 30, (((nI 3) * (k_passes_52 (M.1 61) (M.1 72) n1 i3)) + (nI 2)) = nI ((3 * (ix (k_passes_52 (M.1 61) (M.1 72) n1 i3))) + 2) ∧ ((3 * (ix (k_passes_52 (M.1 61) (M.1 72) n1 i3))) + 2) < 30]) (by decide +kernel) rfl rfl ⟨⟨(nAdd (pk_mul _ _) rfl), (by omega)⟩, ⟨(nAdd (nMul rfl (ixE k4)) rfl), k5⟩, trivial⟩ ?_
        refine G.ic_ge (off := (5)) (tgt := 103) (by decide +kernel) rfl (fun c6 => ?_) (fun c6 => ?_)
        · skip
          refine G.sl [(.iinc 3 1, 3, 3, 0, 0, nI 1), (.goto (-54), 3, 52, 0, 0, 0)] [] (pc2 := 52) (ls2 := [some (.ref 54), some (.int (nI n1)), some (.int (k_passes_52 (M.1 61) (M.1 72) n1 i3)), some (.int ((nI i3) + nI 1))]) (st2 := []) (M2 := M) (Ps := []) (by decide +kernel) rfl rfl trivial ?_
          rw [nI_add i3 1]
          simp only [k_passes_52, if_pos c2, if_neg c3, if_pos c6] at ih
          exact ih
        · skip
          refine G.sl [(.iload_n 3, 1, 3, 0, 0, 0), (.istore_n 2, 1, 2, 0, 0, 0), (.iinc 3 1, 3, 3, 0, 0, nI 1), (.goto (-54), 3, 52, 0, 0, 0)] [] (pc2 := 52) (ls2 := [some (.ref 54), some (.int (nI n1)), some (.int (nI i3)), some (.int ((nI i3) + nI 1))]) (st2 := []) (M2 := M) (Ps := []) (by decide +kernel) rfl rfl trivial ?_
          rw [nI_add i3 1]
          simp only [k_passes_52, if_pos c2, if_neg c3, if_neg c6] at ih
          exact ih
set_option maxHeartbeats 4000000 in
set_option maxRecDepth 3000 in
theorem lp_k_passes_54_2 (z : Zp) (d : Nat) (M : Mem) (Q : Rs → Prop) (nt : Nat) (hnt : nt ≤ 10) (ct : M.1 54 22 = nI nt) (nf : Nat) (hnf : nf ≤ 6) (cf : M.1 54 23 = nI nf) (hk : ∀ i1, i1 < nf → k_passes_2_ok (M.1 61) (M.1 72) nt i1) (hX : G z mX12_passes (d) 0 0 130 [some (.ref 54), none, none, none] [] (mrow M 72 (k_passes_2 (M.1 61) (M.1 72) nt nf)) Q) : G z mX12_passes (d) 0 0 2 [some (.ref 54), some (.int (nI 0)), none, none] [] M Q := by
  refine G.mem (M' := mrow M 72 (M.1 72)) (by simp only [mrow_self]) ?_
  refine down (n := nf) (P := fun i1 => G z mX12_passes (d) 0 0 2 [some (.ref 54), some (.int (nI i1)), none, none] [] (mrow M 72 (k_passes_2 (M.1 61) (M.1 72) nt i1)) Q) ?_ ?_ 0 (Nat.zero_le _)
  · skip
    refine G.sl [(.iload_n 1, 1, 1, 0, 0, 0), (.aload_n 0, 1, 0, 0, 0, 0), (.getfield 165, 3, 11, 23, 146, 0)] [] (pc2 := 7) (ls2 := [some (.ref 54), some (.int (nI nf)), none, none]) (st2 := [.int (M.1 54 23), .int (nI nf)]) (M2 := mrow M 72 (k_passes_2 (M.1 61) (M.1 72) nt nf)) (Ps := []) (by decide +kernel) rfl rfl trivial ?_
    rw [cf]
    refine G.ic_ge (off := (123)) (tgt := 130) (by decide +kernel) rfl (fun _ => ?_) (fun h9 => absurd (nI_le (by omega) (by omega)) h9)
    refine G.loc (ls2 := [some (.ref 54), none, none, none]) (by simp [subL]) ?_
    exact hX
  · skip
    intro i1 hi ih
    have hk := hk i1 hi
    simp only [k_passes_2_ok] at hk
    show G z mX12_passes (d) 0 0 2 [some (.ref 54), some (.int (nI i1)), none, none] [] (mrow M 72 (k_passes_2 (M.1 61) (M.1 72) nt i1)) Q
    refine G.sl [(.iload_n 1, 1, 1, 0, 0, 0), (.aload_n 0, 1, 0, 0, 0, 0), (.getfield 165, 3, 11, 23, 146, 0)] [] (pc2 := 7) (ls2 := [some (.ref 54), some (.int (nI i1)), none, none]) (st2 := [.int (M.1 54 23), .int (nI i1)]) (M2 := mrow M 72 (k_passes_2 (M.1 61) (M.1 72) nt i1)) (Ps := []) (by decide +kernel) rfl rfl trivial ?_
    rw [cf]
    refine G.ic_ge (off := (123)) (tgt := 130) (by decide +kernel) rfl (fun h9 => absurd h9 (nI_ge (by omega) (by omega))) (fun _ => ?_)
    refine G.sl [(.aload_n 0, 1, 0, 0, 0, 0), (.getfield 68, 3, 11, 41, 164, 0), (.bipush 32, 2, 0, 0, 0, nI 32), (.iload_n 1, 1, 1, 0, 0, 0), (.iadd, 1, 0, 0, 0, 0), (.iconst 0, 1, 0, 0, 0, nI 0), (.iastore, 1, 0, 0, 0, 0), (.aload_n 0, 1, 0, 0, 0, 0), (.getfield 68, 3, 11, 41, 164, 0), (.bipush 26, 2, 0, 0, 0, nI 26), (.iload_n 1, 1, 1, 0, 0, 0), (.iadd, 1, 0, 0, 0, 0), (.iaload, 1, 0, 0, 0, 0)] [32 + i1, 26 + i1] (pc2 := 29) (ls2 := [some (.ref 54), some (.int (nI i1)), none, none]) (st2 := [.int ((upd (k_passes_2 (M.1 61) (M.1 72) nt i1) (32 + i1) (nI 0)) (26 + i1))]) (M2 := mput (mrow M 72 (k_passes_2 (M.1 61) (M.1 72) nt i1)) 72 (32 + i1) (nI 0)) (Ps := [((nI 32) + (nI i1)) = nI (32 + i1) ∧ (32 + i1) < 51, ((nI 26) + (nI i1)) = nI (26 + i1) ∧ (26 + i1) < 51]) (by decide +kernel) rfl rfl ⟨⟨(nI_add _ _), (by omega)⟩, ⟨(nI_add _ _), (by omega)⟩, trivial⟩ ?_
    refine G.mem (M' := mrow M 72 (upd (k_passes_2 (M.1 61) (M.1 72) nt i1) (32 + i1) (nI 0))) (by first | rfl | (simp only [mput, mrow_same, mrow_hit, mrow_miss, mrow_sw, idr_eq, ne_eq, Nat.reduceEqDiff, not_false_eq_true, Nat.reduceLT, reduceCtorEq]; done)) ?_
    refine G.if_gt (off := (6)) (tgt := 35) (by decide +kernel) rfl (fun c1 => ?_) (fun c1 => ?_)
    · skip
      rw [if_pos c1] at hk
      refine G.sl [(.aload_n 0, 1, 0, 0, 0, 0), (.getfield 68, 3, 11, 41, 164, 0), (.bipush 44, 2, 0, 0, 0, nI 44), (.iload_n 1, 1, 1, 0, 0, 0), (.iadd, 1, 0, 0, 0, 0), (.dup2, 1, 0, 0, 0, 0), (.iaload, 1, 0, 0, 0, 0), (.iconst 1, 1, 0, 0, 0, nI 1), (.iadd, 1, 0, 0, 0, 0), (.iastore, 1, 0, 0, 0, 0), (.iconst (-1), 1, 0, 0, 0, (-1)), (.istore_n 2, 1, 2, 0, 0, 0), (.iconst 0, 1, 0, 0, 0, nI 0), (.istore_n 3, 1, 3, 0, 0, 0)] [44 + i1, 44 + i1] (pc2 := 52) (ls2 := [some (.ref 54), some (.int (nI i1)), some (.int ((-1))), some (.int (nI 0))]) (st2 := []) (M2 := mput (mrow M 72 (upd (k_passes_2 (M.1 61) (M.1 72) nt i1) (32 + i1) (nI 0))) 72 (44 + i1) (((upd (k_passes_2 (M.1 61) (M.1 72) nt i1) (32 + i1) (nI 0)) (44 + i1)) + (nI 1))) (Ps := [((nI 44) + (nI i1)) = nI (44 + i1) ∧ (44 + i1) < 51, ((nI 44) + (nI i1)) = nI (44 + i1) ∧ (44 + i1) < 51]) (by decide +kernel) rfl rfl ⟨⟨(nI_add _ _), (by omega)⟩, ⟨(nI_add _ _), (by omega)⟩, trivial⟩ ?_
      refine G.mem (M' := mrow M 72 (upd (upd (k_passes_2 (M.1 61) (M.1 72) nt i1) (32 + i1) (nI 0)) (44 + i1) (((upd (k_passes_2 (M.1 61) (M.1 72) nt i1) (32 + i1) (nI 0)) (44 + i1)) + (nI 1)))) (by first | rfl | (simp only [mput, mrow_same, mrow_hit, mrow_miss, mrow_sw, idr_eq, ne_eq, Nat.reduceEqDiff, not_false_eq_true, Nat.reduceLT, reduceCtorEq]; done)) ?_
      obtain ⟨k7, hk⟩ := hk
      refine lp_k_passes_54_52 z d (mrow M 72 (upd (upd (k_passes_2 (M.1 61) (M.1 72) nt i1) (32 + i1) (nI 0)) (44 + i1) (((upd (k_passes_2 (M.1 61) (M.1 72) nt i1) (32 + i1) (nI 0)) (44 + i1)) + (nI 1)))) Q i1 nt hnt ct (by omega) (by first | (simp only [mput, mrow_same, mrow_hit, mrow_miss, mrow_sw, idr_eq, ne_eq, Nat.reduceEqDiff, not_false_eq_true, Nat.reduceLT, reduceCtorEq]; exact k7) | exact k7) ?_
      show G z mX12_passes (d) 0 0 109 [some (.ref 54), some (.int (nI i1)), some (.int (k_passes_52 (M.1 61) (upd (upd (k_passes_2 (M.1 61) (M.1 72) nt i1) (32 + i1) (nI 0)) (44 + i1) (((upd (k_passes_2 (M.1 61) (M.1 72) nt i1) (32 + i1) (nI 0)) (44 + i1)) + (nI 1))) i1 nt)), none] [] (mrow M 72 (upd (upd (k_passes_2 (M.1 61) (M.1 72) nt i1) (32 + i1) (nI 0)) (44 + i1) (((upd (k_passes_2 (M.1 61) (M.1 72) nt i1) (32 + i1) (nI 0)) (44 + i1)) + (nI 1)))) Q
      refine G.sl [(.iload_n 2, 1, 2, 0, 0, 0), (.iconst (-1), 1, 0, 0, 0, (-1))] [] (pc2 := 111) (ls2 := [some (.ref 54), some (.int (nI i1)), some (.int (k_passes_52 (M.1 61) (upd (upd (k_passes_2 (M.1 61) (M.1 72) nt i1) (32 + i1) (nI 0)) (44 + i1) (((upd (k_passes_2 (M.1 61) (M.1 72) nt i1) (32 + i1) (nI 0)) (44 + i1)) + (nI 1))) i1 nt)), none]) (st2 := [.int ((-1)), .int (k_passes_52 (M.1 61) (upd (upd (k_passes_2 (M.1 61) (M.1 72) nt i1) (32 + i1) (nI 0)) (44 + i1) (((upd (k_passes_2 (M.1 61) (M.1 72) nt i1) (32 + i1) (nI 0)) (44 + i1)) + (nI 1))) i1 nt)]) (M2 := mrow M 72 (upd (upd (k_passes_2 (M.1 61) (M.1 72) nt i1) (32 + i1) (nI 0)) (44 + i1) (((upd (k_passes_2 (M.1 61) (M.1 72) nt i1) (32 + i1) (nI 0)) (44 + i1)) + (nI 1)))) (Ps := []) (by decide +kernel) rfl rfl trivial ?_
      refine G.ic_eq (off := (13)) (tgt := 124) (by decide +kernel) rfl (fun c8 => ?_) (fun c8 => ?_)
      · skip
        rw [if_pos c8] at hk
        refine G.sl [(.iinc 1 1, 3, 1, 0, 0, nI 1), (.goto (-125), 3, 2, 0, 0, 0)] [] (pc2 := 2) (ls2 := [some (.ref 54), some (.int ((nI i1) + nI 1)), some (.int (k_passes_52 (M.1 61) (upd (upd (k_passes_2 (M.1 61) (M.1 72) nt i1) (32 + i1) (nI 0)) (44 + i1) (((upd (k_passes_2 (M.1 61) (M.1 72) nt i1) (32 + i1) (nI 0)) (44 + i1)) + (nI 1))) i1 nt)), none]) (st2 := []) (M2 := mrow M 72 (upd (upd (k_passes_2 (M.1 61) (M.1 72) nt i1) (32 + i1) (nI 0)) (44 + i1) (((upd (k_passes_2 (M.1 61) (M.1 72) nt i1) (32 + i1) (nI 0)) (44 + i1)) + (nI 1)))) (Ps := []) (by decide +kernel) rfl rfl trivial ?_
        refine G.loc (ls2 := [some (.ref 54), some (.int ((nI i1) + nI 1)), none, none]) (by simp [subL]) ?_
        rw [nI_add i1 1]
        simp only [k_passes_2, if_pos c1, if_pos c8] at ih
        exact ih
      · skip
        rw [if_neg c8] at hk
        obtain ⟨k9, k10, hk⟩ := hk
        refine G.sl [(.aload_n 0, 1, 0, 0, 0, 0), (.getfield 68, 3, 11, 41, 164, 0), (.bipush 10, 2, 0, 0, 0, nI 10), (.iload_n 2, 1, 2, 0, 0, 0), (.iadd, 1, 0, 0, 0, 0), (.iconst (-1), 1, 0, 0, 0, (-1)), (.iastore, 1, 0, 0, 0, 0), (.iinc 1 1, 3, 1, 0, 0, nI 1), (.goto (-125), 3, 2, 0, 0, 0)] [10 + (ix (k_passes_52 (M.1 61) (upd (upd (k_passes_2 (M.1 61) (M.1 72) nt i1) (32 + i1) (nI 0)) (44 + i1) (((upd (k_passes_2 (M.1 61) (M.1 72) nt i1) (32 + i1) (nI 0)) (44 + i1)) + (nI 1))) i1 nt))] (pc2 := 2) (ls2 := [some (.ref 54), some (.int ((nI i1) + nI 1)), some (.int (k_passes_52 (M.1 61) (upd (upd (k_passes_2 (M.1 61) (M.1 72) nt i1) (32 + i1) (nI 0)) (44 + i1) (((upd (k_passes_2 (M.1 61) (M.1 72) nt i1) (32 + i1) (nI 0)) (44 + i1)) + (nI 1))) i1 nt)), none]) (st2 := []) (M2 := mput (mrow M 72 (upd (upd (k_passes_2 (M.1 61) (M.1 72) nt i1) (32 + i1) (nI 0)) (44 + i1) (((upd (k_passes_2 (M.1 61) (M.1 72) nt i1) (32 + i1) (nI 0)) (44 + i1)) + (nI 1)))) 72 (10 + (ix (k_passes_52 (M.1 61) (upd (upd (k_passes_2 (M.1 61) (M.1 72) nt i1) (32 + i1) (nI 0)) (44 + i1) (((upd (k_passes_2 (M.1 61) (M.1 72) nt i1) (32 + i1) (nI 0)) (44 + i1)) + (nI 1))) i1 nt))) ((-1))) (Ps := [((nI 10) + (k_passes_52 (M.1 61) (upd (upd (k_passes_2 (M.1 61) (M.1 72) nt i1) (32 + i1) (nI 0)) (44 + i1) (((upd (k_passes_2 (M.1 61) (M.1 72) nt i1) (32 + i1) (nI 0)) (44 + i1)) + (nI 1))) i1 nt)) = nI (10 + (ix (k_passes_52 (M.1 61) (upd (upd (k_passes_2 (M.1 61) (M.1 72) nt i1) (32 + i1) (nI 0)) (44 + i1) (((upd (k_passes_2 (M.1 61) (M.1 72) nt i1) (32 + i1) (nI 0)) (44 + i1)) + (nI 1))) i1 nt))) ∧ (10 + (ix (k_passes_52 (M.1 61) (upd (upd (k_passes_2 (M.1 61) (M.1 72) nt i1) (32 + i1) (nI 0)) (44 + i1) (((upd (k_passes_2 (M.1 61) (M.1 72) nt i1) (32 + i1) (nI 0)) (44 + i1)) + (nI 1))) i1 nt))) < 51]) (by decide +kernel) rfl rfl ⟨⟨(nAdd rfl (ixE k9)), k10⟩, trivial⟩ ?_
        refine G.mem (M' := mrow M 72 (upd (upd (upd (k_passes_2 (M.1 61) (M.1 72) nt i1) (32 + i1) (nI 0)) (44 + i1) (((upd (k_passes_2 (M.1 61) (M.1 72) nt i1) (32 + i1) (nI 0)) (44 + i1)) + (nI 1))) (10 + (ix (k_passes_52 (M.1 61) (upd (upd (k_passes_2 (M.1 61) (M.1 72) nt i1) (32 + i1) (nI 0)) (44 + i1) (((upd (k_passes_2 (M.1 61) (M.1 72) nt i1) (32 + i1) (nI 0)) (44 + i1)) + (nI 1))) i1 nt))) ((-1)))) (by first | rfl | (simp only [mput, mrow_same, mrow_hit, mrow_miss, mrow_sw, idr_eq, ne_eq, Nat.reduceEqDiff, not_false_eq_true, Nat.reduceLT, reduceCtorEq]; done)) ?_
        refine G.loc (ls2 := [some (.ref 54), some (.int ((nI i1) + nI 1)), none, none]) (by simp [subL]) ?_
        rw [nI_add i1 1]
        simp only [k_passes_2, if_pos c1, if_neg c8] at ih
        exact ih
    · skip
      rw [if_neg c1] at hk
      refine G.sl [(.goto 92, 3, 124, 0, 0, 0), (.iinc 1 1, 3, 1, 0, 0, nI 1), (.goto (-125), 3, 2, 0, 0, 0)] [] (pc2 := 2) (ls2 := [some (.ref 54), some (.int ((nI i1) + nI 1)), none, none]) (st2 := []) (M2 := mrow M 72 (upd (k_passes_2 (M.1 61) (M.1 72) nt i1) (32 + i1) (nI 0))) (Ps := []) (by decide +kernel) rfl rfl trivial ?_
      rw [nI_add i1 1]
      simp only [k_passes_2, if_neg c1] at ih
      exact ih
set_option maxHeartbeats 4000000 in
set_option maxRecDepth 3000 in
theorem c_k_passes_54 (z : Zp) (d : Nat) (M : Mem) (nt : Nat) (hnt : nt ≤ 10) (ct : M.1 54 22 = nI nt) (nf : Nat) (hnf : nf ≤ 6) (cf : M.1 54 23 = nI nf) (hk : k_passes_ok (M.1 61) (M.1 72) nt nf) : GM z mX12_passes (d) [.ref 54] M (fun rs => rs = .inl (none, mrow M 72 ((k_passes (M.1 61) (M.1 72) nt nf).2))) := by
  simp only [k_passes_ok] at hk
  refine GM.of oX12_passes.1 (Nat.le_of_ble_eq_true rfl) ?_
  show G z mX12_passes (d) 0 0 0 [some (.ref 54), none, none, none] [] M _
  obtain ⟨Q, hQ⟩ : ∃ Q : Rs → Prop, Q = (fun rs => rs = .inl (none, mrow M 72 ((k_passes (M.1 61) (M.1 72) nt nf).2))) := ⟨_, rfl⟩
  rw [← hQ]
  refine G.sl [(.iconst 0, 1, 0, 0, 0, nI 0), (.istore_n 1, 1, 1, 0, 0, 0)] [] (pc2 := 2) (ls2 := [some (.ref 54), some (.int (nI 0)), none, none]) (st2 := []) (M2 := M) (Ps := []) (by decide +kernel) rfl rfl trivial ?_
  obtain ⟨k11, hk⟩ := hk
  refine lp_k_passes_54_2 z d M Q nt hnt ct nf hnf cf (by first | (simp only [mput, mrow_same, mrow_hit, mrow_miss, mrow_sw, idr_eq, ne_eq, Nat.reduceEqDiff, not_false_eq_true, Nat.reduceLT, reduceCtorEq]; exact k11) | exact k11) ?_
  try simp only [mput, mrow_same, mrow_hit, mrow_miss, mrow_sw, idr_eq, ne_eq, Nat.reduceEqDiff, not_false_eq_true, Nat.reduceLT, reduceCtorEq]
  show G z mX12_passes (d) 0 0 130 [some (.ref 54), none, none, none] [] (mrow M 72 (k_passes_2 (M.1 61) (M.1 72) nt nf)) Q
  refine G.sl [(.aload_n 0, 1, 0, 0, 0, 0), (.getfield 68, 3, 11, 41, 164, 0), (.bipush 50, 2, 0, 0, 0, nI 50), (.dup2, 1, 0, 0, 0, 0), (.iaload, 1, 0, 0, 0, 0), (.iconst 1, 1, 0, 0, 0, nI 1), (.iadd, 1, 0, 0, 0, 0), (.iastore, 1, 0, 0, 0, 0)] [50, 50] (pc2 := 141) (ls2 := [some (.ref 54), none, none, none]) (st2 := []) (M2 := mput (mrow M 72 (k_passes_2 (M.1 61) (M.1 72) nt nf)) 72 50 (((k_passes_2 (M.1 61) (M.1 72) nt nf) 50) + (nI 1))) (Ps := [(nI 50) = nI 50 ∧ 50 < 51, (nI 50) = nI 50 ∧ 50 < 51]) (by decide +kernel) rfl rfl ⟨⟨rfl, (by omega)⟩, ⟨rfl, (by omega)⟩, trivial⟩ ?_
  refine G.mem (M' := mrow M 72 (upd (k_passes_2 (M.1 61) (M.1 72) nt nf) 50 (((k_passes_2 (M.1 61) (M.1 72) nt nf) 50) + (nI 1)))) (by first | rfl | (simp only [mput, mrow_same, mrow_hit, mrow_miss, mrow_sw, idr_eq, ne_eq, Nat.reduceEqDiff, not_false_eq_true, Nat.reduceLT, reduceCtorEq]; done)) ?_
  exact G.retv (by decide +kernel) rfl (Nat.le_of_ble_eq_true rfl) (Nat.le_of_ble_eq_true rfl) ((by rw [hQ]; simp only [k_passes, mrow_self]))
set_option maxHeartbeats 4000000 in
set_option maxRecDepth 3000 in
theorem lp_k_ahead_54_46 (z : Zp) (d : Nat) (M : Mem) (Q : Rs → Prop) (x1 : Int32) (x2 : Int32) (nt : Nat) (hnt : nt ≤ 10) (ct : M.1 54 22 = nI nt) (nf : Nat) (hnf : nf ≤ 6) (cf : M.1 54 23 = nI nf) : ∀ (k0 : Nat) (s3 : Int32) (q72 : (Nat → Int32)), k_ahead_46_ok (M.1 61) nt nf x1 x2 k0 s3 q72 → (match k_ahead_46 (M.1 61) nt nf x1 x2 k0 s3 q72 with | (s3', q72') => G z mX12_ahead (d + 2) 0 0 61 [some (.ref 54), none, some (.int x2), none] [] (mrow M 72 (q72')) Q) → G z mX12_ahead (d + 2) 0 0 46 [some (.ref 54), some (.int x1), some (.int x2), some (.int s3)] [] (mrow M 72 q72) Q := by
  intro k0
  induction k0 with
  | zero =>
      intro s3 q72 hk hX
      exact (by simpa only [k_ahead_46_ok] using hk : False).elim
  | succ k0 ih =>
      intro s3 q72 hk hX
      simp only [k_ahead_46_ok] at hk
      refine G.sl [(.iload_n 3, 1, 3, 0, 0, 0), (.iload_n 1, 1, 1, 0, 0, 0)] [] (pc2 := 48) (ls2 := [some (.ref 54), some (.int x1), some (.int x2), some (.int s3)]) (st2 := [.int x1, .int s3]) (M2 := mrow M 72 q72) (Ps := []) (by decide +kernel) rfl rfl trivial ?_
      refine G.ic_ge (off := (13)) (tgt := 61) (by decide +kernel) rfl (fun c21 => ?_) (fun c21 => ?_)
      · skip
        rw [if_pos c21] at hk
        refine G.loc (ls2 := [some (.ref 54), none, some (.int x2), none]) (by simp [subL]) ?_
        simp only [k_ahead_46, if_pos c21] at hX
        exact hX
      · skip
        rw [if_neg c21] at hk
        refine G.sl [(.aload_n 0, 1, 0, 0, 0, 0)] [] (pc2 := 52) (ls2 := [some (.ref 54), some (.int x1), some (.int x2), some (.int s3)]) (st2 := [.ref 54]) (M2 := mrow M 72 q72) (Ps := []) (by decide +kernel) rfl rfl trivial ?_
        obtain ⟨k22, hk⟩ := hk
        rcases g23 : k_passes (M.1 61) q72 nt nf with ⟨u24, r25⟩
        try simp only [g23] at hk
        have t26 : GM z mX12_passes (d + 1) [.ref 54] (mrow M 72 q72) (fun rs => rs = .inl (none, mrow M 72 r25)) := by
          have q9 := c_k_passes_54 z (d + 1) (mrow M 72 q72) nt hnt ct nf hnf cf k22
          try simp only [mput, mrow_same, mrow_hit, mrow_miss, mrow_sw, idr_eq, ne_eq, Nat.reduceEqDiff, not_false_eq_true, Nat.reduceLT, reduceCtorEq, g23] at q9
          exact q9
        refine G.callV (as := []) (rest := []) (a := 54) oX12_passes lk_EvenFindersModel_373 (by decide +kernel) rfl rfl ⟨rfl, rfl⟩ (Nat.le_of_ble_eq_true rfl) rfl ⟨Nat.le_of_ble_eq_true rfl, Nat.le_of_ble_eq_true rfl⟩ t26 (fun v9 N9 h27 => ?_) (fun E9 N9 h27 => by cases h27)
        cases h27
        show G z mX12_ahead (d + 2) 0 0 55 [some (.ref 54), some (.int x1), some (.int x2), some (.int s3)] [] (mrow M 72 r25) Q
        refine G.sl [(.iinc 3 1, 3, 3, 0, 0, nI 1), (.goto (-12), 3, 46, 0, 0, 0)] [] (pc2 := 46) (ls2 := [some (.ref 54), some (.int x1), some (.int x2), some (.int (s3 + nI 1))]) (st2 := []) (M2 := mrow M 72 r25) (Ps := []) (by decide +kernel) rfl rfl trivial ?_
        simp only [k_ahead_46, if_neg c21, g23] at hX
        exact ih (s3 + nI 1) r25 hk hX
set_option maxHeartbeats 4000000 in
set_option maxRecDepth 3000 in
theorem c_k_ahead_54 (z : Zp) (d : Nat) (M : Mem) (x1 : Int32) (x2 : Int32) (nt : Nat) (hnt : nt ≤ 10) (ct : M.1 54 22 = nI nt) (nf : Nat) (hnf : nf ≤ 6) (cf : M.1 54 23 = nI nf) (hk : k_ahead_ok (M.1 54) (M.1 55) (M.1 61) (M.1 71) (M.1 72) nt nf x1 x2) : GM z mX12_ahead (d + 2) [.ref 54, .int x1, .int x2] M (fun rs => rs = .inl (some (.int ((k_ahead (M.1 54) (M.1 55) (M.1 61) (M.1 71) (M.1 72) nt nf x1 x2).1)), mrow (mrow (mrow M 54 ((k_ahead (M.1 54) (M.1 55) (M.1 61) (M.1 71) (M.1 72) nt nf x1 x2).2.1)) 55 ((k_ahead (M.1 54) (M.1 55) (M.1 61) (M.1 71) (M.1 72) nt nf x1 x2).2.2.1)) 72 ((k_ahead (M.1 54) (M.1 55) (M.1 61) (M.1 71) (M.1 72) nt nf x1 x2).2.2.2))) := by
  simp only [k_ahead_ok] at hk
  refine GM.of oX12_ahead.1 (Nat.le_of_ble_eq_true rfl) ?_
  show G z mX12_ahead (d + 2) 0 0 0 [some (.ref 54), some (.int x1), some (.int x2), none] [] M _
  obtain ⟨Q, hQ⟩ : ∃ Q : Rs → Prop, Q = (fun rs => rs = .inl (some (.int ((k_ahead (M.1 54) (M.1 55) (M.1 61) (M.1 71) (M.1 72) nt nf x1 x2).1)), mrow (mrow (mrow M 54 ((k_ahead (M.1 54) (M.1 55) (M.1 61) (M.1 71) (M.1 72) nt nf x1 x2).2.1)) 55 ((k_ahead (M.1 54) (M.1 55) (M.1 61) (M.1 71) (M.1 72) nt nf x1 x2).2.2.1)) 72 ((k_ahead (M.1 54) (M.1 55) (M.1 61) (M.1 71) (M.1 72) nt nf x1 x2).2.2.2))) := ⟨_, rfl⟩
  rw [← hQ]
  refine G.sl [(.aload_n 0, 1, 0, 0, 0, 0), (.iconst 0, 1, 0, 0, 0, nI 0), (.putfield 3, 3, 11, 0, 123, 0), (.aload_n 0, 1, 0, 0, 0, 0), (.iload_n 1, 1, 1, 0, 0, 0), (.iconst 0, 1, 0, 0, 0, nI 0), (.bipush 99, 2, 0, 0, 0, nI 99)] [] (pc2 := 10) (ls2 := [some (.ref 54), some (.int x1), some (.int x2), none]) (st2 := [.int (nI 99), .int (nI 0), .int x1, .ref 54]) (M2 := mput M 54 0 (nI 0)) (Ps := []) (by decide +kernel) rfl rfl trivial ?_
  refine G.mem (M' := mrow M 54 (upd (M.1 54) 0 (nI 0))) (by first | rfl | (simp only [mput, mrow_same, mrow_hit, mrow_miss, mrow_sw, idr_eq, ne_eq, Nat.reduceEqDiff, not_false_eq_true, Nat.reduceLT, reduceCtorEq]; done)) ?_
  obtain ⟨k1, hk⟩ := hk
  have t2 : GM z mX12_within (d + 1) [.int x1, .int (nI 0), .int (nI 99)] (mrow M 54 (upd (M.1 54) 0 (nI 0))) (fun rs => rs = .inl (some (.int (k_within x1 (nI 0) (nI 99))), mrow M 54 (upd (M.1 54) 0 (nI 0)))) := by
    have q9 := c_k_within z (d + 1) (mrow M 54 (upd (M.1 54) 0 (nI 0))) x1 (nI 0) (nI 99)
    try simp only [mput, mrow_same, mrow_hit, mrow_miss, mrow_sw, idr_eq, ne_eq, Nat.reduceEqDiff, not_false_eq_true, Nat.reduceLT, reduceCtorEq] at q9
    exact q9
  refine G.callS (as := [.int x1, .int (nI 0), .int (nI 99)]) (rest := [.ref 54]) oX12_within lk_EvenFindersModel_379 (by decide +kernel) rfl (Nat.le_of_ble_eq_true rfl) rfl ⟨Nat.le_of_ble_eq_true rfl, Nat.le_of_ble_eq_true rfl⟩ t2 (fun v9 N9 h3 => ?_) (fun E9 N9 h3 => by cases h3)
  cases h3
  show G z mX12_ahead (d + 2) 0 0 13 [some (.ref 54), some (.int x1), some (.int x2), none] [.int (k_within x1 (nI 0) (nI 99)), .ref 54] (mrow M 54 (upd (M.1 54) 0 (nI 0))) Q
  refine G.if_eq (off := (16)) (tgt := 29) (by decide +kernel) rfl (fun c4 => ?_) (fun c4 => ?_)
  · skip
    rw [if_pos c4] at hk
    refine G.sl [(.iconst 0, 1, 0, 0, 0, nI 0), (.iconst 1, 1, 0, 0, 0, nI 1), (.iconst 1, 1, 0, 0, 0, nI 1)] [] (pc2 := 32) (ls2 := [some (.ref 54), some (.int x1), some (.int x2), none]) (st2 := [.int (nI 1), .int (nI 1), .int (nI 0), .ref 54]) (M2 := mrow M 54 (upd (M.1 54) 0 (nI 0))) (Ps := []) (by decide +kernel) rfl rfl trivial ?_
    have t5 : GM z mX12_may (d + 1) [.ref 54, .int (nI 0), .int (nI 1), .int (nI 1)] (mrow M 54 (upd (M.1 54) 0 (nI 0))) (fun rs => rs = .inl (some (.int (nI 0)), mrow (mrow M 54 (upd (upd (M.1 54) 0 (nI 0)) 0 (nI 1))) 55 (upd (M.1 55) 1 ((M.1 55 1) + nI 1)))) := by
      have q9 := m_may_1_f z (d + 1) (mrow M 54 (upd (M.1 54) 0 (nI 0))) (nI 1) (by first | rfl | (simp only [mput, mrow_same, mrow_hit, mrow_miss, mrow_sw, idr_eq, ne_eq, Nat.reduceEqDiff, not_false_eq_true, Nat.reduceLT, reduceCtorEq, pk_us]; done)) (by decide)
      try simp only [mput, mrow_same, mrow_hit, mrow_miss, mrow_sw, idr_eq, ne_eq, Nat.reduceEqDiff, not_false_eq_true, Nat.reduceLT, reduceCtorEq] at q9
      exact q9
    refine G.callV (as := [.int (nI 0), .int (nI 1), .int (nI 1)]) (rest := []) (a := 54) oX12_may lk_EvenFindersModel_213 (by decide +kernel) rfl rfl ⟨rfl, rfl⟩ (Nat.le_of_ble_eq_true rfl) rfl ⟨Nat.le_of_ble_eq_true rfl, Nat.le_of_ble_eq_true rfl⟩ t5 (fun v9 N9 h6 => ?_) (fun E9 N9 h6 => by cases h6)
    cases h6
    show G z mX12_ahead (d + 2) 0 0 35 [some (.ref 54), some (.int x1), some (.int x2), none] [.int (nI 0)] (mrow (mrow M 54 (upd (upd (M.1 54) 0 (nI 0)) 0 (nI 1))) 55 (upd (M.1 55) 1 ((M.1 55 1) + nI 1))) Q
    refine G.if_ne (off := (5)) (tgt := 40) (by decide +kernel) rfl (fun h9 => absurd (by decide) h9) (fun _ => ?_)
    refine G.sl [(.iconst 0, 1, 0, 0, 0, nI 0)] [] (pc2 := 39) (ls2 := [some (.ref 54), some (.int x1), some (.int x2), none]) (st2 := [.int (nI 0)]) (M2 := mrow (mrow M 54 (upd (upd (M.1 54) 0 (nI 0)) 0 (nI 1))) 55 (upd (M.1 55) 1 ((M.1 55 1) + nI 1))) (Ps := []) (by decide +kernel) rfl rfl trivial ?_
    refine G.mem (M' := mrow (mrow (mrow M 54 (upd (upd (M.1 54) 0 (nI 0)) 0 (nI 1))) 55 (upd (M.1 55) 1 ((M.1 55 1) + nI 1))) 72 (M.1 72)) (((mrow_id (N := mrow (mrow M 54 (upd (upd (M.1 54) 0 (nI 0)) 0 (nI 1))) 55 (upd (M.1 55) 1 ((M.1 55 1) + nI 1))) (c := 72) (f := M.1 72) (by first | rfl | (simp only [mput, mrow_same, mrow_hit, mrow_miss, mrow_sw, idr_eq, ne_eq, Nat.reduceEqDiff, not_false_eq_true, Nat.reduceLT, reduceCtorEq]; done))).symm).trans (by first | rfl | (simp only [mput, mrow_same, mrow_hit, mrow_miss, mrow_sw, idr_eq, ne_eq, Nat.reduceEqDiff, not_false_eq_true, Nat.reduceLT, reduceCtorEq]; done))) ?_
    exact G.reti (by decide +kernel) rfl rfl (Nat.le_of_ble_eq_true rfl) (Nat.le_of_ble_eq_true rfl) ((by rw [hQ]; simp only [k_ahead, if_pos c4, mrow_self]))
  · skip
    rw [if_neg c4] at hk
    refine G.sl [(.iload_n 2, 1, 2, 0, 0, 0), (.iconst 0, 1, 0, 0, 0, nI 0), (.iconst 2, 1, 0, 0, 0, nI 2)] [] (pc2 := 19) (ls2 := [some (.ref 54), some (.int x1), some (.int x2), none]) (st2 := [.int (nI 2), .int (nI 0), .int x2, .ref 54]) (M2 := mrow M 54 (upd (M.1 54) 0 (nI 0))) (Ps := []) (by decide +kernel) rfl rfl trivial ?_
    obtain ⟨k7, hk⟩ := hk
    have t8 : GM z mX12_within (d + 1) [.int x2, .int (nI 0), .int (nI 2)] (mrow M 54 (upd (M.1 54) 0 (nI 0))) (fun rs => rs = .inl (some (.int (k_within x2 (nI 0) (nI 2))), mrow M 54 (upd (M.1 54) 0 (nI 0)))) := by
      have q9 := c_k_within z (d + 1) (mrow M 54 (upd (M.1 54) 0 (nI 0))) x2 (nI 0) (nI 2)
      try simp only [mput, mrow_same, mrow_hit, mrow_miss, mrow_sw, idr_eq, ne_eq, Nat.reduceEqDiff, not_false_eq_true, Nat.reduceLT, reduceCtorEq] at q9
      exact q9
    refine G.callS (as := [.int x2, .int (nI 0), .int (nI 2)]) (rest := [.ref 54]) oX12_within lk_EvenFindersModel_379 (by decide +kernel) rfl (Nat.le_of_ble_eq_true rfl) rfl ⟨Nat.le_of_ble_eq_true rfl, Nat.le_of_ble_eq_true rfl⟩ t8 (fun v9 N9 h9 => ?_) (fun E9 N9 h9 => by cases h9)
    cases h9
    show G z mX12_ahead (d + 2) 0 0 22 [some (.ref 54), some (.int x1), some (.int x2), none] [.int (k_within x2 (nI 0) (nI 2)), .ref 54] (mrow M 54 (upd (M.1 54) 0 (nI 0))) Q
    refine G.if_eq (off := (7)) (tgt := 29) (by decide +kernel) rfl (fun c10 => ?_) (fun c10 => ?_)
    · skip
      rw [if_pos c10] at hk
      refine G.sl [(.iconst 0, 1, 0, 0, 0, nI 0), (.iconst 1, 1, 0, 0, 0, nI 1), (.iconst 1, 1, 0, 0, 0, nI 1)] [] (pc2 := 32) (ls2 := [some (.ref 54), some (.int x1), some (.int x2), none]) (st2 := [.int (nI 1), .int (nI 1), .int (nI 0), .ref 54]) (M2 := mrow M 54 (upd (M.1 54) 0 (nI 0))) (Ps := []) (by decide +kernel) rfl rfl trivial ?_
      have t11 : GM z mX12_may (d + 1) [.ref 54, .int (nI 0), .int (nI 1), .int (nI 1)] (mrow M 54 (upd (M.1 54) 0 (nI 0))) (fun rs => rs = .inl (some (.int (nI 0)), mrow (mrow M 54 (upd (upd (M.1 54) 0 (nI 0)) 0 (nI 1))) 55 (upd (M.1 55) 1 ((M.1 55 1) + nI 1)))) := by
        have q9 := m_may_1_f z (d + 1) (mrow M 54 (upd (M.1 54) 0 (nI 0))) (nI 1) (by first | rfl | (simp only [mput, mrow_same, mrow_hit, mrow_miss, mrow_sw, idr_eq, ne_eq, Nat.reduceEqDiff, not_false_eq_true, Nat.reduceLT, reduceCtorEq, pk_us]; done)) (by decide)
        try simp only [mput, mrow_same, mrow_hit, mrow_miss, mrow_sw, idr_eq, ne_eq, Nat.reduceEqDiff, not_false_eq_true, Nat.reduceLT, reduceCtorEq] at q9
        exact q9
      refine G.callV (as := [.int (nI 0), .int (nI 1), .int (nI 1)]) (rest := []) (a := 54) oX12_may lk_EvenFindersModel_213 (by decide +kernel) rfl rfl ⟨rfl, rfl⟩ (Nat.le_of_ble_eq_true rfl) rfl ⟨Nat.le_of_ble_eq_true rfl, Nat.le_of_ble_eq_true rfl⟩ t11 (fun v9 N9 h12 => ?_) (fun E9 N9 h12 => by cases h12)
      cases h12
      show G z mX12_ahead (d + 2) 0 0 35 [some (.ref 54), some (.int x1), some (.int x2), none] [.int (nI 0)] (mrow (mrow M 54 (upd (upd (M.1 54) 0 (nI 0)) 0 (nI 1))) 55 (upd (M.1 55) 1 ((M.1 55 1) + nI 1))) Q
      refine G.if_ne (off := (5)) (tgt := 40) (by decide +kernel) rfl (fun h9 => absurd (by decide) h9) (fun _ => ?_)
      refine G.sl [(.iconst 0, 1, 0, 0, 0, nI 0)] [] (pc2 := 39) (ls2 := [some (.ref 54), some (.int x1), some (.int x2), none]) (st2 := [.int (nI 0)]) (M2 := mrow (mrow M 54 (upd (upd (M.1 54) 0 (nI 0)) 0 (nI 1))) 55 (upd (M.1 55) 1 ((M.1 55 1) + nI 1))) (Ps := []) (by decide +kernel) rfl rfl trivial ?_
      refine G.mem (M' := mrow (mrow (mrow M 54 (upd (upd (M.1 54) 0 (nI 0)) 0 (nI 1))) 55 (upd (M.1 55) 1 ((M.1 55 1) + nI 1))) 72 (M.1 72)) (((mrow_id (N := mrow (mrow M 54 (upd (upd (M.1 54) 0 (nI 0)) 0 (nI 1))) 55 (upd (M.1 55) 1 ((M.1 55 1) + nI 1))) (c := 72) (f := M.1 72) (by first | rfl | (simp only [mput, mrow_same, mrow_hit, mrow_miss, mrow_sw, idr_eq, ne_eq, Nat.reduceEqDiff, not_false_eq_true, Nat.reduceLT, reduceCtorEq]; done))).symm).trans (by first | rfl | (simp only [mput, mrow_same, mrow_hit, mrow_miss, mrow_sw, idr_eq, ne_eq, Nat.reduceEqDiff, not_false_eq_true, Nat.reduceLT, reduceCtorEq]; done))) ?_
      exact G.reti (by decide +kernel) rfl rfl (Nat.le_of_ble_eq_true rfl) (Nat.le_of_ble_eq_true rfl) ((by rw [hQ]; simp only [k_ahead, if_neg c4, if_pos c10, mrow_self]))
    · skip
      rw [if_neg c10] at hk
      refine G.sl [(.iconst 1, 1, 0, 0, 0, nI 1), (.goto 4, 3, 30, 0, 0, 0), (.iconst 1, 1, 0, 0, 0, nI 1), (.iconst 1, 1, 0, 0, 0, nI 1)] [] (pc2 := 32) (ls2 := [some (.ref 54), some (.int x1), some (.int x2), none]) (st2 := [.int (nI 1), .int (nI 1), .int (nI 1), .ref 54]) (M2 := mrow M 54 (upd (M.1 54) 0 (nI 0))) (Ps := []) (by decide +kernel) rfl rfl trivial ?_
      have t13 : GM z mX12_may (d + 1) [.ref 54, .int (nI 1), .int (nI 1), .int (nI 1)] (mrow M 54 (upd (M.1 54) 0 (nI 0))) (fun rs => rs = .inl (some (.int (nI 1)), mrow M 54 (upd (M.1 54) 0 (nI 0)))) := by
        have q9 := m_may_1_t z (d + 1) (mrow M 54 (upd (M.1 54) 0 (nI 0))) (nI 1) (by first | rfl | (simp only [mput, mrow_same, mrow_hit, mrow_miss, mrow_sw, idr_eq, ne_eq, Nat.reduceEqDiff, not_false_eq_true, Nat.reduceLT, reduceCtorEq, pk_us]; done))
        try simp only [mput, mrow_same, mrow_hit, mrow_miss, mrow_sw, idr_eq, ne_eq, Nat.reduceEqDiff, not_false_eq_true, Nat.reduceLT, reduceCtorEq] at q9
        exact q9
      refine G.callV (as := [.int (nI 1), .int (nI 1), .int (nI 1)]) (rest := []) (a := 54) oX12_may lk_EvenFindersModel_213 (by decide +kernel) rfl rfl ⟨rfl, rfl⟩ (Nat.le_of_ble_eq_true rfl) rfl ⟨Nat.le_of_ble_eq_true rfl, Nat.le_of_ble_eq_true rfl⟩ t13 (fun v9 N9 h14 => ?_) (fun E9 N9 h14 => by cases h14)
      cases h14
      show G z mX12_ahead (d + 2) 0 0 35 [some (.ref 54), some (.int x1), some (.int x2), none] [.int (nI 1)] (mrow M 54 (upd (M.1 54) 0 (nI 0))) Q
      refine G.if_ne (off := (5)) (tgt := 40) (by decide +kernel) rfl (fun _ => ?_) (fun h9 => absurd h9 (by decide))
      refine G.sl [(.aload_n 0, 1, 0, 0, 0, 0)] [] (pc2 := 41) (ls2 := [some (.ref 54), some (.int x1), some (.int x2), none]) (st2 := [.ref 54]) (M2 := mrow M 54 (upd (M.1 54) 0 (nI 0))) (Ps := []) (by decide +kernel) rfl rfl trivial ?_
      obtain ⟨k15, hk⟩ := hk
      rcases g16 : k_take (M.1 71) (M.1 72) with ⟨u17, r18⟩
      try simp only [g16] at hk
      have t19 : GM z mX12_take (d + 1) [.ref 54] (mrow M 54 (upd (M.1 54) 0 (nI 0))) (fun rs => rs = .inl (none, mrow (mrow M 54 (upd (M.1 54) 0 (nI 0))) 72 r18)) := by
        have q9 := c_k_take_54 z d (mrow M 54 (upd (M.1 54) 0 (nI 0))) k15
        try simp only [mput, mrow_same, mrow_hit, mrow_miss, mrow_sw, idr_eq, ne_eq, Nat.reduceEqDiff, not_false_eq_true, Nat.reduceLT, reduceCtorEq, g16] at q9
        exact q9
      refine G.callV (as := []) (rest := []) (a := 54) oX12_take lk_EvenFindersModel_320 (by decide +kernel) rfl rfl ⟨rfl, rfl⟩ (Nat.le_of_ble_eq_true rfl) rfl ⟨Nat.le_of_ble_eq_true rfl, Nat.le_of_ble_eq_true rfl⟩ t19 (fun v9 N9 h20 => ?_) (fun E9 N9 h20 => by cases h20)
      cases h20
      show G z mX12_ahead (d + 2) 0 0 44 [some (.ref 54), some (.int x1), some (.int x2), none] [] (mrow (mrow M 54 (upd (M.1 54) 0 (nI 0))) 72 r18) Q
      refine G.sl [(.iconst 0, 1, 0, 0, 0, nI 0), (.istore_n 3, 1, 3, 0, 0, 0)] [] (pc2 := 46) (ls2 := [some (.ref 54), some (.int x1), some (.int x2), some (.int (nI 0))]) (st2 := []) (M2 := mrow (mrow M 54 (upd (M.1 54) 0 (nI 0))) 72 r18) (Ps := []) (by decide +kernel) rfl rfl trivial ?_
      obtain ⟨k28, hk⟩ := hk
      refine G.mem (M' := mrow (mrow (mrow M 54 (upd (M.1 54) 0 (nI 0))) 72 r18) 72 ((mrow (mrow M 54 (upd (M.1 54) 0 (nI 0))) 72 r18).1 72)) (by simp only [mrow_self]) ?_
      refine lp_k_ahead_54_46 z d (mrow (mrow M 54 (upd (M.1 54) 0 (nI 0))) 72 r18) Q x1 x2 nt hnt ct nf hnf cf FU (nI 0) ((mrow (mrow M 54 (upd (M.1 54) 0 (nI 0))) 72 r18).1 72) (by first | (simp only [mput, mrow_same, mrow_hit, mrow_miss, mrow_sw, idr_eq, ne_eq, Nat.reduceEqDiff, not_false_eq_true, Nat.reduceLT, reduceCtorEq]; exact k28) | exact k28) ?_
      try simp only [mput, mrow_same, mrow_hit, mrow_miss, mrow_sw, idr_eq, ne_eq, Nat.reduceEqDiff, not_false_eq_true, Nat.reduceLT, reduceCtorEq]
      rcases g29 : k_ahead_46 (M.1 61) nt nf x1 x2 FU (nI 0) r18 with ⟨v30, r31⟩
      show G z mX12_ahead (d + 2) 0 0 61 [some (.ref 54), none, some (.int x2), none] [] (mrow (mrow M 54 (upd (M.1 54) 0 (nI 0))) 72 r31) Q
      refine G.sl [(.iload_n 2, 1, 2, 0, 0, 0)] [] (pc2 := 62) (ls2 := [some (.ref 54), none, some (.int x2), none]) (st2 := [.int x2]) (M2 := mrow (mrow M 54 (upd (M.1 54) 0 (nI 0))) 72 r31) (Ps := []) (by decide +kernel) rfl rfl trivial ?_
      refine G.if_ne (off := (10)) (tgt := 72) (by decide +kernel) rfl (fun c32 => ?_) (fun c32 => ?_)
      · skip
        refine G.sl [(.iload_n 2, 1, 2, 0, 0, 0), (.iconst 1, 1, 0, 0, 0, nI 1)] [] (pc2 := 74) (ls2 := [some (.ref 54), none, some (.int x2), none]) (st2 := [.int (nI 1), .int x2]) (M2 := mrow (mrow M 54 (upd (M.1 54) 0 (nI 0))) 72 r31) (Ps := []) (by decide +kernel) rfl rfl trivial ?_
        refine G.ic_ne (off := (12)) (tgt := 86) (by decide +kernel) rfl (fun c33 => ?_) (fun c33 => ?_)
        · skip
          refine G.sl [(.aload_n 0, 1, 0, 0, 0, 0), (.aload_n 0, 1, 0, 0, 0, 0)] [] (pc2 := 88) (ls2 := [some (.ref 54), none, some (.int x2), none]) (st2 := [.ref 54, .ref 54]) (M2 := mrow (mrow M 54 (upd (M.1 54) 0 (nI 0))) 72 r31) (Ps := []) (by decide +kernel) rfl rfl trivial ?_
          have t35 : GM z mX12_allLying (d + 1) [.ref 54] (mrow (mrow M 54 (upd (M.1 54) 0 (nI 0))) 72 r31) (fun rs => rs = .inl (some (.int (k_allLying r31 nt)), mrow (mrow M 54 (upd (M.1 54) 0 (nI 0))) 72 r31)) := by
            have q9 := c_k_allLying_54 z (d + 1) (mrow (mrow M 54 (upd (M.1 54) 0 (nI 0))) 72 r31) nt hnt ct
            try simp only [mput, mrow_same, mrow_hit, mrow_miss, mrow_sw, idr_eq, ne_eq, Nat.reduceEqDiff, not_false_eq_true, Nat.reduceLT, reduceCtorEq] at q9
            exact q9
          refine G.callV (as := []) (rest := [.ref 54]) (a := 54) oX12_allLying lk_EvenFindersModel_376 (by decide +kernel) rfl rfl ⟨rfl, rfl⟩ (Nat.le_of_ble_eq_true rfl) rfl ⟨Nat.le_of_ble_eq_true rfl, Nat.le_of_ble_eq_true rfl⟩ t35 (fun v9 N9 h36 => ?_) (fun E9 N9 h36 => by cases h36)
          cases h36
          show G z mX12_ahead (d + 2) 0 0 91 [some (.ref 54), none, some (.int x2), none] [.int (k_allLying r31 nt), .ref 54] (mrow (mrow M 54 (upd (M.1 54) 0 (nI 0))) 72 r31) Q
          have t38 : GM z mX12_worthOf (d + 1) [.ref 54, .int (k_allLying r31 nt)] (mrow (mrow M 54 (upd (M.1 54) 0 (nI 0))) 72 r31) (fun rs => rs = .inl (some (.int (k_worthOf (M.1 61) nt (k_allLying r31 nt))), mrow (mrow M 54 (upd (M.1 54) 0 (nI 0))) 72 r31)) := by
            have q9 := c_k_worthOf_54 z (d + 1) (mrow (mrow M 54 (upd (M.1 54) 0 (nI 0))) 72 r31) (k_allLying r31 nt) nt hnt ct
            try simp only [mput, mrow_same, mrow_hit, mrow_miss, mrow_sw, idr_eq, ne_eq, Nat.reduceEqDiff, not_false_eq_true, Nat.reduceLT, reduceCtorEq] at q9
            exact q9
          refine G.callV (as := [.int (k_allLying r31 nt)]) (rest := []) (a := 54) oX12_worthOf lk_EvenFindersModel_388 (by decide +kernel) rfl rfl ⟨rfl, rfl⟩ (Nat.le_of_ble_eq_true rfl) rfl ⟨Nat.le_of_ble_eq_true rfl, Nat.le_of_ble_eq_true rfl⟩ t38 (fun v9 N9 h39 => ?_) (fun E9 N9 h39 => by cases h39)
          cases h39
          show G z mX12_ahead (d + 2) 0 0 94 [some (.ref 54), none, some (.int x2), none] [.int (k_worthOf (M.1 61) nt (k_allLying r31 nt))] (mrow (mrow M 54 (upd (M.1 54) 0 (nI 0))) 72 r31) Q
          refine G.mem (M' := mrow (mrow (mrow M 54 (upd (M.1 54) 0 (nI 0))) 55 (M.1 55)) 72 r31) (((mrow_id (N := mrow (mrow M 54 (upd (M.1 54) 0 (nI 0))) 72 r31) (c := 55) (f := M.1 55) (by first | rfl | (simp only [mput, mrow_same, mrow_hit, mrow_miss, mrow_sw, idr_eq, ne_eq, Nat.reduceEqDiff, not_false_eq_true, Nat.reduceLT, reduceCtorEq]; done))).symm).trans (by first | rfl | (simp only [mput, mrow_same, mrow_hit, mrow_miss, mrow_sw, idr_eq, ne_eq, Nat.reduceEqDiff, not_false_eq_true, Nat.reduceLT, reduceCtorEq]; done))) ?_
          exact G.reti (by decide +kernel) rfl rfl (Nat.le_of_ble_eq_true rfl) (Nat.le_of_ble_eq_true rfl) ((by rw [hQ]; simp only [k_ahead, if_neg c4, if_neg c10, g16, g29, if_neg c32, if_neg c33, mrow_self]))
        · skip
          refine G.sl [(.aload_n 0, 1, 0, 0, 0, 0), (.bipush 44, 2, 0, 0, 0, nI 44)] [] (pc2 := 80) (ls2 := [some (.ref 54), none, some (.int x2), none]) (st2 := [.int (nI 44), .ref 54]) (M2 := mrow (mrow M 54 (upd (M.1 54) 0 (nI 0))) 72 r31) (Ps := []) (by decide +kernel) rfl rfl trivial ?_
          have t41 : GM z mX12_sumOf (d + 1) [.ref 54, .int (nI 44)] (mrow (mrow M 54 (upd (M.1 54) 0 (nI 0))) 72 r31) (fun rs => rs = .inl (some (.int (k_sumOf_44 r31 nf)), mrow (mrow M 54 (upd (M.1 54) 0 (nI 0))) 72 r31)) := by
            have q9 := c_k_sumOf_44_54 z (d + 1) (mrow (mrow M 54 (upd (M.1 54) 0 (nI 0))) 72 r31) nf hnf cf
            try simp only [mput, mrow_same, mrow_hit, mrow_miss, mrow_sw, idr_eq, ne_eq, Nat.reduceEqDiff, not_false_eq_true, Nat.reduceLT, reduceCtorEq] at q9
            exact q9
          refine G.callV (as := [.int (nI 44)]) (rest := []) (a := 54) oX12_sumOf lk_EvenFindersModel_391 (by decide +kernel) rfl rfl ⟨rfl, rfl⟩ (Nat.le_of_ble_eq_true rfl) rfl ⟨Nat.le_of_ble_eq_true rfl, Nat.le_of_ble_eq_true rfl⟩ t41 (fun v9 N9 h42 => ?_) (fun E9 N9 h42 => by cases h42)
          cases h42
          show G z mX12_ahead (d + 2) 0 0 83 [some (.ref 54), none, some (.int x2), none] [.int (k_sumOf_44 r31 nf)] (mrow (mrow M 54 (upd (M.1 54) 0 (nI 0))) 72 r31) Q
          refine G.sl [(.goto 11, 3, 94, 0, 0, 0)] [] (pc2 := 94) (ls2 := [some (.ref 54), none, some (.int x2), none]) (st2 := [.int (k_sumOf_44 r31 nf)]) (M2 := mrow (mrow M 54 (upd (M.1 54) 0 (nI 0))) 72 r31) (Ps := []) (by decide +kernel) rfl rfl trivial ?_
          refine G.mem (M' := mrow (mrow (mrow M 54 (upd (M.1 54) 0 (nI 0))) 55 (M.1 55)) 72 r31) (((mrow_id (N := mrow (mrow M 54 (upd (M.1 54) 0 (nI 0))) 72 r31) (c := 55) (f := M.1 55) (by first | rfl | (simp only [mput, mrow_same, mrow_hit, mrow_miss, mrow_sw, idr_eq, ne_eq, Nat.reduceEqDiff, not_false_eq_true, Nat.reduceLT, reduceCtorEq]; done))).symm).trans (by first | rfl | (simp only [mput, mrow_same, mrow_hit, mrow_miss, mrow_sw, idr_eq, ne_eq, Nat.reduceEqDiff, not_false_eq_true, Nat.reduceLT, reduceCtorEq]; done))) ?_
          exact G.reti (by decide +kernel) rfl rfl (Nat.le_of_ble_eq_true rfl) (Nat.le_of_ble_eq_true rfl) ((by rw [hQ]; simp only [k_ahead, if_neg c4, if_neg c10, g16, g29, if_neg c32, if_pos c33, mrow_self]))
      · skip
        refine G.sl [(.aload_n 0, 1, 0, 0, 0, 0)] [] (pc2 := 66) (ls2 := [some (.ref 54), none, some (.int x2), none]) (st2 := [.ref 54]) (M2 := mrow (mrow M 54 (upd (M.1 54) 0 (nI 0))) 72 r31) (Ps := []) (by decide +kernel) rfl rfl trivial ?_
        have t44 : GM z mX12_allHeld (d + 1) [.ref 54] (mrow (mrow M 54 (upd (M.1 54) 0 (nI 0))) 72 r31) (fun rs => rs = .inl (some (.int (k_allHeld r31 nt)), mrow (mrow M 54 (upd (M.1 54) 0 (nI 0))) 72 r31)) := by
          have q9 := c_k_allHeld_54 z d (mrow (mrow M 54 (upd (M.1 54) 0 (nI 0))) 72 r31) nt hnt ct
          try simp only [mput, mrow_same, mrow_hit, mrow_miss, mrow_sw, idr_eq, ne_eq, Nat.reduceEqDiff, not_false_eq_true, Nat.reduceLT, reduceCtorEq] at q9
          exact q9
        refine G.callV (as := []) (rest := []) (a := 54) oX12_allHeld lk_EvenFindersModel_382 (by decide +kernel) rfl rfl ⟨rfl, rfl⟩ (Nat.le_of_ble_eq_true rfl) rfl ⟨Nat.le_of_ble_eq_true rfl, Nat.le_of_ble_eq_true rfl⟩ t44 (fun v9 N9 h45 => ?_) (fun E9 N9 h45 => by cases h45)
        cases h45
        show G z mX12_ahead (d + 2) 0 0 69 [some (.ref 54), none, some (.int x2), none] [.int (k_allHeld r31 nt)] (mrow (mrow M 54 (upd (M.1 54) 0 (nI 0))) 72 r31) Q
        refine G.sl [(.goto 25, 3, 94, 0, 0, 0)] [] (pc2 := 94) (ls2 := [some (.ref 54), none, some (.int x2), none]) (st2 := [.int (k_allHeld r31 nt)]) (M2 := mrow (mrow M 54 (upd (M.1 54) 0 (nI 0))) 72 r31) (Ps := []) (by decide +kernel) rfl rfl trivial ?_
        refine G.mem (M' := mrow (mrow (mrow M 54 (upd (M.1 54) 0 (nI 0))) 55 (M.1 55)) 72 r31) (((mrow_id (N := mrow (mrow M 54 (upd (M.1 54) 0 (nI 0))) 72 r31) (c := 55) (f := M.1 55) (by first | rfl | (simp only [mput, mrow_same, mrow_hit, mrow_miss, mrow_sw, idr_eq, ne_eq, Nat.reduceEqDiff, not_false_eq_true, Nat.reduceLT, reduceCtorEq]; done))).symm).trans (by first | rfl | (simp only [mput, mrow_same, mrow_hit, mrow_miss, mrow_sw, idr_eq, ne_eq, Nat.reduceEqDiff, not_false_eq_true, Nat.reduceLT, reduceCtorEq]; done))) ?_
        exact G.reti (by decide +kernel) rfl rfl (Nat.le_of_ble_eq_true rfl) (Nat.le_of_ble_eq_true rfl) ((by rw [hQ]; simp only [k_ahead, if_neg c4, if_neg c10, g16, g29, if_pos c32, mrow_self]))
set_option maxHeartbeats 4000000 in
set_option maxRecDepth 3000 in
theorem c_k_orNone (z : Zp) (d : Nat) (M : Mem) (x0 : Int32) : GM z mX12_orNone (d) [.int x0] M (fun rs => rs = .inl (some (.int (k_orNone x0)), M)) := by
  refine GM.of oX12_orNone.1 (Nat.le_of_ble_eq_true rfl) ?_
  show G z mX12_orNone (d) 0 0 0 [some (.int x0)] [] M _
  obtain ⟨Q, hQ⟩ : ∃ Q : Rs → Prop, Q = (fun rs => rs = .inl (some (.int (k_orNone x0)), M)) := ⟨_, rfl⟩
  rw [← hQ]
  refine G.sl [(.iload_n 0, 1, 0, 0, 0, 0), (.sipush 9999, 3, 0, 0, 0, nI 9999)] [] (pc2 := 4) (ls2 := [some (.int x0)]) (st2 := [.int (nI 9999), .int x0]) (M2 := M) (Ps := []) (by decide +kernel) rfl rfl trivial ?_
  refine G.ic_lt (off := (7)) (tgt := 11) (by decide +kernel) rfl (fun c1 => ?_) (fun c1 => ?_)
  · skip
    refine G.sl [(.iload_n 0, 1, 0, 0, 0, 0)] [] (pc2 := 12) (ls2 := [some (.int x0)]) (st2 := [.int x0]) (M2 := M) (Ps := []) (by decide +kernel) rfl rfl trivial ?_
    exact G.reti (by decide +kernel) rfl rfl (Nat.le_of_ble_eq_true rfl) (Nat.le_of_ble_eq_true rfl) ((by rw [hQ]; simp only [k_orNone, if_pos c1, mrow_self]))
  · skip
    refine G.sl [(.iconst (-1), 1, 0, 0, 0, (-1)), (.goto 4, 3, 12, 0, 0, 0)] [] (pc2 := 12) (ls2 := [some (.int x0)]) (st2 := [.int ((-1))]) (M2 := M) (Ps := []) (by decide +kernel) rfl rfl trivial ?_
    exact G.reti (by decide +kernel) rfl rfl (Nat.le_of_ble_eq_true rfl) (Nat.le_of_ble_eq_true rfl) ((by rw [hQ]; simp only [k_orNone, if_neg c1, mrow_self]))
set_option maxHeartbeats 4000000 in
set_option maxRecDepth 3000 in
theorem c_k_far_54 (z : Zp) (d : Nat) (M : Mem) (x1 : Int32) (x2 : Int32) (np : Nat) (hnp : np ≤ 8) (cp : M.1 54 20 = nI np) (hk : k_far_ok (M.1 54) (M.1 55) (M.1 76) np x1 x2) : GM z mX12_far (d + 2) [.ref 54, .int x1, .int x2] M (fun rs => rs = .inl (some (.int ((k_far (M.1 54) (M.1 55) (M.1 76) np x1 x2).1)), mrow (mrow M 54 ((k_far (M.1 54) (M.1 55) (M.1 76) np x1 x2).2.1)) 55 ((k_far (M.1 54) (M.1 55) (M.1 76) np x1 x2).2.2))) := by
  simp only [k_far_ok] at hk
  refine GM.of oX12_far.1 (Nat.le_of_ble_eq_true rfl) ?_
  show G z mX12_far (d + 2) 0 0 0 [some (.ref 54), some (.int x1), some (.int x2)] [] M _
  obtain ⟨Q, hQ⟩ : ∃ Q : Rs → Prop, Q = (fun rs => rs = .inl (some (.int ((k_far (M.1 54) (M.1 55) (M.1 76) np x1 x2).1)), mrow (mrow M 54 ((k_far (M.1 54) (M.1 55) (M.1 76) np x1 x2).2.1)) 55 ((k_far (M.1 54) (M.1 55) (M.1 76) np x1 x2).2.2))) := ⟨_, rfl⟩
  rw [← hQ]
  refine G.sl [(.aload_n 0, 1, 0, 0, 0, 0), (.iconst 0, 1, 0, 0, 0, nI 0), (.putfield 3, 3, 11, 0, 123, 0), (.aload_n 0, 1, 0, 0, 0, 0), (.iload_n 1, 1, 1, 0, 0, 0), (.iconst 1, 1, 0, 0, 0, nI 1)] [] (pc2 := 8) (ls2 := [some (.ref 54), some (.int x1), some (.int x2)]) (st2 := [.int (nI 1), .int x1, .ref 54]) (M2 := mput M 54 0 (nI 0)) (Ps := []) (by decide +kernel) rfl rfl trivial ?_
  refine G.mem (M' := mrow M 54 (upd (M.1 54) 0 (nI 0))) (by first | rfl | (simp only [mput, mrow_same, mrow_hit, mrow_miss, mrow_sw, idr_eq, ne_eq, Nat.reduceEqDiff, not_false_eq_true, Nat.reduceLT, reduceCtorEq]; done)) ?_
  obtain ⟨k1, hk⟩ := hk
  rcases g2 : k_isPlace (upd (M.1 54) 0 (nI 0)) (M.1 55) np x1 (nI 1) with ⟨v3, r4, r5⟩
  try simp only [g2] at hk
  have ev3 : v3 = 0 ∨ v3 = 1 := by
    have q9 := k_isPlace_01 (upd (M.1 54) 0 (nI 0)) (M.1 55) np x1 (nI 1)
    rw [g2] at q9
    exact q9
  have t6 : GM z mX12_isPlace (d + 1) [.ref 54, .int x1, .int (nI 1)] (mrow M 54 (upd (M.1 54) 0 (nI 0))) (fun rs => rs = .inl (some (.int v3), mrow (mrow M 54 r4) 55 r5)) := by
    have q9 := c_k_isPlace_54 z d (mrow M 54 (upd (M.1 54) 0 (nI 0))) x1 (nI 1) np hnp cp
    try simp only [mput, mrow_same, mrow_hit, mrow_miss, mrow_sw, idr_eq, ne_eq, Nat.reduceEqDiff, not_false_eq_true, Nat.reduceLT, reduceCtorEq, g2] at q9
    exact q9
  refine G.callV (as := [.int x1, .int (nI 1)]) (rest := []) (a := 54) oX12_isPlace lk_EvenFindersModel_394 (by decide +kernel) rfl rfl ⟨rfl, rfl⟩ (Nat.le_of_ble_eq_true rfl) rfl ⟨Nat.le_of_ble_eq_true rfl, Nat.le_of_ble_eq_true rfl⟩ t6 (fun v9 N9 h7 => ?_) (fun E9 N9 h7 => by cases h7)
  cases h7
  show G z mX12_far (d + 2) 0 0 11 [some (.ref 54), some (.int x1), some (.int x2)] [.int v3] (mrow (mrow M 54 r4) 55 r5) Q
  refine G.if_eq (off := (12)) (tgt := 23) (by decide +kernel) rfl (fun c8 => ?_) (fun c8 => ?_)
  · skip
    rw [if_pos c8] at hk
    refine G.sl [(.iconst 0, 1, 0, 0, 0, nI 0)] [] (pc2 := 24) (ls2 := [some (.ref 54), some (.int x1), some (.int x2)]) (st2 := [.int (nI 0)]) (M2 := mrow (mrow M 54 r4) 55 r5) (Ps := []) (by decide +kernel) rfl rfl trivial ?_
    exact G.reti (by decide +kernel) rfl rfl (Nat.le_of_ble_eq_true rfl) (Nat.le_of_ble_eq_true rfl) ((by rw [hQ]; simp only [k_far, g2, if_pos c8, mrow_self]))
  · skip
    rw [if_neg c8] at hk
    refine G.sl [(.aload_n 0, 1, 0, 0, 0, 0), (.iload_n 2, 1, 2, 0, 0, 0), (.iconst 1, 1, 0, 0, 0, nI 1)] [] (pc2 := 17) (ls2 := [some (.ref 54), some (.int x1), some (.int x2)]) (st2 := [.int (nI 1), .int x2, .ref 54]) (M2 := mrow (mrow M 54 r4) 55 r5) (Ps := []) (by decide +kernel) rfl rfl trivial ?_
    obtain ⟨k9, k10, hk⟩ := hk
    obtain ⟨k11, hk⟩ := hk
    rcases g12 : k_isPlace r4 r5 (ix (r4 20)) x2 (nI 1) with ⟨v13, r14, r15⟩
    try simp only [g12] at hk
    have ev13 : v13 = 0 ∨ v13 = 1 := by
      have q9 := k_isPlace_01 r4 r5 (ix (r4 20)) x2 (nI 1)
      rw [g12] at q9
      exact q9
    have t16 : GM z mX12_isPlace (d + 1) [.ref 54, .int x2, .int (nI 1)] (mrow (mrow M 54 r4) 55 r5) (fun rs => rs = .inl (some (.int v13), mrow (mrow M 54 r14) 55 r15)) := by
      have q9 := c_k_isPlace_54 z d (mrow (mrow M 54 r4) 55 r5) x2 (nI 1) (ix (r4 20)) k10 (ixE k9)
      try simp only [mput, mrow_same, mrow_hit, mrow_miss, mrow_sw, idr_eq, ne_eq, Nat.reduceEqDiff, not_false_eq_true, Nat.reduceLT, reduceCtorEq, g12] at q9
      exact q9
    refine G.callV (as := [.int x2, .int (nI 1)]) (rest := []) (a := 54) oX12_isPlace lk_EvenFindersModel_394 (by decide +kernel) rfl rfl ⟨rfl, rfl⟩ (Nat.le_of_ble_eq_true rfl) rfl ⟨Nat.le_of_ble_eq_true rfl, Nat.le_of_ble_eq_true rfl⟩ t16 (fun v9 N9 h17 => ?_) (fun E9 N9 h17 => by cases h17)
    cases h17
    show G z mX12_far (d + 2) 0 0 20 [some (.ref 54), some (.int x1), some (.int x2)] [.int v13] (mrow (mrow M 54 r14) 55 r15) Q
    refine G.if_ne (off := (5)) (tgt := 25) (by decide +kernel) rfl (fun c18 => ?_) (fun c18 => ?_)
    · skip
      rw [if_neg c18] at hk
      obtain ⟨k19, k20, k21, hk⟩ := hk
      refine G.sl [(.aload_n 0, 1, 0, 0, 0, 0), (.getfield 80, 3, 11, 46, 169, 0), (.bipush 8, 2, 0, 0, 0, nI 8), (.iload_n 1, 1, 1, 0, 0, 0), (.imul, 1, 0, 0, 0, 0), (.iload_n 2, 1, 2, 0, 0, 0), (.iadd, 1, 0, 0, 0, 0), (.iaload, 1, 0, 0, 0, 0)] [(8 * (ix x1)) + (ix x2)] (pc2 := 36) (ls2 := [some (.ref 54), some (.int x1), some (.int x2)]) (st2 := [.int (M.1 76 ((8 * (ix x1)) + (ix x2)))]) (M2 := mrow (mrow M 54 r14) 55 r15) (Ps := [(((nI 8) * x1) + x2) = nI ((8 * (ix x1)) + (ix x2)) ∧ ((8 * (ix x1)) + (ix x2)) < 64]) (by decide +kernel) rfl rfl ⟨⟨(nAdd (nMul rfl (ixE k19)) (ixE k20)), k21⟩, trivial⟩ ?_
      have t23 : GM z mX12_orNone (d + 1) [.int (M.1 76 ((8 * (ix x1)) + (ix x2)))] (mrow (mrow M 54 r14) 55 r15) (fun rs => rs = .inl (some (.int (k_orNone (M.1 76 ((8 * (ix x1)) + (ix x2))))), mrow (mrow M 54 r14) 55 r15)) := by
        have q9 := c_k_orNone z (d + 1) (mrow (mrow M 54 r14) 55 r15) (M.1 76 ((8 * (ix x1)) + (ix x2)))
        try simp only [mput, mrow_same, mrow_hit, mrow_miss, mrow_sw, idr_eq, ne_eq, Nat.reduceEqDiff, not_false_eq_true, Nat.reduceLT, reduceCtorEq] at q9
        exact q9
      refine G.callS (as := [.int (M.1 76 ((8 * (ix x1)) + (ix x2)))]) (rest := []) oX12_orNone lk_EvenFindersModel_403 (by decide +kernel) rfl (Nat.le_of_ble_eq_true rfl) rfl ⟨Nat.le_of_ble_eq_true rfl, Nat.le_of_ble_eq_true rfl⟩ t23 (fun v9 N9 h24 => ?_) (fun E9 N9 h24 => by cases h24)
      cases h24
      show G z mX12_far (d + 2) 0 0 39 [some (.ref 54), some (.int x1), some (.int x2)] [.int (k_orNone (M.1 76 ((8 * (ix x1)) + (ix x2))))] (mrow (mrow M 54 r14) 55 r15) Q
      exact G.reti (by decide +kernel) rfl rfl (Nat.le_of_ble_eq_true rfl) (Nat.le_of_ble_eq_true rfl) ((by rw [hQ]; simp only [k_far, g2, if_neg c8, g12, if_neg c18, mrow_self]))
    · skip
      rw [if_pos c18] at hk
      refine G.sl [(.iconst 0, 1, 0, 0, 0, nI 0)] [] (pc2 := 24) (ls2 := [some (.ref 54), some (.int x1), some (.int x2)]) (st2 := [.int (nI 0)]) (M2 := mrow (mrow M 54 r14) 55 r15) (Ps := []) (by decide +kernel) rfl rfl trivial ?_
      exact G.reti (by decide +kernel) rfl rfl (Nat.le_of_ble_eq_true rfl) (Nat.le_of_ble_eq_true rfl) ((by rw [hQ]; simp only [k_far, g2, if_neg c8, g12, if_pos c18, mrow_self]))
set_option maxHeartbeats 4000000 in
set_option maxRecDepth 3000 in
theorem lp_k_round_54_24 (z : Zp) (d : Nat) (M : Mem) (Q : Rs → Prop) (x1 : Int32) (np : Nat) (hnp : np ≤ 8) (cp : M.1 54 20 = nI np) (nt : Nat) (hnt : nt ≤ 10) (ct : M.1 54 22 = nI nt) (hX : G z mX12_round (d + 2) 0 0 56 [some (.ref 54), some (.int x1), some (.int (k_round_24 (M.1 72) nt x1 np)), none, none, none, none, none] [] M Q) : G z mX12_round (d + 2) 0 0 24 [some (.ref 54), some (.int x1), some (.int (nI 0)), some (.int (nI 0)), none, none, none, none] [] M Q := by
  refine down (n := np) (P := fun i3 => G z mX12_round (d + 2) 0 0 24 [some (.ref 54), some (.int x1), some (.int (k_round_24 (M.1 72) nt x1 i3)), some (.int (nI i3)), none, none, none, none] [] M Q) ?_ ?_ 0 (Nat.zero_le _)
  · skip
    refine G.sl [(.iload_n 3, 1, 3, 0, 0, 0), (.aload_n 0, 1, 0, 0, 0, 0), (.getfield 156, 3, 11, 20, 143, 0)] [] (pc2 := 29) (ls2 := [some (.ref 54), some (.int x1), some (.int (k_round_24 (M.1 72) nt x1 np)), some (.int (nI np)), none, none, none, none]) (st2 := [.int (M.1 54 20), .int (nI np)]) (M2 := M) (Ps := []) (by decide +kernel) rfl rfl trivial ?_
    rw [cp]
    refine G.ic_ge (off := (27)) (tgt := 56) (by decide +kernel) rfl (fun _ => ?_) (fun h9 => absurd (nI_le (by omega) (by omega)) h9)
    refine G.loc (ls2 := [some (.ref 54), some (.int x1), some (.int (k_round_24 (M.1 72) nt x1 np)), none, none, none, none, none]) (by simp [subL]) ?_
    exact hX
  · skip
    intro i3 hi ih
    show G z mX12_round (d + 2) 0 0 24 [some (.ref 54), some (.int x1), some (.int (k_round_24 (M.1 72) nt x1 i3)), some (.int (nI i3)), none, none, none, none] [] M Q
    refine G.sl [(.iload_n 3, 1, 3, 0, 0, 0), (.aload_n 0, 1, 0, 0, 0, 0), (.getfield 156, 3, 11, 20, 143, 0)] [] (pc2 := 29) (ls2 := [some (.ref 54), some (.int x1), some (.int (k_round_24 (M.1 72) nt x1 i3)), some (.int (nI i3)), none, none, none, none]) (st2 := [.int (M.1 54 20), .int (nI i3)]) (M2 := M) (Ps := []) (by decide +kernel) rfl rfl trivial ?_
    rw [cp]
    refine G.ic_ge (off := (27)) (tgt := 56) (by decide +kernel) rfl (fun h9 => absurd h9 (nI_ge (by omega) (by omega))) (fun _ => ?_)
    refine G.sl [(.iload_n 2, 1, 2, 0, 0, 0), (.aload_n 0, 1, 0, 0, 0, 0), (.iload_n 3, 1, 3, 0, 0, 0)] [] (pc2 := 35) (ls2 := [some (.ref 54), some (.int x1), some (.int (k_round_24 (M.1 72) nt x1 i3)), some (.int (nI i3)), none, none, none, none]) (st2 := [.int (nI i3), .ref 54, .int (k_round_24 (M.1 72) nt x1 i3)]) (M2 := M) (Ps := []) (by decide +kernel) rfl rfl trivial ?_
    have t16 : GM z mX12_lyingAt (d + 1) [.ref 54, .int (nI i3)] M (fun rs => rs = .inl (some (.int (k_lyingAt (M.1 72) nt (nI i3))), M)) := by
      have q9 := c_k_lyingAt_54 z (d + 1) M (nI i3) nt hnt ct
      try simp only [mput, mrow_same, mrow_hit, mrow_miss, mrow_sw, idr_eq, ne_eq, Nat.reduceEqDiff, not_false_eq_true, Nat.reduceLT, reduceCtorEq] at q9
      exact q9
    refine G.callV (as := [.int (nI i3)]) (rest := [.int (k_round_24 (M.1 72) nt x1 i3)]) (a := 54) oX12_lyingAt lk_EvenFindersModel_348 (by decide +kernel) rfl rfl ⟨rfl, rfl⟩ (Nat.le_of_ble_eq_true rfl) rfl ⟨Nat.le_of_ble_eq_true rfl, Nat.le_of_ble_eq_true rfl⟩ t16 (fun v9 N9 h17 => ?_) (fun E9 N9 h17 => by cases h17)
    cases h17
    show G z mX12_round (d + 2) 0 0 38 [some (.ref 54), some (.int x1), some (.int (k_round_24 (M.1 72) nt x1 i3)), some (.int (nI i3)), none, none, none, none] [.int (k_lyingAt (M.1 72) nt (nI i3)), .int (k_round_24 (M.1 72) nt x1 i3)] M Q
    refine G.if_eq (off := (9)) (tgt := 47) (by decide +kernel) rfl (fun c18 => ?_) (fun c18 => ?_)
    · skip
      refine G.sl [(.iconst 0, 1, 0, 0, 0, nI 0), (.ior, 1, 0, 0, 0, 0), (.istore_n 2, 1, 2, 0, 0, 0), (.iinc 3 1, 3, 3, 0, 0, nI 1), (.goto (-29), 3, 24, 0, 0, 0)] [] (pc2 := 24) (ls2 := [some (.ref 54), some (.int x1), some (.int ((k_round_24 (M.1 72) nt x1 i3) ||| (nI 0))), some (.int ((nI i3) + nI 1)), none, none, none, none]) (st2 := []) (M2 := M) (Ps := []) (by decide +kernel) rfl rfl trivial ?_
      rw [nI_add i3 1]
      simp only [k_round_24, if_pos c18] at ih
      exact ih
    · skip
      refine G.sl [(.iconst 1, 1, 0, 0, 0, nI 1), (.iload_n 3, 1, 3, 0, 0, 0), (.ishl, 1, 0, 0, 0, 0), (.goto 4, 3, 48, 0, 0, 0), (.ior, 1, 0, 0, 0, 0), (.istore_n 2, 1, 2, 0, 0, 0), (.iinc 3 1, 3, 3, 0, 0, nI 1), (.goto (-29), 3, 24, 0, 0, 0)] [] (pc2 := 24) (ls2 := [some (.ref 54), some (.int x1), some (.int ((k_round_24 (M.1 72) nt x1 i3) ||| ((nI 1) <<< ((nI i3) &&& 31)))), some (.int ((nI i3) + nI 1)), none, none, none, none]) (st2 := []) (M2 := M) (Ps := []) (by decide +kernel) rfl rfl trivial ?_
      rw [nI_add i3 1]
      simp only [k_round_24, if_neg c18] at ih
      exact ih
set_option maxHeartbeats 4000000 in
set_option maxRecDepth 3000 in
theorem lp_k_round_54_107 (z : Zp) (d : Nat) (M : Mem) (Q : Rs → Prop) (x1 : Int32) (x2 : Int32) (x3 : Int32) (n4 : Nat) (np : Nat) (hnp : np ≤ 8) (cp : M.1 54 20 = nI np) (b4 : n4 < 8) (hk : ∀ i6, i6 < np → k_round_107_ok (M.1 76) (M.1 77) x1 x2 x3 n4 i6) (hX : G z mX12_round (d + 2) 0 0 185 [some (.ref 54), some (.int x1), some (.int x2), some (.int x3), some (.int (nI n4)), some (.int (k_round_107 (M.1 76) (M.1 77) x1 x2 x3 n4 np)), none, none] [] M Q) : G z mX12_round (d + 2) 0 0 107 [some (.ref 54), some (.int x1), some (.int x2), some (.int x3), some (.int (nI n4)), some (.int (nI 9999)), some (.int (nI 0)), none] [] M Q := by
  refine down (n := np) (P := fun i6 => G z mX12_round (d + 2) 0 0 107 [some (.ref 54), some (.int x1), some (.int x2), some (.int x3), some (.int (nI n4)), some (.int (k_round_107 (M.1 76) (M.1 77) x1 x2 x3 n4 i6)), some (.int (nI i6)), none] [] M Q) ?_ ?_ 0 (Nat.zero_le _)
  · skip
    refine G.sl [(.iload 6, 2, 6, 0, 0, 0), (.aload_n 0, 1, 0, 0, 0, 0), (.getfield 156, 3, 11, 20, 143, 0)] [] (pc2 := 113) (ls2 := [some (.ref 54), some (.int x1), some (.int x2), some (.int x3), some (.int (nI n4)), some (.int (k_round_107 (M.1 76) (M.1 77) x1 x2 x3 n4 np)), some (.int (nI np)), none]) (st2 := [.int (M.1 54 20), .int (nI np)]) (M2 := M) (Ps := []) (by decide +kernel) rfl rfl trivial ?_
    rw [cp]
    refine G.ic_ge (off := (72)) (tgt := 185) (by decide +kernel) rfl (fun _ => ?_) (fun h9 => absurd (nI_le (by omega) (by omega)) h9)
    refine G.loc (ls2 := [some (.ref 54), some (.int x1), some (.int x2), some (.int x3), some (.int (nI n4)), some (.int (k_round_107 (M.1 76) (M.1 77) x1 x2 x3 n4 np)), none, none]) (by simp [subL]) ?_
    exact hX
  · skip
    intro i6 hi ih
    have hk := hk i6 hi
    simp only [k_round_107_ok] at hk
    show G z mX12_round (d + 2) 0 0 107 [some (.ref 54), some (.int x1), some (.int x2), some (.int x3), some (.int (nI n4)), some (.int (k_round_107 (M.1 76) (M.1 77) x1 x2 x3 n4 i6)), some (.int (nI i6)), none] [] M Q
    refine G.sl [(.iload 6, 2, 6, 0, 0, 0), (.aload_n 0, 1, 0, 0, 0, 0), (.getfield 156, 3, 11, 20, 143, 0)] [] (pc2 := 113) (ls2 := [some (.ref 54), some (.int x1), some (.int x2), some (.int x3), some (.int (nI n4)), some (.int (k_round_107 (M.1 76) (M.1 77) x1 x2 x3 n4 i6)), some (.int (nI i6)), none]) (st2 := [.int (M.1 54 20), .int (nI i6)]) (M2 := M) (Ps := []) (by decide +kernel) rfl rfl trivial ?_
    rw [cp]
    refine G.ic_ge (off := (72)) (tgt := 185) (by decide +kernel) rfl (fun h9 => absurd h9 (nI_ge (by omega) (by omega))) (fun _ => ?_)
    refine G.sl [(.iload_n 3, 1, 3, 0, 0, 0), (.iload 6, 2, 6, 0, 0, 0), (.ishr, 1, 0, 0, 0, 0), (.iconst 1, 1, 0, 0, 0, nI 1), (.iand, 1, 0, 0, 0, 0)] [] (pc2 := 122) (ls2 := [some (.ref 54), some (.int x1), some (.int x2), some (.int x3), some (.int (nI n4)), some (.int (k_round_107 (M.1 76) (M.1 77) x1 x2 x3 n4 i6)), some (.int (nI i6)), none]) (st2 := [.int ((x3 >>> ((nI i6) &&& 31)) &&& (nI 1))]) (M2 := M) (Ps := []) (by decide +kernel) rfl rfl trivial ?_
    refine G.if_ne (off := (6)) (tgt := 128) (by decide +kernel) rfl (fun c28 => ?_) (fun c28 => ?_)
    · skip
      rw [if_neg c28] at hk
      obtain ⟨k29, k30, hk⟩ := hk
      refine G.sl [(.aload_n 0, 1, 0, 0, 0, 0), (.getfield 80, 3, 11, 46, 169, 0), (.bipush 8, 2, 0, 0, 0, nI 8), (.iload 4, 2, 4, 0, 0, 0), (.imul, 1, 0, 0, 0, 0), (.iload 6, 2, 6, 0, 0, 0), (.iadd, 1, 0, 0, 0, 0), (.iaload, 1, 0, 0, 0, 0), (.aload_n 0, 1, 0, 0, 0, 0), (.getfield 83, 3, 11, 47, 170, 0), (.iload 6, 2, 6, 0, 0, 0), (.bipush 8, 2, 0, 0, 0, nI 8), (.ishl, 1, 0, 0, 0, 0), (.iload_n 3, 1, 3, 0, 0, 0), (.iconst 1, 1, 0, 0, 0, nI 1), (.iload 6, 2, 6, 0, 0, 0), (.ishl, 1, 0, 0, 0, 0), (.iconst (-1), 1, 0, 0, 0, (-1)), (.ixor, 1, 0, 0, 0, 0), (.iand, 1, 0, 0, 0, 0), (.ior, 1, 0, 0, 0, 0), (.iaload, 1, 0, 0, 0, 0), (.iadd, 1, 0, 0, 0, 0), (.istore 7, 2, 7, 0, 0, 0), (.iload 7, 2, 7, 0, 0, 0), (.iload 5, 2, 5, 0, 0, 0)] [(8 * n4) + i6, ix (((nI i6) <<< ((nI 8) &&& 31)) ||| (x3 &&& (((nI 1) <<< ((nI i6) &&& 31)) ^^^ ((-1)))))] (pc2 := 167) (ls2 := [some (.ref 54), some (.int x1), some (.int x2), some (.int x3), some (.int (nI n4)), some (.int (k_round_107 (M.1 76) (M.1 77) x1 x2 x3 n4 i6)), some (.int (nI i6)), some (.int ((M.1 76 ((8 * n4) + i6)) + (M.1 77 (ix (((nI i6) <<< ((nI 8) &&& 31)) ||| (x3 &&& (((nI 1) <<< ((nI i6) &&& 31)) ^^^ ((-1)))))))))]) (st2 := [.int (k_round_107 (M.1 76) (M.1 77) x1 x2 x3 n4 i6), .int ((M.1 76 ((8 * n4) + i6)) + (M.1 77 (ix (((nI i6) <<< ((nI 8) &&& 31)) ||| (x3 &&& (((nI 1) <<< ((nI i6) &&& 31)) ^^^ ((-1))))))))]) (M2 := M) (Ps := [(((nI 8) * (nI n4)) + (nI i6)) = nI ((8 * n4) + i6) ∧ ((8 * n4) + i6) < 64, (((nI i6) <<< ((nI 8) &&& 31)) ||| (x3 &&& (((nI 1) <<< ((nI i6) &&& 31)) ^^^ ((-1))))) = nI (ix (((nI i6) <<< ((nI 8) &&& 31)) ||| (x3 &&& (((nI 1) <<< ((nI i6) &&& 31)) ^^^ ((-1)))))) ∧ (ix (((nI i6) <<< ((nI 8) &&& 31)) ||| (x3 &&& (((nI 1) <<< ((nI i6) &&& 31)) ^^^ ((-1)))))) < 2048]) (by decide +kernel) rfl rfl ⟨⟨(nAdd (pk_mul _ _) rfl), (by omega)⟩, ⟨(ixE k29), k30⟩, trivial⟩ ?_
      refine G.ic_ge (off := (8)) (tgt := 175) (by decide +kernel) rfl (fun c31 => ?_) (fun c31 => ?_)
      · skip
        refine G.sl [(.iload 5, 2, 5, 0, 0, 0), (.istore 5, 2, 5, 0, 0, 0), (.iinc 6 1, 3, 6, 0, 0, nI 1), (.goto (-75), 3, 107, 0, 0, 0)] [] (pc2 := 107) (ls2 := [some (.ref 54), some (.int x1), some (.int x2), some (.int x3), some (.int (nI n4)), some (.int (k_round_107 (M.1 76) (M.1 77) x1 x2 x3 n4 i6)), some (.int ((nI i6) + nI 1)), some (.int ((M.1 76 ((8 * n4) + i6)) + (M.1 77 (ix (((nI i6) <<< ((nI 8) &&& 31)) ||| (x3 &&& (((nI 1) <<< ((nI i6) &&& 31)) ^^^ ((-1)))))))))]) (st2 := []) (M2 := M) (Ps := []) (by decide +kernel) rfl rfl trivial ?_
        refine G.loc (ls2 := [some (.ref 54), some (.int x1), some (.int x2), some (.int x3), some (.int (nI n4)), some (.int (k_round_107 (M.1 76) (M.1 77) x1 x2 x3 n4 i6)), some (.int ((nI i6) + nI 1)), none]) (by simp [subL]) ?_
        rw [nI_add i6 1]
        simp only [k_round_107, if_neg c28, if_pos c31] at ih
        exact ih
      · skip
        refine G.sl [(.iload 7, 2, 7, 0, 0, 0), (.goto 5, 3, 177, 0, 0, 0), (.istore 5, 2, 5, 0, 0, 0), (.iinc 6 1, 3, 6, 0, 0, nI 1), (.goto (-75), 3, 107, 0, 0, 0)] [] (pc2 := 107) (ls2 := [some (.ref 54), some (.int x1), some (.int x2), some (.int x3), some (.int (nI n4)), some (.int ((M.1 76 ((8 * n4) + i6)) + (M.1 77 (ix (((nI i6) <<< ((nI 8) &&& 31)) ||| (x3 &&& (((nI 1) <<< ((nI i6) &&& 31)) ^^^ ((-1))))))))), some (.int ((nI i6) + nI 1)), some (.int ((M.1 76 ((8 * n4) + i6)) + (M.1 77 (ix (((nI i6) <<< ((nI 8) &&& 31)) ||| (x3 &&& (((nI 1) <<< ((nI i6) &&& 31)) ^^^ ((-1)))))))))]) (st2 := []) (M2 := M) (Ps := []) (by decide +kernel) rfl rfl trivial ?_
        refine G.loc (ls2 := [some (.ref 54), some (.int x1), some (.int x2), some (.int x3), some (.int (nI n4)), some (.int ((M.1 76 ((8 * n4) + i6)) + (M.1 77 (ix (((nI i6) <<< ((nI 8) &&& 31)) ||| (x3 &&& (((nI 1) <<< ((nI i6) &&& 31)) ^^^ ((-1))))))))), some (.int ((nI i6) + nI 1)), none]) (by simp [subL]) ?_
        rw [nI_add i6 1]
        simp only [k_round_107, if_neg c28, if_neg c31] at ih
        exact ih
    · skip
      rw [if_pos c28] at hk
      refine G.sl [(.goto 54, 3, 179, 0, 0, 0), (.iinc 6 1, 3, 6, 0, 0, nI 1), (.goto (-75), 3, 107, 0, 0, 0)] [] (pc2 := 107) (ls2 := [some (.ref 54), some (.int x1), some (.int x2), some (.int x3), some (.int (nI n4)), some (.int (k_round_107 (M.1 76) (M.1 77) x1 x2 x3 n4 i6)), some (.int ((nI i6) + nI 1)), none]) (st2 := []) (M2 := M) (Ps := []) (by decide +kernel) rfl rfl trivial ?_
      rw [nI_add i6 1]
      simp only [k_round_107, if_pos c28] at ih
      exact ih
set_option maxHeartbeats 4000000 in
set_option maxRecDepth 3000 in
theorem lp_k_round_54_107b (z : Zp) (d : Nat) (M : Mem) (Q : Rs → Prop) (x1 : Int32) (x2 : Int32) (x3 : Int32) (n4 : Nat) (np : Nat) (hnp : np ≤ 8) (cp : M.1 54 20 = nI np) (b4 : n4 < 8) (hk : ∀ i6, i6 < np → k_round_107_ok (M.1 76) (M.1 77) x1 x2 x3 n4 i6) (hX : G z mX12_round (d + 2) 0 0 185 [some (.ref 54), some (.int x1), some (.int x2), some (.int x3), some (.int (nI n4)), some (.int (k_round_107b (M.1 76) (M.1 77) x1 x2 x3 n4 np)), none, none] [] M Q) : G z mX12_round (d + 2) 0 0 107 [some (.ref 54), some (.int x1), some (.int x2), some (.int x3), some (.int (nI n4)), some (.int (nI 0)), some (.int (nI 0)), none] [] M Q := by
  refine down (n := np) (P := fun i6 => G z mX12_round (d + 2) 0 0 107 [some (.ref 54), some (.int x1), some (.int x2), some (.int x3), some (.int (nI n4)), some (.int (k_round_107b (M.1 76) (M.1 77) x1 x2 x3 n4 i6)), some (.int (nI i6)), none] [] M Q) ?_ ?_ 0 (Nat.zero_le _)
  · skip
    refine G.sl [(.iload 6, 2, 6, 0, 0, 0), (.aload_n 0, 1, 0, 0, 0, 0), (.getfield 156, 3, 11, 20, 143, 0)] [] (pc2 := 113) (ls2 := [some (.ref 54), some (.int x1), some (.int x2), some (.int x3), some (.int (nI n4)), some (.int (k_round_107b (M.1 76) (M.1 77) x1 x2 x3 n4 np)), some (.int (nI np)), none]) (st2 := [.int (M.1 54 20), .int (nI np)]) (M2 := M) (Ps := []) (by decide +kernel) rfl rfl trivial ?_
    rw [cp]
    refine G.ic_ge (off := (72)) (tgt := 185) (by decide +kernel) rfl (fun _ => ?_) (fun h9 => absurd (nI_le (by omega) (by omega)) h9)
    refine G.loc (ls2 := [some (.ref 54), some (.int x1), some (.int x2), some (.int x3), some (.int (nI n4)), some (.int (k_round_107b (M.1 76) (M.1 77) x1 x2 x3 n4 np)), none, none]) (by simp [subL]) ?_
    exact hX
  · skip
    intro i6 hi ih
    have hk := hk i6 hi
    simp only [k_round_107_ok] at hk
    show G z mX12_round (d + 2) 0 0 107 [some (.ref 54), some (.int x1), some (.int x2), some (.int x3), some (.int (nI n4)), some (.int (k_round_107b (M.1 76) (M.1 77) x1 x2 x3 n4 i6)), some (.int (nI i6)), none] [] M Q
    refine G.sl [(.iload 6, 2, 6, 0, 0, 0), (.aload_n 0, 1, 0, 0, 0, 0), (.getfield 156, 3, 11, 20, 143, 0)] [] (pc2 := 113) (ls2 := [some (.ref 54), some (.int x1), some (.int x2), some (.int x3), some (.int (nI n4)), some (.int (k_round_107b (M.1 76) (M.1 77) x1 x2 x3 n4 i6)), some (.int (nI i6)), none]) (st2 := [.int (M.1 54 20), .int (nI i6)]) (M2 := M) (Ps := []) (by decide +kernel) rfl rfl trivial ?_
    rw [cp]
    refine G.ic_ge (off := (72)) (tgt := 185) (by decide +kernel) rfl (fun h9 => absurd h9 (nI_ge (by omega) (by omega))) (fun _ => ?_)
    refine G.sl [(.iload_n 3, 1, 3, 0, 0, 0), (.iload 6, 2, 6, 0, 0, 0), (.ishr, 1, 0, 0, 0, 0), (.iconst 1, 1, 0, 0, 0, nI 1), (.iand, 1, 0, 0, 0, 0)] [] (pc2 := 122) (ls2 := [some (.ref 54), some (.int x1), some (.int x2), some (.int x3), some (.int (nI n4)), some (.int (k_round_107b (M.1 76) (M.1 77) x1 x2 x3 n4 i6)), some (.int (nI i6)), none]) (st2 := [.int ((x3 >>> ((nI i6) &&& 31)) &&& (nI 1))]) (M2 := M) (Ps := []) (by decide +kernel) rfl rfl trivial ?_
    refine G.if_ne (off := (6)) (tgt := 128) (by decide +kernel) rfl (fun c35 => ?_) (fun c35 => ?_)
    · skip
      rw [if_neg c35] at hk
      obtain ⟨k36, k37, hk⟩ := hk
      refine G.sl [(.aload_n 0, 1, 0, 0, 0, 0), (.getfield 80, 3, 11, 46, 169, 0), (.bipush 8, 2, 0, 0, 0, nI 8), (.iload 4, 2, 4, 0, 0, 0), (.imul, 1, 0, 0, 0, 0), (.iload 6, 2, 6, 0, 0, 0), (.iadd, 1, 0, 0, 0, 0), (.iaload, 1, 0, 0, 0, 0), (.aload_n 0, 1, 0, 0, 0, 0), (.getfield 83, 3, 11, 47, 170, 0), (.iload 6, 2, 6, 0, 0, 0), (.bipush 8, 2, 0, 0, 0, nI 8), (.ishl, 1, 0, 0, 0, 0), (.iload_n 3, 1, 3, 0, 0, 0), (.iconst 1, 1, 0, 0, 0, nI 1), (.iload 6, 2, 6, 0, 0, 0), (.ishl, 1, 0, 0, 0, 0), (.iconst (-1), 1, 0, 0, 0, (-1)), (.ixor, 1, 0, 0, 0, 0), (.iand, 1, 0, 0, 0, 0), (.ior, 1, 0, 0, 0, 0), (.iaload, 1, 0, 0, 0, 0), (.iadd, 1, 0, 0, 0, 0), (.istore 7, 2, 7, 0, 0, 0), (.iload 7, 2, 7, 0, 0, 0), (.iload 5, 2, 5, 0, 0, 0)] [(8 * n4) + i6, ix (((nI i6) <<< ((nI 8) &&& 31)) ||| (x3 &&& (((nI 1) <<< ((nI i6) &&& 31)) ^^^ ((-1)))))] (pc2 := 167) (ls2 := [some (.ref 54), some (.int x1), some (.int x2), some (.int x3), some (.int (nI n4)), some (.int (k_round_107b (M.1 76) (M.1 77) x1 x2 x3 n4 i6)), some (.int (nI i6)), some (.int ((M.1 76 ((8 * n4) + i6)) + (M.1 77 (ix (((nI i6) <<< ((nI 8) &&& 31)) ||| (x3 &&& (((nI 1) <<< ((nI i6) &&& 31)) ^^^ ((-1)))))))))]) (st2 := [.int (k_round_107b (M.1 76) (M.1 77) x1 x2 x3 n4 i6), .int ((M.1 76 ((8 * n4) + i6)) + (M.1 77 (ix (((nI i6) <<< ((nI 8) &&& 31)) ||| (x3 &&& (((nI 1) <<< ((nI i6) &&& 31)) ^^^ ((-1))))))))]) (M2 := M) (Ps := [(((nI 8) * (nI n4)) + (nI i6)) = nI ((8 * n4) + i6) ∧ ((8 * n4) + i6) < 64, (((nI i6) <<< ((nI 8) &&& 31)) ||| (x3 &&& (((nI 1) <<< ((nI i6) &&& 31)) ^^^ ((-1))))) = nI (ix (((nI i6) <<< ((nI 8) &&& 31)) ||| (x3 &&& (((nI 1) <<< ((nI i6) &&& 31)) ^^^ ((-1)))))) ∧ (ix (((nI i6) <<< ((nI 8) &&& 31)) ||| (x3 &&& (((nI 1) <<< ((nI i6) &&& 31)) ^^^ ((-1)))))) < 2048]) (by decide +kernel) rfl rfl ⟨⟨(nAdd (pk_mul _ _) rfl), (by omega)⟩, ⟨(ixE k36), k37⟩, trivial⟩ ?_
      refine G.ic_ge (off := (8)) (tgt := 175) (by decide +kernel) rfl (fun c38 => ?_) (fun c38 => ?_)
      · skip
        refine G.sl [(.iload 5, 2, 5, 0, 0, 0), (.istore 5, 2, 5, 0, 0, 0), (.iinc 6 1, 3, 6, 0, 0, nI 1), (.goto (-75), 3, 107, 0, 0, 0)] [] (pc2 := 107) (ls2 := [some (.ref 54), some (.int x1), some (.int x2), some (.int x3), some (.int (nI n4)), some (.int (k_round_107b (M.1 76) (M.1 77) x1 x2 x3 n4 i6)), some (.int ((nI i6) + nI 1)), some (.int ((M.1 76 ((8 * n4) + i6)) + (M.1 77 (ix (((nI i6) <<< ((nI 8) &&& 31)) ||| (x3 &&& (((nI 1) <<< ((nI i6) &&& 31)) ^^^ ((-1)))))))))]) (st2 := []) (M2 := M) (Ps := []) (by decide +kernel) rfl rfl trivial ?_
        refine G.loc (ls2 := [some (.ref 54), some (.int x1), some (.int x2), some (.int x3), some (.int (nI n4)), some (.int (k_round_107b (M.1 76) (M.1 77) x1 x2 x3 n4 i6)), some (.int ((nI i6) + nI 1)), none]) (by simp [subL]) ?_
        rw [nI_add i6 1]
        simp only [k_round_107b, if_neg c35, if_pos c38] at ih
        exact ih
      · skip
        refine G.sl [(.iload 7, 2, 7, 0, 0, 0), (.goto 5, 3, 177, 0, 0, 0), (.istore 5, 2, 5, 0, 0, 0), (.iinc 6 1, 3, 6, 0, 0, nI 1), (.goto (-75), 3, 107, 0, 0, 0)] [] (pc2 := 107) (ls2 := [some (.ref 54), some (.int x1), some (.int x2), some (.int x3), some (.int (nI n4)), some (.int ((M.1 76 ((8 * n4) + i6)) + (M.1 77 (ix (((nI i6) <<< ((nI 8) &&& 31)) ||| (x3 &&& (((nI 1) <<< ((nI i6) &&& 31)) ^^^ ((-1))))))))), some (.int ((nI i6) + nI 1)), some (.int ((M.1 76 ((8 * n4) + i6)) + (M.1 77 (ix (((nI i6) <<< ((nI 8) &&& 31)) ||| (x3 &&& (((nI 1) <<< ((nI i6) &&& 31)) ^^^ ((-1)))))))))]) (st2 := []) (M2 := M) (Ps := []) (by decide +kernel) rfl rfl trivial ?_
        refine G.loc (ls2 := [some (.ref 54), some (.int x1), some (.int x2), some (.int x3), some (.int (nI n4)), some (.int ((M.1 76 ((8 * n4) + i6)) + (M.1 77 (ix (((nI i6) <<< ((nI 8) &&& 31)) ||| (x3 &&& (((nI 1) <<< ((nI i6) &&& 31)) ^^^ ((-1))))))))), some (.int ((nI i6) + nI 1)), none]) (by simp [subL]) ?_
        rw [nI_add i6 1]
        simp only [k_round_107b, if_neg c35, if_neg c38] at ih
        exact ih
    · skip
      rw [if_pos c35] at hk
      refine G.sl [(.goto 54, 3, 179, 0, 0, 0), (.iinc 6 1, 3, 6, 0, 0, nI 1), (.goto (-75), 3, 107, 0, 0, 0)] [] (pc2 := 107) (ls2 := [some (.ref 54), some (.int x1), some (.int x2), some (.int x3), some (.int (nI n4)), some (.int (k_round_107b (M.1 76) (M.1 77) x1 x2 x3 n4 i6)), some (.int ((nI i6) + nI 1)), none]) (st2 := []) (M2 := M) (Ps := []) (by decide +kernel) rfl rfl trivial ?_
      rw [nI_add i6 1]
      simp only [k_round_107b, if_pos c35] at ih
      exact ih
set_option maxHeartbeats 4000000 in
set_option maxRecDepth 3000 in
theorem lp_k_round_54_82 (z : Zp) (d : Nat) (M : Mem) (Q : Rs → Prop) (x1 : Int32) (x2 : Int32) (x3 : Int32) (np : Nat) (hnp : np ≤ 8) (cp : M.1 54 20 = nI np) (hk : ∀ i4, i4 < np → k_round_82_ok (M.1 76) (M.1 77) np x1 x2 x3 i4) (hX : G z mX12_round (d + 2) 0 0 205 [some (.ref 54), some (.int x1), some (.int x2), some (.int x3), none, none, none, none] [] (mrow M 77 (k_round_82 (M.1 76) (M.1 77) np x1 x2 x3 np)) Q) : G z mX12_round (d + 2) 0 0 82 [some (.ref 54), some (.int x1), some (.int x2), some (.int x3), some (.int (nI 0)), none, none, none] [] M Q := by
  refine G.mem (M' := mrow M 77 (M.1 77)) (by simp only [mrow_self]) ?_
  refine down (n := np) (P := fun i4 => G z mX12_round (d + 2) 0 0 82 [some (.ref 54), some (.int x1), some (.int x2), some (.int x3), some (.int (nI i4)), none, none, none] [] (mrow M 77 (k_round_82 (M.1 76) (M.1 77) np x1 x2 x3 i4)) Q) ?_ ?_ 0 (Nat.zero_le _)
  · skip
    refine G.sl [(.iload 4, 2, 4, 0, 0, 0), (.aload_n 0, 1, 0, 0, 0, 0), (.getfield 156, 3, 11, 20, 143, 0)] [] (pc2 := 88) (ls2 := [some (.ref 54), some (.int x1), some (.int x2), some (.int x3), some (.int (nI np)), none, none, none]) (st2 := [.int (M.1 54 20), .int (nI np)]) (M2 := mrow M 77 (k_round_82 (M.1 76) (M.1 77) np x1 x2 x3 np)) (Ps := []) (by decide +kernel) rfl rfl trivial ?_
    rw [cp]
    refine G.ic_ge (off := (117)) (tgt := 205) (by decide +kernel) rfl (fun _ => ?_) (fun h9 => absurd (nI_le (by omega) (by omega)) h9)
    refine G.loc (ls2 := [some (.ref 54), some (.int x1), some (.int x2), some (.int x3), none, none, none, none]) (by simp [subL]) ?_
    exact hX
  · skip
    intro i4 hi ih
    have hk := hk i4 hi
    simp only [k_round_82_ok] at hk
    show G z mX12_round (d + 2) 0 0 82 [some (.ref 54), some (.int x1), some (.int x2), some (.int x3), some (.int (nI i4)), none, none, none] [] (mrow M 77 (k_round_82 (M.1 76) (M.1 77) np x1 x2 x3 i4)) Q
    refine G.sl [(.iload 4, 2, 4, 0, 0, 0), (.aload_n 0, 1, 0, 0, 0, 0), (.getfield 156, 3, 11, 20, 143, 0)] [] (pc2 := 88) (ls2 := [some (.ref 54), some (.int x1), some (.int x2), some (.int x3), some (.int (nI i4)), none, none, none]) (st2 := [.int (M.1 54 20), .int (nI i4)]) (M2 := mrow M 77 (k_round_82 (M.1 76) (M.1 77) np x1 x2 x3 i4)) (Ps := []) (by decide +kernel) rfl rfl trivial ?_
    rw [cp]
    refine G.ic_ge (off := (117)) (tgt := 205) (by decide +kernel) rfl (fun h9 => absurd h9 (nI_ge (by omega) (by omega))) (fun _ => ?_)
    refine G.sl [(.iload_n 3, 1, 3, 0, 0, 0)] [] (pc2 := 92) (ls2 := [some (.ref 54), some (.int x1), some (.int x2), some (.int x3), some (.int (nI i4)), none, none, none]) (st2 := [.int x3]) (M2 := mrow M 77 (k_round_82 (M.1 76) (M.1 77) np x1 x2 x3 i4)) (Ps := []) (by decide +kernel) rfl rfl trivial ?_
    refine G.if_ne (off := (7)) (tgt := 99) (by decide +kernel) rfl (fun c27 => ?_) (fun c27 => ?_)
    · skip
      rw [if_neg c27] at hk
      refine G.sl [(.sipush 9999, 3, 0, 0, 0, nI 9999), (.istore 5, 2, 5, 0, 0, 0), (.iconst 0, 1, 0, 0, 0, nI 0), (.istore 6, 2, 6, 0, 0, 0)] [] (pc2 := 107) (ls2 := [some (.ref 54), some (.int x1), some (.int x2), some (.int x3), some (.int (nI i4)), some (.int (nI 9999)), some (.int (nI 0)), none]) (st2 := []) (M2 := mrow M 77 (k_round_82 (M.1 76) (M.1 77) np x1 x2 x3 i4)) (Ps := []) (by decide +kernel) rfl rfl trivial ?_
      obtain ⟨k32, hk⟩ := hk
      refine lp_k_round_54_107 z d (mrow M 77 (k_round_82 (M.1 76) (M.1 77) np x1 x2 x3 i4)) Q x1 x2 x3 i4 np hnp cp (by omega) (by first | (simp only [mput, mrow_same, mrow_hit, mrow_miss, mrow_sw, idr_eq, ne_eq, Nat.reduceEqDiff, not_false_eq_true, Nat.reduceLT, reduceCtorEq]; exact k32) | exact k32) ?_
      show G z mX12_round (d + 2) 0 0 185 [some (.ref 54), some (.int x1), some (.int x2), some (.int x3), some (.int (nI i4)), some (.int (k_round_107 (M.1 76) (k_round_82 (M.1 76) (M.1 77) np x1 x2 x3 i4) x1 x2 x3 i4 np)), none, none] [] (mrow M 77 (k_round_82 (M.1 76) (M.1 77) np x1 x2 x3 i4)) Q
      obtain ⟨k33, k34, hk⟩ := hk
      refine G.sl [(.aload_n 0, 1, 0, 0, 0, 0), (.getfield 83, 3, 11, 47, 170, 0), (.iload 4, 2, 4, 0, 0, 0), (.bipush 8, 2, 0, 0, 0, nI 8), (.ishl, 1, 0, 0, 0, 0), (.iload_n 3, 1, 3, 0, 0, 0), (.ior, 1, 0, 0, 0, 0), (.iload 5, 2, 5, 0, 0, 0), (.iastore, 1, 0, 0, 0, 0), (.iinc 4 1, 3, 4, 0, 0, nI 1), (.goto (-120), 3, 82, 0, 0, 0)] [ix (((nI i4) <<< ((nI 8) &&& 31)) ||| x3)] (pc2 := 82) (ls2 := [some (.ref 54), some (.int x1), some (.int x2), some (.int x3), some (.int ((nI i4) + nI 1)), some (.int (k_round_107 (M.1 76) (k_round_82 (M.1 76) (M.1 77) np x1 x2 x3 i4) x1 x2 x3 i4 np)), none, none]) (st2 := []) (M2 := mput (mrow M 77 (k_round_82 (M.1 76) (M.1 77) np x1 x2 x3 i4)) 77 (ix (((nI i4) <<< ((nI 8) &&& 31)) ||| x3)) (k_round_107 (M.1 76) (k_round_82 (M.1 76) (M.1 77) np x1 x2 x3 i4) x1 x2 x3 i4 np)) (Ps := [(((nI i4) <<< ((nI 8) &&& 31)) ||| x3) = nI (ix (((nI i4) <<< ((nI 8) &&& 31)) ||| x3)) ∧ (ix (((nI i4) <<< ((nI 8) &&& 31)) ||| x3)) < 2048]) (by decide +kernel) rfl rfl ⟨⟨(ixE k33), k34⟩, trivial⟩ ?_
      refine G.mem (M' := mrow M 77 (upd (k_round_82 (M.1 76) (M.1 77) np x1 x2 x3 i4) (ix (((nI i4) <<< ((nI 8) &&& 31)) ||| x3)) (k_round_107 (M.1 76) (k_round_82 (M.1 76) (M.1 77) np x1 x2 x3 i4) x1 x2 x3 i4 np))) (by first | rfl | (simp only [mput, mrow_same, mrow_hit, mrow_miss, mrow_sw, idr_eq, ne_eq, Nat.reduceEqDiff, not_false_eq_true, Nat.reduceLT, reduceCtorEq]; done)) ?_
      refine G.loc (ls2 := [some (.ref 54), some (.int x1), some (.int x2), some (.int x3), some (.int ((nI i4) + nI 1)), none, none, none]) (by simp [subL]) ?_
      rw [nI_add i4 1]
      simp only [k_round_82, if_neg c27] at ih
      exact ih
    · skip
      rw [if_pos c27] at hk
      refine G.sl [(.iconst 0, 1, 0, 0, 0, nI 0), (.goto 6, 3, 102, 0, 0, 0), (.istore 5, 2, 5, 0, 0, 0), (.iconst 0, 1, 0, 0, 0, nI 0), (.istore 6, 2, 6, 0, 0, 0)] [] (pc2 := 107) (ls2 := [some (.ref 54), some (.int x1), some (.int x2), some (.int x3), some (.int (nI i4)), some (.int (nI 0)), some (.int (nI 0)), none]) (st2 := []) (M2 := mrow M 77 (k_round_82 (M.1 76) (M.1 77) np x1 x2 x3 i4)) (Ps := []) (by decide +kernel) rfl rfl trivial ?_
      obtain ⟨k39, hk⟩ := hk
      refine lp_k_round_54_107b z d (mrow M 77 (k_round_82 (M.1 76) (M.1 77) np x1 x2 x3 i4)) Q x1 x2 x3 i4 np hnp cp (by omega) (by first | (simp only [mput, mrow_same, mrow_hit, mrow_miss, mrow_sw, idr_eq, ne_eq, Nat.reduceEqDiff, not_false_eq_true, Nat.reduceLT, reduceCtorEq]; exact k39) | exact k39) ?_
      show G z mX12_round (d + 2) 0 0 185 [some (.ref 54), some (.int x1), some (.int x2), some (.int x3), some (.int (nI i4)), some (.int (k_round_107b (M.1 76) (k_round_82 (M.1 76) (M.1 77) np x1 x2 x3 i4) x1 x2 x3 i4 np)), none, none] [] (mrow M 77 (k_round_82 (M.1 76) (M.1 77) np x1 x2 x3 i4)) Q
      obtain ⟨k40, k41, hk⟩ := hk
      refine G.sl [(.aload_n 0, 1, 0, 0, 0, 0), (.getfield 83, 3, 11, 47, 170, 0), (.iload 4, 2, 4, 0, 0, 0), (.bipush 8, 2, 0, 0, 0, nI 8), (.ishl, 1, 0, 0, 0, 0), (.iload_n 3, 1, 3, 0, 0, 0), (.ior, 1, 0, 0, 0, 0), (.iload 5, 2, 5, 0, 0, 0), (.iastore, 1, 0, 0, 0, 0), (.iinc 4 1, 3, 4, 0, 0, nI 1), (.goto (-120), 3, 82, 0, 0, 0)] [ix (((nI i4) <<< ((nI 8) &&& 31)) ||| x3)] (pc2 := 82) (ls2 := [some (.ref 54), some (.int x1), some (.int x2), some (.int x3), some (.int ((nI i4) + nI 1)), some (.int (k_round_107b (M.1 76) (k_round_82 (M.1 76) (M.1 77) np x1 x2 x3 i4) x1 x2 x3 i4 np)), none, none]) (st2 := []) (M2 := mput (mrow M 77 (k_round_82 (M.1 76) (M.1 77) np x1 x2 x3 i4)) 77 (ix (((nI i4) <<< ((nI 8) &&& 31)) ||| x3)) (k_round_107b (M.1 76) (k_round_82 (M.1 76) (M.1 77) np x1 x2 x3 i4) x1 x2 x3 i4 np)) (Ps := [(((nI i4) <<< ((nI 8) &&& 31)) ||| x3) = nI (ix (((nI i4) <<< ((nI 8) &&& 31)) ||| x3)) ∧ (ix (((nI i4) <<< ((nI 8) &&& 31)) ||| x3)) < 2048]) (by decide +kernel) rfl rfl ⟨⟨(ixE k40), k41⟩, trivial⟩ ?_
      refine G.mem (M' := mrow M 77 (upd (k_round_82 (M.1 76) (M.1 77) np x1 x2 x3 i4) (ix (((nI i4) <<< ((nI 8) &&& 31)) ||| x3)) (k_round_107b (M.1 76) (k_round_82 (M.1 76) (M.1 77) np x1 x2 x3 i4) x1 x2 x3 i4 np))) (by first | rfl | (simp only [mput, mrow_same, mrow_hit, mrow_miss, mrow_sw, idr_eq, ne_eq, Nat.reduceEqDiff, not_false_eq_true, Nat.reduceLT, reduceCtorEq]; done)) ?_
      refine G.loc (ls2 := [some (.ref 54), some (.int x1), some (.int x2), some (.int x3), some (.int ((nI i4) + nI 1)), none, none, none]) (by simp [subL]) ?_
      rw [nI_add i4 1]
      simp only [k_round_82, if_pos c27] at ih
      exact ih
set_option maxHeartbeats 4000000 in
set_option maxRecDepth 3000 in
theorem lp_k_round_54_74 (z : Zp) (d : Nat) (M : Mem) (Q : Rs → Prop) (x1 : Int32) (x2 : Int32) (np : Nat) (hnp : np ≤ 8) (cp : M.1 54 20 = nI np) : ∀ (k0 : Nat) (s3 : Int32) (q77 : (Nat → Int32)), k_round_74_ok (M.1 76) np x1 x2 k0 s3 q77 → (match k_round_74 (M.1 76) np x1 x2 k0 s3 q77 with | (s3', q77') => G z mX12_round (d + 2) 0 0 211 [some (.ref 54), some (.int x1), some (.int x2), none, none, none, none, none] [] (mrow M 77 (q77')) Q) → G z mX12_round (d + 2) 0 0 74 [some (.ref 54), some (.int x1), some (.int x2), some (.int s3), none, none, none, none] [] (mrow M 77 q77) Q := by
  intro k0
  induction k0 with
  | zero =>
      intro s3 q77 hk hX
      exact (by simpa only [k_round_74_ok] using hk : False).elim
  | succ k0 ih =>
      intro s3 q77 hk hX
      simp only [k_round_74_ok] at hk
      refine G.sl [(.iload_n 3, 1, 3, 0, 0, 0), (.iload_n 2, 1, 2, 0, 0, 0)] [] (pc2 := 76) (ls2 := [some (.ref 54), some (.int x1), some (.int x2), some (.int s3), none, none, none, none]) (st2 := [.int x2, .int s3]) (M2 := mrow M 77 q77) (Ps := []) (by decide +kernel) rfl rfl trivial ?_
      refine G.ic_gt (off := (135)) (tgt := 211) (by decide +kernel) rfl (fun c26 => ?_) (fun c26 => ?_)
      · skip
        rw [if_pos c26] at hk
        refine G.loc (ls2 := [some (.ref 54), some (.int x1), some (.int x2), none, none, none, none, none]) (by simp [subL]) ?_
        simp only [k_round_74, if_pos c26] at hX
        exact hX
      · skip
        rw [if_neg c26] at hk
        refine G.sl [(.iconst 0, 1, 0, 0, 0, nI 0), (.istore 4, 2, 4, 0, 0, 0)] [] (pc2 := 82) (ls2 := [some (.ref 54), some (.int x1), some (.int x2), some (.int s3), some (.int (nI 0)), none, none, none]) (st2 := []) (M2 := mrow M 77 q77) (Ps := []) (by decide +kernel) rfl rfl trivial ?_
        obtain ⟨k42, hk⟩ := hk
        refine lp_k_round_54_82 z d (mrow M 77 q77) Q x1 x2 s3 np hnp cp (by first | (simp only [mput, mrow_same, mrow_hit, mrow_miss, mrow_sw, idr_eq, ne_eq, Nat.reduceEqDiff, not_false_eq_true, Nat.reduceLT, reduceCtorEq]; exact k42) | exact k42) ?_
        try simp only [mput, mrow_same, mrow_hit, mrow_miss, mrow_sw, idr_eq, ne_eq, Nat.reduceEqDiff, not_false_eq_true, Nat.reduceLT, reduceCtorEq]
        show G z mX12_round (d + 2) 0 0 205 [some (.ref 54), some (.int x1), some (.int x2), some (.int s3), none, none, none, none] [] (mrow M 77 (k_round_82 (M.1 76) q77 np x1 x2 s3 np)) Q
        refine G.sl [(.iinc 3 1, 3, 3, 0, 0, nI 1), (.goto (-134), 3, 74, 0, 0, 0)] [] (pc2 := 74) (ls2 := [some (.ref 54), some (.int x1), some (.int x2), some (.int (s3 + nI 1)), none, none, none, none]) (st2 := []) (M2 := mrow M 77 (k_round_82 (M.1 76) q77 np x1 x2 s3 np)) (Ps := []) (by decide +kernel) rfl rfl trivial ?_
        simp only [k_round_74, if_neg c26] at hX
        exact ih (s3 + nI 1) (k_round_82 (M.1 76) q77 np x1 x2 s3 np) hk hX
set_option maxHeartbeats 4000000 in
set_option maxRecDepth 3000 in
theorem c_k_round_54 (z : Zp) (d : Nat) (M : Mem) (x1 : Int32) (nf : Nat) (hnf : nf ≤ 6) (cf : M.1 54 23 = nI nf) (hk : k_round_ok (M.1 54) (M.1 55) (M.1 71) (M.1 72) (M.1 76) (M.1 77) nf x1) : GM z mX12_round (d + 2) [.ref 54, .int x1] M (fun rs => rs = .inl (some (.int ((k_round (M.1 54) (M.1 55) (M.1 71) (M.1 72) (M.1 76) (M.1 77) nf x1).1)), mrow (mrow (mrow (mrow M 54 ((k_round (M.1 54) (M.1 55) (M.1 71) (M.1 72) (M.1 76) (M.1 77) nf x1).2.1)) 55 ((k_round (M.1 54) (M.1 55) (M.1 71) (M.1 72) (M.1 76) (M.1 77) nf x1).2.2.1)) 72 ((k_round (M.1 54) (M.1 55) (M.1 71) (M.1 72) (M.1 76) (M.1 77) nf x1).2.2.2.1)) 77 ((k_round (M.1 54) (M.1 55) (M.1 71) (M.1 72) (M.1 76) (M.1 77) nf x1).2.2.2.2))) := by
  simp only [k_round_ok] at hk
  refine GM.of oX12_round.1 (Nat.le_of_ble_eq_true rfl) ?_
  show G z mX12_round (d + 2) 0 0 0 [some (.ref 54), some (.int x1), none, none, none, none, none, none] [] M _
  obtain ⟨Q, hQ⟩ : ∃ Q : Rs → Prop, Q = (fun rs => rs = .inl (some (.int ((k_round (M.1 54) (M.1 55) (M.1 71) (M.1 72) (M.1 76) (M.1 77) nf x1).1)), mrow (mrow (mrow (mrow M 54 ((k_round (M.1 54) (M.1 55) (M.1 71) (M.1 72) (M.1 76) (M.1 77) nf x1).2.1)) 55 ((k_round (M.1 54) (M.1 55) (M.1 71) (M.1 72) (M.1 76) (M.1 77) nf x1).2.2.1)) 72 ((k_round (M.1 54) (M.1 55) (M.1 71) (M.1 72) (M.1 76) (M.1 77) nf x1).2.2.2.1)) 77 ((k_round (M.1 54) (M.1 55) (M.1 71) (M.1 72) (M.1 76) (M.1 77) nf x1).2.2.2.2))) := ⟨_, rfl⟩
  rw [← hQ]
  refine G.sl [(.aload_n 0, 1, 0, 0, 0, 0), (.iconst 0, 1, 0, 0, 0, nI 0), (.putfield 3, 3, 11, 0, 123, 0), (.aload_n 0, 1, 0, 0, 0, 0), (.iload_n 1, 1, 1, 0, 0, 0), (.iconst 1, 1, 0, 0, 0, nI 1)] [] (pc2 := 8) (ls2 := [some (.ref 54), some (.int x1), none, none, none, none, none, none]) (st2 := [.int (nI 1), .int x1, .ref 54]) (M2 := mput M 54 0 (nI 0)) (Ps := []) (by decide +kernel) rfl rfl trivial ?_
  refine G.mem (M' := mrow M 54 (upd (M.1 54) 0 (nI 0))) (by first | rfl | (simp only [mput, mrow_same, mrow_hit, mrow_miss, mrow_sw, idr_eq, ne_eq, Nat.reduceEqDiff, not_false_eq_true, Nat.reduceLT, reduceCtorEq]; done)) ?_
  obtain ⟨k1, hk⟩ := hk
  rcases g2 : k_isFinder (upd (M.1 54) 0 (nI 0)) (M.1 55) nf x1 (nI 1) with ⟨v3, r4, r5⟩
  try simp only [g2] at hk
  have ev3 : v3 = 0 ∨ v3 = 1 := by
    have q9 := k_isFinder_01 (upd (M.1 54) 0 (nI 0)) (M.1 55) nf x1 (nI 1)
    rw [g2] at q9
    exact q9
  have t6 : GM z mX12_isFinder (d + 1) [.ref 54, .int x1, .int (nI 1)] (mrow M 54 (upd (M.1 54) 0 (nI 0))) (fun rs => rs = .inl (some (.int v3), mrow (mrow M 54 r4) 55 r5)) := by
    have q9 := c_k_isFinder_54 z d (mrow M 54 (upd (M.1 54) 0 (nI 0))) x1 (nI 1) nf hnf cf
    try simp only [mput, mrow_same, mrow_hit, mrow_miss, mrow_sw, idr_eq, ne_eq, Nat.reduceEqDiff, not_false_eq_true, Nat.reduceLT, reduceCtorEq, g2] at q9
    exact q9
  refine G.callV (as := [.int x1, .int (nI 1)]) (rest := []) (a := 54) oX12_isFinder lk_EvenFindersModel_400 (by decide +kernel) rfl rfl ⟨rfl, rfl⟩ (Nat.le_of_ble_eq_true rfl) rfl ⟨Nat.le_of_ble_eq_true rfl, Nat.le_of_ble_eq_true rfl⟩ t6 (fun v9 N9 h7 => ?_) (fun E9 N9 h7 => by cases h7)
  cases h7
  show G z mX12_round (d + 2) 0 0 11 [some (.ref 54), some (.int x1), none, none, none, none, none, none] [.int v3] (mrow (mrow M 54 r4) 55 r5) Q
  refine G.if_ne (off := (5)) (tgt := 16) (by decide +kernel) rfl (fun c8 => ?_) (fun c8 => ?_)
  · skip
    rw [if_neg c8] at hk
    refine G.sl [(.aload_n 0, 1, 0, 0, 0, 0)] [] (pc2 := 17) (ls2 := [some (.ref 54), some (.int x1), none, none, none, none, none, none]) (st2 := [.ref 54]) (M2 := mrow (mrow M 54 r4) 55 r5) (Ps := []) (by decide +kernel) rfl rfl trivial ?_
    obtain ⟨k9, hk⟩ := hk
    rcases g10 : k_take (M.1 71) (M.1 72) with ⟨u11, r12⟩
    try simp only [g10] at hk
    have t13 : GM z mX12_take (d + 1) [.ref 54] (mrow (mrow M 54 r4) 55 r5) (fun rs => rs = .inl (none, mrow (mrow (mrow M 54 r4) 55 r5) 72 r12)) := by
      have q9 := c_k_take_54 z d (mrow (mrow M 54 r4) 55 r5) k9
      try simp only [mput, mrow_same, mrow_hit, mrow_miss, mrow_sw, idr_eq, ne_eq, Nat.reduceEqDiff, not_false_eq_true, Nat.reduceLT, reduceCtorEq, g10] at q9
      exact q9
    refine G.callV (as := []) (rest := []) (a := 54) oX12_take lk_EvenFindersModel_320 (by decide +kernel) rfl rfl ⟨rfl, rfl⟩ (Nat.le_of_ble_eq_true rfl) rfl ⟨Nat.le_of_ble_eq_true rfl, Nat.le_of_ble_eq_true rfl⟩ t13 (fun v9 N9 h14 => ?_) (fun E9 N9 h14 => by cases h14)
    cases h14
    show G z mX12_round (d + 2) 0 0 20 [some (.ref 54), some (.int x1), none, none, none, none, none, none] [] (mrow (mrow (mrow M 54 r4) 55 r5) 72 r12) Q
    refine G.sl [(.iconst 0, 1, 0, 0, 0, nI 0), (.istore_n 2, 1, 2, 0, 0, 0), (.iconst 0, 1, 0, 0, 0, nI 0), (.istore_n 3, 1, 3, 0, 0, 0)] [] (pc2 := 24) (ls2 := [some (.ref 54), some (.int x1), some (.int (nI 0)), some (.int (nI 0)), none, none, none, none]) (st2 := []) (M2 := mrow (mrow (mrow M 54 r4) 55 r5) 72 r12) (Ps := []) (by decide +kernel) rfl rfl trivial ?_
    obtain ⟨k19, k20, k21, k22, hk⟩ := hk
    obtain ⟨k23, hk⟩ := hk
    refine lp_k_round_54_24 z d (mrow (mrow (mrow M 54 r4) 55 r5) 72 r12) Q x1 (ix (r4 20)) k20 (ixE k19) (ix (r4 22)) k22 (ixE k21) ?_
    show G z mX12_round (d + 2) 0 0 56 [some (.ref 54), some (.int x1), some (.int (k_round_24 r12 (ix (r4 22)) x1 (ix (r4 20)))), none, none, none, none, none] [] (mrow (mrow (mrow M 54 r4) 55 r5) 72 r12) Q
    obtain ⟨k24, k25, hk⟩ := hk
    refine G.sl [(.iload_n 2, 1, 2, 0, 0, 0), (.iconst 1, 1, 0, 0, 0, nI 1), (.aload_n 0, 1, 0, 0, 0, 0), (.getfield 68, 3, 11, 41, 164, 0), (.bipush 20, 2, 0, 0, 0, nI 20), (.iload_n 1, 1, 1, 0, 0, 0), (.iadd, 1, 0, 0, 0, 0), (.iaload, 1, 0, 0, 0, 0), (.ishl, 1, 0, 0, 0, 0), (.iconst (-1), 1, 0, 0, 0, (-1)), (.ixor, 1, 0, 0, 0, 0), (.iand, 1, 0, 0, 0, 0), (.istore_n 2, 1, 2, 0, 0, 0), (.iconst 0, 1, 0, 0, 0, nI 0), (.istore_n 3, 1, 3, 0, 0, 0)] [20 + (ix x1)] (pc2 := 74) (ls2 := [some (.ref 54), some (.int x1), some (.int ((k_round_24 r12 (ix (r4 22)) x1 (ix (r4 20))) &&& (((nI 1) <<< ((r12 (20 + (ix x1))) &&& 31)) ^^^ ((-1))))), some (.int (nI 0)), none, none, none, none]) (st2 := []) (M2 := mrow (mrow (mrow M 54 r4) 55 r5) 72 r12) (Ps := [((nI 20) + x1) = nI (20 + (ix x1)) ∧ (20 + (ix x1)) < 51]) (by decide +kernel) rfl rfl ⟨⟨(nAdd rfl (ixE k24)), k25⟩, trivial⟩ ?_
    obtain ⟨k43, hk⟩ := hk
    refine G.mem (M' := mrow (mrow (mrow (mrow M 54 r4) 55 r5) 72 r12) 77 ((mrow (mrow (mrow M 54 r4) 55 r5) 72 r12).1 77)) (by simp only [mrow_self]) ?_
    refine lp_k_round_54_74 z d (mrow (mrow (mrow M 54 r4) 55 r5) 72 r12) Q x1 ((k_round_24 r12 (ix (r4 22)) x1 (ix (r4 20))) &&& (((nI 1) <<< ((r12 (20 + (ix x1))) &&& 31)) ^^^ ((-1)))) (ix (r4 20)) (by omega) (ixE k19) FU (nI 0) ((mrow (mrow (mrow M 54 r4) 55 r5) 72 r12).1 77) (by first | (simp only [mput, mrow_same, mrow_hit, mrow_miss, mrow_sw, idr_eq, ne_eq, Nat.reduceEqDiff, not_false_eq_true, Nat.reduceLT, reduceCtorEq]; exact k43) | exact k43) ?_
    try simp only [mput, mrow_same, mrow_hit, mrow_miss, mrow_sw, idr_eq, ne_eq, Nat.reduceEqDiff, not_false_eq_true, Nat.reduceLT, reduceCtorEq]
    rcases g44 : k_round_74 (M.1 76) (ix (r4 20)) x1 ((k_round_24 r12 (ix (r4 22)) x1 (ix (r4 20))) &&& (((nI 1) <<< ((r12 (20 + (ix x1))) &&& 31)) ^^^ ((-1)))) FU (nI 0) (M.1 77) with ⟨v45, r46⟩
    try simp only [g44] at hk
    show G z mX12_round (d + 2) 0 0 211 [some (.ref 54), some (.int x1), some (.int ((k_round_24 r12 (ix (r4 22)) x1 (ix (r4 20))) &&& (((nI 1) <<< ((r12 (20 + (ix x1))) &&& 31)) ^^^ ((-1))))), none, none, none, none, none] [] (mrow (mrow (mrow (mrow M 54 r4) 55 r5) 72 r12) 77 r46) Q
    obtain ⟨k47, k48, hk⟩ := hk
    refine G.sl [(.aload_n 0, 1, 0, 0, 0, 0), (.getfield 83, 3, 11, 47, 170, 0), (.aload_n 0, 1, 0, 0, 0, 0), (.getfield 68, 3, 11, 41, 164, 0), (.bipush 20, 2, 0, 0, 0, nI 20), (.iload_n 1, 1, 1, 0, 0, 0), (.iadd, 1, 0, 0, 0, 0), (.iaload, 1, 0, 0, 0, 0), (.bipush 8, 2, 0, 0, 0, nI 8), (.ishl, 1, 0, 0, 0, 0), (.iload_n 2, 1, 2, 0, 0, 0), (.ior, 1, 0, 0, 0, 0), (.iaload, 1, 0, 0, 0, 0)] [20 + (ix x1), ix (((r12 (20 + (ix x1))) <<< ((nI 8) &&& 31)) ||| ((k_round_24 r12 (ix (r4 22)) x1 (ix (r4 20))) &&& (((nI 1) <<< ((r12 (20 + (ix x1))) &&& 31)) ^^^ ((-1)))))] (pc2 := 230) (ls2 := [some (.ref 54), some (.int x1), some (.int ((k_round_24 r12 (ix (r4 22)) x1 (ix (r4 20))) &&& (((nI 1) <<< ((r12 (20 + (ix x1))) &&& 31)) ^^^ ((-1))))), none, none, none, none, none]) (st2 := [.int (r46 (ix (((r12 (20 + (ix x1))) <<< ((nI 8) &&& 31)) ||| ((k_round_24 r12 (ix (r4 22)) x1 (ix (r4 20))) &&& (((nI 1) <<< ((r12 (20 + (ix x1))) &&& 31)) ^^^ ((-1)))))))]) (M2 := mrow (mrow (mrow (mrow M 54 r4) 55 r5) 72 r12) 77 r46) (Ps := [((nI 20) + x1) = nI (20 + (ix x1)) ∧ (20 + (ix x1)) < 51, (((r12 (20 + (ix x1))) <<< ((nI 8) &&& 31)) ||| ((k_round_24 r12 (ix (r4 22)) x1 (ix (r4 20))) &&& (((nI 1) <<< ((r12 (20 + (ix x1))) &&& 31)) ^^^ ((-1))))) = nI (ix (((r12 (20 + (ix x1))) <<< ((nI 8) &&& 31)) ||| ((k_round_24 r12 (ix (r4 22)) x1 (ix (r4 20))) &&& (((nI 1) <<< ((r12 (20 + (ix x1))) &&& 31)) ^^^ ((-1)))))) ∧ (ix (((r12 (20 + (ix x1))) <<< ((nI 8) &&& 31)) ||| ((k_round_24 r12 (ix (r4 22)) x1 (ix (r4 20))) &&& (((nI 1) <<< ((r12 (20 + (ix x1))) &&& 31)) ^^^ ((-1)))))) < 2048]) (by decide +kernel) rfl rfl ⟨⟨(nAdd rfl (ixE k24)), k25⟩, ⟨(ixE k47), k48⟩, trivial⟩ ?_
    have t50 : GM z mX12_orNone (d + 1) [.int (r46 (ix (((r12 (20 + (ix x1))) <<< ((nI 8) &&& 31)) ||| ((k_round_24 r12 (ix (r4 22)) x1 (ix (r4 20))) &&& (((nI 1) <<< ((r12 (20 + (ix x1))) &&& 31)) ^^^ ((-1)))))))] (mrow (mrow (mrow (mrow M 54 r4) 55 r5) 72 r12) 77 r46) (fun rs => rs = .inl (some (.int (k_orNone (r46 (ix (((r12 (20 + (ix x1))) <<< ((nI 8) &&& 31)) ||| ((k_round_24 r12 (ix (r4 22)) x1 (ix (r4 20))) &&& (((nI 1) <<< ((r12 (20 + (ix x1))) &&& 31)) ^^^ ((-1))))))))), mrow (mrow (mrow (mrow M 54 r4) 55 r5) 72 r12) 77 r46)) := by
      have q9 := c_k_orNone z (d + 1) (mrow (mrow (mrow (mrow M 54 r4) 55 r5) 72 r12) 77 r46) (r46 (ix (((r12 (20 + (ix x1))) <<< ((nI 8) &&& 31)) ||| ((k_round_24 r12 (ix (r4 22)) x1 (ix (r4 20))) &&& (((nI 1) <<< ((r12 (20 + (ix x1))) &&& 31)) ^^^ ((-1)))))))
      try simp only [mput, mrow_same, mrow_hit, mrow_miss, mrow_sw, idr_eq, ne_eq, Nat.reduceEqDiff, not_false_eq_true, Nat.reduceLT, reduceCtorEq] at q9
      exact q9
    refine G.callS (as := [.int (r46 (ix (((r12 (20 + (ix x1))) <<< ((nI 8) &&& 31)) ||| ((k_round_24 r12 (ix (r4 22)) x1 (ix (r4 20))) &&& (((nI 1) <<< ((r12 (20 + (ix x1))) &&& 31)) ^^^ ((-1)))))))]) (rest := []) oX12_orNone lk_EvenFindersModel_403 (by decide +kernel) rfl (Nat.le_of_ble_eq_true rfl) rfl ⟨Nat.le_of_ble_eq_true rfl, Nat.le_of_ble_eq_true rfl⟩ t50 (fun v9 N9 h51 => ?_) (fun E9 N9 h51 => by cases h51)
    cases h51
    show G z mX12_round (d + 2) 0 0 233 [some (.ref 54), some (.int x1), some (.int ((k_round_24 r12 (ix (r4 22)) x1 (ix (r4 20))) &&& (((nI 1) <<< ((r12 (20 + (ix x1))) &&& 31)) ^^^ ((-1))))), none, none, none, none, none] [.int (k_orNone (r46 (ix (((r12 (20 + (ix x1))) <<< ((nI 8) &&& 31)) ||| ((k_round_24 r12 (ix (r4 22)) x1 (ix (r4 20))) &&& (((nI 1) <<< ((r12 (20 + (ix x1))) &&& 31)) ^^^ ((-1))))))))] (mrow (mrow (mrow (mrow M 54 r4) 55 r5) 72 r12) 77 r46) Q
    exact G.reti (by decide +kernel) rfl rfl (Nat.le_of_ble_eq_true rfl) (Nat.le_of_ble_eq_true rfl) ((by rw [hQ]; simp only [k_round, g2, if_neg c8, g10, g44, mrow_self]))
  · skip
    rw [if_pos c8] at hk
    refine G.sl [(.iconst 0, 1, 0, 0, 0, nI 0)] [] (pc2 := 15) (ls2 := [some (.ref 54), some (.int x1), none, none, none, none, none, none]) (st2 := [.int (nI 0)]) (M2 := mrow (mrow M 54 r4) 55 r5) (Ps := []) (by decide +kernel) rfl rfl trivial ?_
    refine G.mem (M' := mrow (mrow (mrow (mrow M 54 r4) 55 r5) 72 (M.1 72)) 77 (M.1 77)) ((((mrow_id (N := mrow (mrow M 54 r4) 55 r5) (c := 72) (f := M.1 72) (by first | rfl | (simp only [mput, mrow_same, mrow_hit, mrow_miss, mrow_sw, idr_eq, ne_eq, Nat.reduceEqDiff, not_false_eq_true, Nat.reduceLT, reduceCtorEq]; done))).symm).trans (mrow_id (N := mrow (mrow (mrow M 54 r4) 55 r5) 72 (M.1 72)) (c := 77) (f := M.1 77) (by first | rfl | (simp only [mput, mrow_same, mrow_hit, mrow_miss, mrow_sw, idr_eq, ne_eq, Nat.reduceEqDiff, not_false_eq_true, Nat.reduceLT, reduceCtorEq]; done))).symm).trans (by first | rfl | (simp only [mput, mrow_same, mrow_hit, mrow_miss, mrow_sw, idr_eq, ne_eq, Nat.reduceEqDiff, not_false_eq_true, Nat.reduceLT, reduceCtorEq]; done))) ?_
    exact G.reti (by decide +kernel) rfl rfl (Nat.le_of_ble_eq_true rfl) (Nat.le_of_ble_eq_true rfl) ((by rw [hQ]; simp only [k_round, g2, if_pos c8, mrow_self]))
