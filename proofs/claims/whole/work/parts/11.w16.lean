set_option maxHeartbeats 4000000 in
set_option maxRecDepth 3000 in
theorem c_k_deepest_54 (z : Zp) (d : Nat) (M : Mem) (x1 : Int32) (hk : k_deepest_ok (M.1 54) (M.1 55) (M.1 71) x1) : GM z mX12_deepest (d + 1) [.ref 54, .int x1] M (fun rs => rs = .inl (some (.int ((k_deepest (M.1 54) (M.1 55) (M.1 71) x1).1)), mrow (mrow M 54 ((k_deepest (M.1 54) (M.1 55) (M.1 71) x1).2.1)) 55 ((k_deepest (M.1 54) (M.1 55) (M.1 71) x1).2.2))) := by
  simp only [k_deepest_ok] at hk
  refine GM.of oX12_deepest.1 (Nat.le_of_ble_eq_true rfl) ?_
  show G z mX12_deepest (d + 1) 0 0 0 [some (.ref 54), some (.int x1), none, none] [] M _
  obtain ⟨Q, hQ⟩ : ∃ Q : Rs → Prop, Q = (fun rs => rs = .inl (some (.int ((k_deepest (M.1 54) (M.1 55) (M.1 71) x1).1)), mrow (mrow M 54 ((k_deepest (M.1 54) (M.1 55) (M.1 71) x1).2.1)) 55 ((k_deepest (M.1 54) (M.1 55) (M.1 71) x1).2.2))) := ⟨_, rfl⟩
  rw [← hQ]
  refine G.sl [(.aload_n 0, 1, 0, 0, 0, 0), (.iconst 0, 1, 0, 0, 0, nI 0), (.putfield 3, 3, 11, 0, 123, 0), (.aload_n 0, 1, 0, 0, 0, 0), (.iload_n 1, 1, 1, 0, 0, 0), (.iconst 0, 1, 0, 0, 0, nI 0), (.iconst 1, 1, 0, 0, 0, nI 1)] [] (pc2 := 9) (ls2 := [some (.ref 54), some (.int x1), none, none]) (st2 := [.int (nI 1), .int (nI 0), .int x1, .ref 54]) (M2 := mput M 54 0 (nI 0)) (Ps := []) (by decide +kernel) rfl rfl trivial ?_
  refine G.mem (M' := mrow M 54 (upd (M.1 54) 0 (nI 0))) (by first | rfl | (simp only [mput, mrow_same, mrow_hit, mrow_miss, mrow_sw, idr_eq, ne_eq, Nat.reduceEqDiff, not_false_eq_true, Nat.reduceLT, reduceCtorEq]; done)) ?_
  obtain ⟨k1, hk⟩ := hk
  have t2 : GM z mX12_within (d) [.int x1, .int (nI 0), .int (nI 1)] (mrow M 54 (upd (M.1 54) 0 (nI 0))) (fun rs => rs = .inl (some (.int (k_within x1 (nI 0) (nI 1))), mrow M 54 (upd (M.1 54) 0 (nI 0)))) := by
    have q9 := c_k_within z d (mrow M 54 (upd (M.1 54) 0 (nI 0))) x1 (nI 0) (nI 1)
    try simp only [mput, mrow_same, mrow_hit, mrow_miss, mrow_sw, idr_eq, ne_eq, Nat.reduceEqDiff, not_false_eq_true, Nat.reduceLT, reduceCtorEq] at q9
    exact q9
  refine G.callS (as := [.int x1, .int (nI 0), .int (nI 1)]) (rest := [.ref 54]) oX12_within lk_EvenFindersModel_379 (by decide +kernel) rfl (Nat.le_of_ble_eq_true rfl) rfl ⟨Nat.le_of_ble_eq_true rfl, Nat.le_of_ble_eq_true rfl⟩ t2 (fun v9 N9 h3 => ?_) (fun E9 N9 h3 => by cases h3)
  cases h3
  show G z mX12_deepest (d + 1) 0 0 12 [some (.ref 54), some (.int x1), none, none] [.int (k_within x1 (nI 0) (nI 1)), .ref 54] (mrow M 54 (upd (M.1 54) 0 (nI 0))) Q
  refine G.sl [(.iconst 1, 1, 0, 0, 0, nI 1), (.iconst 1, 1, 0, 0, 0, nI 1)] [] (pc2 := 14) (ls2 := [some (.ref 54), some (.int x1), none, none]) (st2 := [.int (nI 1), .int (nI 1), .int (k_within x1 (nI 0) (nI 1)), .ref 54]) (M2 := mrow M 54 (upd (M.1 54) 0 (nI 0))) (Ps := []) (by decide +kernel) rfl rfl trivial ?_
  obtain ⟨k4, hk⟩ := hk
  rcases g5 : k_may_1 (upd (M.1 54) 0 (nI 0)) (M.1 55) (k_within x1 (nI 0) (nI 1)) (nI 1) with ⟨v6, r7, r8⟩
  try simp only [g5] at hk
  have ev6 : v6 = 0 ∨ v6 = 1 := by
    have q9 := k_may_1_01 (upd (M.1 54) 0 (nI 0)) (M.1 55) (k_within x1 (nI 0) (nI 1)) (nI 1)
    rw [g5] at q9
    exact q9
  have t9 : GM z mX12_may (d) [.ref 54, .int (k_within x1 (nI 0) (nI 1)), .int (nI 1), .int (nI 1)] (mrow M 54 (upd (M.1 54) 0 (nI 0))) (fun rs => rs = .inl (some (.int v6), mrow (mrow M 54 r7) 55 r8)) := by
    have q9 := c_k_may_1_54 z d (mrow M 54 (upd (M.1 54) 0 (nI 0))) (k_within x1 (nI 0) (nI 1)) (nI 1)
    try simp only [mput, mrow_same, mrow_hit, mrow_miss, mrow_sw, idr_eq, ne_eq, Nat.reduceEqDiff, not_false_eq_true, Nat.reduceLT, reduceCtorEq, g5] at q9
    exact q9
  refine G.callV (as := [.int (k_within x1 (nI 0) (nI 1)), .int (nI 1), .int (nI 1)]) (rest := []) (a := 54) oX12_may lk_EvenFindersModel_213 (by decide +kernel) rfl rfl ⟨rfl, rfl⟩ (Nat.le_of_ble_eq_true rfl) rfl ⟨Nat.le_of_ble_eq_true rfl, Nat.le_of_ble_eq_true rfl⟩ t9 (fun v9 N9 h10 => ?_) (fun E9 N9 h10 => by cases h10)
  cases h10
  show G z mX12_deepest (d + 1) 0 0 17 [some (.ref 54), some (.int x1), none, none] [.int v6] (mrow (mrow M 54 r7) 55 r8) Q
  refine G.if_ne (off := (5)) (tgt := 22) (by decide +kernel) rfl (fun c11 => ?_) (fun c11 => ?_)
  · skip
    rw [if_neg c11] at hk
    refine G.sl [(.iconst (-1), 1, 0, 0, 0, (-1)), (.istore_n 2, 1, 2, 0, 0, 0), (.iconst 0, 1, 0, 0, 0, nI 0), (.istore_n 3, 1, 3, 0, 0, 0)] [] (pc2 := 26) (ls2 := [some (.ref 54), some (.int x1), some (.int ((-1))), some (.int (nI 0))]) (st2 := []) (M2 := mrow (mrow M 54 r7) 55 r8) (Ps := []) (by decide +kernel) rfl rfl trivial ?_
    obtain ⟨k16, k17, hk⟩ := hk
    obtain ⟨k18, hk⟩ := hk
    refine lp_k_deepest_54_26 z d (mrow (mrow M 54 r7) 55 r8) Q x1 (ix (r7 23)) k17 (ixE k16) (by first | (simp only [mput, mrow_same, mrow_hit, mrow_miss, mrow_sw, idr_eq, ne_eq, Nat.reduceEqDiff, not_false_eq_true, Nat.reduceLT, reduceCtorEq]; exact k18) | exact k18) ?_
    show G z mX12_deepest (d + 1) 0 0 68 [some (.ref 54), some (.int x1), some (.int (k_deepest_26 (M.1 71) x1 (ix (r7 23)))), none] [] (mrow (mrow M 54 r7) 55 r8) Q
    refine G.sl [(.iload_n 1, 1, 1, 0, 0, 0)] [] (pc2 := 69) (ls2 := [some (.ref 54), some (.int x1), some (.int (k_deepest_26 (M.1 71) x1 (ix (r7 23)))), none]) (st2 := [.int x1]) (M2 := mrow (mrow M 54 r7) 55 r8) (Ps := []) (by decide +kernel) rfl rfl trivial ?_
    refine G.if_ne (off := (7)) (tgt := 76) (by decide +kernel) rfl (fun c19 => ?_) (fun c19 => ?_)
    · skip
      rw [if_neg c19] at hk
      refine G.sl [(.iload_n 2, 1, 2, 0, 0, 0), (.iconst (-1), 1, 0, 0, 0, (-1))] [] (pc2 := 78) (ls2 := [some (.ref 54), some (.int x1), some (.int (k_deepest_26 (M.1 71) x1 (ix (r7 23)))), none]) (st2 := [.int ((-1)), .int (k_deepest_26 (M.1 71) x1 (ix (r7 23)))]) (M2 := mrow (mrow M 54 r7) 55 r8) (Ps := []) (by decide +kernel) rfl rfl trivial ?_
      refine G.ic_ne (off := (7)) (tgt := 85) (by decide +kernel) rfl (fun c20 => ?_) (fun c20 => ?_)
      · skip
        rw [if_neg c20] at hk
        obtain ⟨k21, k22, hk⟩ := hk
        refine G.sl [(.aload_n 0, 1, 0, 0, 0, 0), (.getfield 65, 3, 11, 40, 163, 0), (.bipush 26, 2, 0, 0, 0, nI 26), (.iload_n 2, 1, 2, 0, 0, 0), (.iadd, 1, 0, 0, 0, 0), (.iaload, 1, 0, 0, 0, 0)] [26 + (ix (k_deepest_26 (M.1 71) x1 (ix (r7 23))))] (pc2 := 94) (ls2 := [some (.ref 54), some (.int x1), some (.int (k_deepest_26 (M.1 71) x1 (ix (r7 23)))), none]) (st2 := [.int (M.1 71 (26 + (ix (k_deepest_26 (M.1 71) x1 (ix (r7 23))))))]) (M2 := mrow (mrow M 54 r7) 55 r8) (Ps := [((nI 26) + (k_deepest_26 (M.1 71) x1 (ix (r7 23)))) = nI (26 + (ix (k_deepest_26 (M.1 71) x1 (ix (r7 23))))) ∧ (26 + (ix (k_deepest_26 (M.1 71) x1 (ix (r7 23))))) < 51]) (by decide +kernel) rfl rfl ⟨⟨(nAdd rfl (ixE k21)), k22⟩, trivial⟩ ?_
        exact G.reti (by decide +kernel) rfl rfl (Nat.le_of_ble_eq_true rfl) (Nat.le_of_ble_eq_true rfl) ((by rw [hQ]; simp only [k_deepest, g5, if_neg c11, if_neg c19, if_neg c20, mrow_self]))
      · skip
        rw [if_pos c20] at hk
        refine G.sl [(.iconst 0, 1, 0, 0, 0, nI 0), (.goto 12, 3, 94, 0, 0, 0)] [] (pc2 := 94) (ls2 := [some (.ref 54), some (.int x1), some (.int (k_deepest_26 (M.1 71) x1 (ix (r7 23)))), none]) (st2 := [.int (nI 0)]) (M2 := mrow (mrow M 54 r7) 55 r8) (Ps := []) (by decide +kernel) rfl rfl trivial ?_
        exact G.reti (by decide +kernel) rfl rfl (Nat.le_of_ble_eq_true rfl) (Nat.le_of_ble_eq_true rfl) ((by rw [hQ]; simp only [k_deepest, g5, if_neg c11, if_neg c19, if_pos c20, mrow_self]))
    · skip
      rw [if_pos c19] at hk
      refine G.sl [(.iload_n 2, 1, 2, 0, 0, 0), (.goto 21, 3, 94, 0, 0, 0)] [] (pc2 := 94) (ls2 := [some (.ref 54), some (.int x1), some (.int (k_deepest_26 (M.1 71) x1 (ix (r7 23)))), none]) (st2 := [.int (k_deepest_26 (M.1 71) x1 (ix (r7 23)))]) (M2 := mrow (mrow M 54 r7) 55 r8) (Ps := []) (by decide +kernel) rfl rfl trivial ?_
      exact G.reti (by decide +kernel) rfl rfl (Nat.le_of_ble_eq_true rfl) (Nat.le_of_ble_eq_true rfl) ((by rw [hQ]; simp only [k_deepest, g5, if_neg c11, if_pos c19, mrow_self]))
  · skip
    rw [if_pos c11] at hk
    refine G.sl [(.iconst 0, 1, 0, 0, 0, nI 0)] [] (pc2 := 21) (ls2 := [some (.ref 54), some (.int x1), none, none]) (st2 := [.int (nI 0)]) (M2 := mrow (mrow M 54 r7) 55 r8) (Ps := []) (by decide +kernel) rfl rfl trivial ?_
    exact G.reti (by decide +kernel) rfl rfl (Nat.le_of_ble_eq_true rfl) (Nat.le_of_ble_eq_true rfl) ((by rw [hQ]; simp only [k_deepest, g5, if_pos c11, mrow_self]))
set_option maxHeartbeats 4000000 in
set_option maxRecDepth 3000 in
theorem lp_k_empty_54_20 (z : Zp) (d : Nat) (M : Mem) (Q : Rs → Prop) (a1 : Int32) (np : Nat) (hnp : np ≤ 8) (cp : M.1 54 20 = nI np) (nt : Nat) (hnt : nt ≤ 10) (ct : M.1 54 22 = nI nt) (hX : G z mX12_empty (d + 2) 0 0 54 [some (.ref 54), some (.int (k_empty_20 (M.1 72) nt a1 np)), none] [] M Q) : G z mX12_empty (d + 2) 0 0 20 [some (.ref 54), some (.int a1), some (.int (nI 0))] [] M Q := by
  refine down (n := np) (P := fun i2 => G z mX12_empty (d + 2) 0 0 20 [some (.ref 54), some (.int (k_empty_20 (M.1 72) nt a1 i2)), some (.int (nI i2))] [] M Q) ?_ ?_ 0 (Nat.zero_le _)
  · skip
    refine G.sl [(.iload_n 2, 1, 2, 0, 0, 0), (.aload_n 0, 1, 0, 0, 0, 0), (.getfield 156, 3, 11, 20, 143, 0)] [] (pc2 := 25) (ls2 := [some (.ref 54), some (.int (k_empty_20 (M.1 72) nt a1 np)), some (.int (nI np))]) (st2 := [.int (M.1 54 20), .int (nI np)]) (M2 := M) (Ps := []) (by decide +kernel) rfl rfl trivial ?_
    rw [cp]
    refine G.ic_ge (off := (29)) (tgt := 54) (by decide +kernel) rfl (fun _ => ?_) (fun h9 => absurd (nI_le (by omega) (by omega)) h9)
    refine G.loc (ls2 := [some (.ref 54), some (.int (k_empty_20 (M.1 72) nt a1 np)), none]) (by simp [subL]) ?_
    exact hX
  · skip
    intro i2 hi ih
    show G z mX12_empty (d + 2) 0 0 20 [some (.ref 54), some (.int (k_empty_20 (M.1 72) nt a1 i2)), some (.int (nI i2))] [] M Q
    refine G.sl [(.iload_n 2, 1, 2, 0, 0, 0), (.aload_n 0, 1, 0, 0, 0, 0), (.getfield 156, 3, 11, 20, 143, 0)] [] (pc2 := 25) (ls2 := [some (.ref 54), some (.int (k_empty_20 (M.1 72) nt a1 i2)), some (.int (nI i2))]) (st2 := [.int (M.1 54 20), .int (nI i2)]) (M2 := M) (Ps := []) (by decide +kernel) rfl rfl trivial ?_
    rw [cp]
    refine G.ic_ge (off := (29)) (tgt := 54) (by decide +kernel) rfl (fun h9 => absurd h9 (nI_ge (by omega) (by omega))) (fun _ => ?_)
    refine G.sl [(.iload_n 1, 1, 1, 0, 0, 0), (.aload_n 0, 1, 0, 0, 0, 0), (.iload_n 2, 1, 2, 0, 0, 0)] [] (pc2 := 31) (ls2 := [some (.ref 54), some (.int (k_empty_20 (M.1 72) nt a1 i2)), some (.int (nI i2))]) (st2 := [.int (nI i2), .ref 54, .int (k_empty_20 (M.1 72) nt a1 i2)]) (M2 := M) (Ps := []) (by decide +kernel) rfl rfl trivial ?_
    have t8 : GM z mX12_lyingAt (d + 1) [.ref 54, .int (nI i2)] M (fun rs => rs = .inl (some (.int (k_lyingAt (M.1 72) nt (nI i2))), M)) := by
      have q9 := c_k_lyingAt_54 z (d + 1) M (nI i2) nt hnt ct
      try simp only [mput, mrow_same, mrow_hit, mrow_miss, mrow_sw, idr_eq, ne_eq, Nat.reduceEqDiff, not_false_eq_true, Nat.reduceLT, reduceCtorEq] at q9
      exact q9
    refine G.callV (as := [.int (nI i2)]) (rest := [.int (k_empty_20 (M.1 72) nt a1 i2)]) (a := 54) oX12_lyingAt lk_EvenFindersModel_348 (by decide +kernel) rfl rfl ⟨rfl, rfl⟩ (Nat.le_of_ble_eq_true rfl) rfl ⟨Nat.le_of_ble_eq_true rfl, Nat.le_of_ble_eq_true rfl⟩ t8 (fun v9 N9 h9 => ?_) (fun E9 N9 h9 => by cases h9)
    cases h9
    show G z mX12_empty (d + 2) 0 0 34 [some (.ref 54), some (.int (k_empty_20 (M.1 72) nt a1 i2)), some (.int (nI i2))] [.int (k_lyingAt (M.1 72) nt (nI i2)), .int (k_empty_20 (M.1 72) nt a1 i2)] M Q
    refine G.if_ne (off := (7)) (tgt := 41) (by decide +kernel) rfl (fun c10 => ?_) (fun c10 => ?_)
    · skip
      refine G.sl [(.iconst 1, 1, 0, 0, 0, nI 1), (.iload_n 2, 1, 2, 0, 0, 0), (.ishl, 1, 0, 0, 0, 0), (.iconst (-1), 1, 0, 0, 0, (-1)), (.ixor, 1, 0, 0, 0, 0), (.iand, 1, 0, 0, 0, 0), (.istore_n 1, 1, 1, 0, 0, 0), (.iinc 2 1, 3, 2, 0, 0, nI 1), (.goto (-31), 3, 20, 0, 0, 0)] [] (pc2 := 20) (ls2 := [some (.ref 54), some (.int ((k_empty_20 (M.1 72) nt a1 i2) &&& (((nI 1) <<< ((nI i2) &&& 31)) ^^^ ((-1))))), some (.int ((nI i2) + nI 1))]) (st2 := []) (M2 := M) (Ps := []) (by decide +kernel) rfl rfl trivial ?_
      rw [nI_add i2 1]
      simp only [k_empty_20, if_neg c10] at ih
      exact ih
    · skip
      refine G.sl [(.iconst (-1), 1, 0, 0, 0, (-1)), (.goto 8, 3, 46, 0, 0, 0), (.iand, 1, 0, 0, 0, 0), (.istore_n 1, 1, 1, 0, 0, 0), (.iinc 2 1, 3, 2, 0, 0, nI 1), (.goto (-31), 3, 20, 0, 0, 0)] [] (pc2 := 20) (ls2 := [some (.ref 54), some (.int ((k_empty_20 (M.1 72) nt a1 i2) &&& ((-1)))), some (.int ((nI i2) + nI 1))]) (st2 := []) (M2 := M) (Ps := []) (by decide +kernel) rfl rfl trivial ?_
      rw [nI_add i2 1]
      simp only [k_empty_20, if_pos c10] at ih
      exact ih
set_option maxHeartbeats 4000000 in
set_option maxRecDepth 3000 in
theorem lp_k_empty_54_56 (z : Zp) (d : Nat) (M : Mem) (Q : Rs → Prop) (a1 : Int32) (nf : Nat) (hnf : nf ≤ 6) (cf : M.1 54 23 = nI nf) (hX : G z mX12_empty (d + 2) 0 0 86 [none, some (.int (k_empty_56 (M.1 72) a1 nf)), none] [] M Q) : G z mX12_empty (d + 2) 0 0 56 [some (.ref 54), some (.int a1), some (.int (nI 0))] [] M Q := by
  refine down (n := nf) (P := fun i2 => G z mX12_empty (d + 2) 0 0 56 [some (.ref 54), some (.int (k_empty_56 (M.1 72) a1 i2)), some (.int (nI i2))] [] M Q) ?_ ?_ 0 (Nat.zero_le _)
  · skip
    refine G.sl [(.iload_n 2, 1, 2, 0, 0, 0), (.aload_n 0, 1, 0, 0, 0, 0), (.getfield 165, 3, 11, 23, 146, 0)] [] (pc2 := 61) (ls2 := [some (.ref 54), some (.int (k_empty_56 (M.1 72) a1 nf)), some (.int (nI nf))]) (st2 := [.int (M.1 54 23), .int (nI nf)]) (M2 := M) (Ps := []) (by decide +kernel) rfl rfl trivial ?_
    rw [cf]
    refine G.ic_ge (off := (25)) (tgt := 86) (by decide +kernel) rfl (fun _ => ?_) (fun h9 => absurd (nI_le (by omega) (by omega)) h9)
    refine G.loc (ls2 := [none, some (.int (k_empty_56 (M.1 72) a1 nf)), none]) (by simp [subL]) ?_
    exact hX
  · skip
    intro i2 hi ih
    show G z mX12_empty (d + 2) 0 0 56 [some (.ref 54), some (.int (k_empty_56 (M.1 72) a1 i2)), some (.int (nI i2))] [] M Q
    refine G.sl [(.iload_n 2, 1, 2, 0, 0, 0), (.aload_n 0, 1, 0, 0, 0, 0), (.getfield 165, 3, 11, 23, 146, 0)] [] (pc2 := 61) (ls2 := [some (.ref 54), some (.int (k_empty_56 (M.1 72) a1 i2)), some (.int (nI i2))]) (st2 := [.int (M.1 54 23), .int (nI i2)]) (M2 := M) (Ps := []) (by decide +kernel) rfl rfl trivial ?_
    rw [cf]
    refine G.ic_ge (off := (25)) (tgt := 86) (by decide +kernel) rfl (fun h9 => absurd h9 (nI_ge (by omega) (by omega))) (fun _ => ?_)
    refine G.sl [(.iload_n 1, 1, 1, 0, 0, 0), (.iconst 1, 1, 0, 0, 0, nI 1), (.aload_n 0, 1, 0, 0, 0, 0), (.getfield 68, 3, 11, 41, 164, 0), (.bipush 20, 2, 0, 0, 0, nI 20), (.iload_n 2, 1, 2, 0, 0, 0), (.iadd, 1, 0, 0, 0, 0), (.iaload, 1, 0, 0, 0, 0), (.ishl, 1, 0, 0, 0, 0), (.iconst (-1), 1, 0, 0, 0, (-1)), (.ixor, 1, 0, 0, 0, 0), (.iand, 1, 0, 0, 0, 0), (.istore_n 1, 1, 1, 0, 0, 0), (.iinc 2 1, 3, 2, 0, 0, nI 1), (.goto (-27), 3, 56, 0, 0, 0)] [20 + i2] (pc2 := 56) (ls2 := [some (.ref 54), some (.int ((k_empty_56 (M.1 72) a1 i2) &&& (((nI 1) <<< ((M.1 72 (20 + i2)) &&& 31)) ^^^ ((-1))))), some (.int ((nI i2) + nI 1))]) (st2 := []) (M2 := M) (Ps := [((nI 20) + (nI i2)) = nI (20 + i2) ∧ (20 + i2) < 51]) (by decide +kernel) rfl rfl ⟨⟨(nI_add _ _), (by omega)⟩, trivial⟩ ?_
    rw [nI_add i2 1]
    simp only [k_empty_56] at ih
    exact ih
set_option maxHeartbeats 4000000 in
set_option maxRecDepth 3000 in
theorem c_k_empty_54 (z : Zp) (d : Nat) (M : Mem) (np : Nat) (hnp : np ≤ 8) (cp : M.1 54 20 = nI np) (nt : Nat) (hnt : nt ≤ 10) (ct : M.1 54 22 = nI nt) (nf : Nat) (hnf : nf ≤ 6) (cf : M.1 54 23 = nI nf) (hk : k_empty_ok (M.1 54) (M.1 71) (M.1 72) np nt nf) : GM z mX12_empty (d + 2) [.ref 54] M (fun rs => rs = .inl (some (.int ((k_empty (M.1 54) (M.1 71) (M.1 72) np nt nf).1)), mrow (mrow M 54 ((k_empty (M.1 54) (M.1 71) (M.1 72) np nt nf).2.1)) 72 ((k_empty (M.1 54) (M.1 71) (M.1 72) np nt nf).2.2))) := by
  simp only [k_empty_ok] at hk
  refine GM.of oX12_empty.1 (Nat.le_of_ble_eq_true rfl) ?_
  show G z mX12_empty (d + 2) 0 0 0 [some (.ref 54), none, none] [] M _
  obtain ⟨Q, hQ⟩ : ∃ Q : Rs → Prop, Q = (fun rs => rs = .inl (some (.int ((k_empty (M.1 54) (M.1 71) (M.1 72) np nt nf).1)), mrow (mrow M 54 ((k_empty (M.1 54) (M.1 71) (M.1 72) np nt nf).2.1)) 72 ((k_empty (M.1 54) (M.1 71) (M.1 72) np nt nf).2.2))) := ⟨_, rfl⟩
  rw [← hQ]
  refine G.sl [(.aload_n 0, 1, 0, 0, 0, 0), (.iconst 0, 1, 0, 0, 0, nI 0), (.putfield 3, 3, 11, 0, 123, 0), (.aload_n 0, 1, 0, 0, 0, 0)] [] (pc2 := 6) (ls2 := [some (.ref 54), none, none]) (st2 := [.ref 54]) (M2 := mput M 54 0 (nI 0)) (Ps := []) (by decide +kernel) rfl rfl trivial ?_
  refine G.mem (M' := mrow M 54 (upd (M.1 54) 0 (nI 0))) (by first | rfl | (simp only [mput, mrow_same, mrow_hit, mrow_miss, mrow_sw, idr_eq, ne_eq, Nat.reduceEqDiff, not_false_eq_true, Nat.reduceLT, reduceCtorEq]; done)) ?_
  obtain ⟨k1, hk⟩ := hk
  rcases g2 : k_take (M.1 71) (M.1 72) with ⟨u3, r4⟩
  have t5 : GM z mX12_take (d + 1) [.ref 54] (mrow M 54 (upd (M.1 54) 0 (nI 0))) (fun rs => rs = .inl (none, mrow (mrow M 54 (upd (M.1 54) 0 (nI 0))) 72 r4)) := by
    have q9 := c_k_take_54 z d (mrow M 54 (upd (M.1 54) 0 (nI 0))) k1
    try simp only [mput, mrow_same, mrow_hit, mrow_miss, mrow_sw, idr_eq, ne_eq, Nat.reduceEqDiff, not_false_eq_true, Nat.reduceLT, reduceCtorEq, g2] at q9
    exact q9
  refine G.callV (as := []) (rest := []) (a := 54) oX12_take lk_EvenFindersModel_320 (by decide +kernel) rfl rfl ⟨rfl, rfl⟩ (Nat.le_of_ble_eq_true rfl) rfl ⟨Nat.le_of_ble_eq_true rfl, Nat.le_of_ble_eq_true rfl⟩ t5 (fun v9 N9 h6 => ?_) (fun E9 N9 h6 => by cases h6)
  cases h6
  show G z mX12_empty (d + 2) 0 0 9 [some (.ref 54), none, none] [] (mrow (mrow M 54 (upd (M.1 54) 0 (nI 0))) 72 r4) Q
  refine G.sl [(.iconst 1, 1, 0, 0, 0, nI 1), (.aload_n 0, 1, 0, 0, 0, 0), (.getfield 156, 3, 11, 20, 143, 0), (.ishl, 1, 0, 0, 0, 0), (.iconst 1, 1, 0, 0, 0, nI 1), (.isub, 1, 0, 0, 0, 0), (.istore_n 1, 1, 1, 0, 0, 0), (.iconst 0, 1, 0, 0, 0, nI 0), (.istore_n 2, 1, 2, 0, 0, 0)] [] (pc2 := 20) (ls2 := [some (.ref 54), some (.int (((nI 1) <<< ((M.1 54 20) &&& 31)) - (nI 1))), some (.int (nI 0))]) (st2 := []) (M2 := mrow (mrow M 54 (upd (M.1 54) 0 (nI 0))) 72 r4) (Ps := []) (by decide +kernel) rfl rfl trivial ?_
  rw [cp]
  refine lp_k_empty_54_20 z d (mrow (mrow M 54 (upd (M.1 54) 0 (nI 0))) 72 r4) Q (((nI 1) <<< ((nI np) &&& 31)) - (nI 1)) np hnp cp nt hnt ct ?_
  show G z mX12_empty (d + 2) 0 0 54 [some (.ref 54), some (.int (k_empty_20 r4 nt (((nI 1) <<< ((nI np) &&& 31)) - (nI 1)) np)), none] [] (mrow (mrow M 54 (upd (M.1 54) 0 (nI 0))) 72 r4) Q
  refine G.sl [(.iconst 0, 1, 0, 0, 0, nI 0), (.istore_n 2, 1, 2, 0, 0, 0)] [] (pc2 := 56) (ls2 := [some (.ref 54), some (.int (k_empty_20 r4 nt (((nI 1) <<< ((nI np) &&& 31)) - (nI 1)) np)), some (.int (nI 0))]) (st2 := []) (M2 := mrow (mrow M 54 (upd (M.1 54) 0 (nI 0))) 72 r4) (Ps := []) (by decide +kernel) rfl rfl trivial ?_
  refine lp_k_empty_54_56 z d (mrow (mrow M 54 (upd (M.1 54) 0 (nI 0))) 72 r4) Q (k_empty_20 r4 nt (((nI 1) <<< ((nI np) &&& 31)) - (nI 1)) np) nf hnf cf ?_
  show G z mX12_empty (d + 2) 0 0 86 [none, some (.int (k_empty_56 r4 (k_empty_20 r4 nt (((nI 1) <<< ((nI np) &&& 31)) - (nI 1)) np) nf)), none] [] (mrow (mrow M 54 (upd (M.1 54) 0 (nI 0))) 72 r4) Q
  refine G.sl [(.iload_n 1, 1, 1, 0, 0, 0)] [] (pc2 := 87) (ls2 := [none, some (.int (k_empty_56 r4 (k_empty_20 r4 nt (((nI 1) <<< ((nI np) &&& 31)) - (nI 1)) np) nf)), none]) (st2 := [.int (k_empty_56 r4 (k_empty_20 r4 nt (((nI 1) <<< ((nI np) &&& 31)) - (nI 1)) np) nf)]) (M2 := mrow (mrow M 54 (upd (M.1 54) 0 (nI 0))) 72 r4) (Ps := []) (by decide +kernel) rfl rfl trivial ?_
  exact G.reti (by decide +kernel) rfl rfl (Nat.le_of_ble_eq_true rfl) (Nat.le_of_ble_eq_true rfl) ((by rw [hQ]; simp only [k_empty, g2, mrow_self]))
set_option maxHeartbeats 4000000 in
set_option maxRecDepth 3000 in
theorem lp_k_lucky_54_13 (z : Zp) (d : Nat) (M : Mem) (Q : Rs → Prop) (nt : Nat) (hnt : nt ≤ 10) (ct : M.1 54 22 = nI nt) (nf : Nat) (hnf : nf ≤ 6) (cf : M.1 54 23 = nI nf) (hX : G z mX12_lucky (d + 2) 0 0 65 [none, some (.int (k_lucky_13 (M.1 72) nt nf)), none] [] M Q) : G z mX12_lucky (d + 2) 0 0 13 [some (.ref 54), some (.int (nI 0)), some (.int (nI 0))] [] M Q := by
  refine down (n := nf) (P := fun i2 => G z mX12_lucky (d + 2) 0 0 13 [some (.ref 54), some (.int (k_lucky_13 (M.1 72) nt i2)), some (.int (nI i2))] [] M Q) ?_ ?_ 0 (Nat.zero_le _)
  · skip
    refine G.sl [(.iload_n 2, 1, 2, 0, 0, 0), (.aload_n 0, 1, 0, 0, 0, 0), (.getfield 165, 3, 11, 23, 146, 0)] [] (pc2 := 18) (ls2 := [some (.ref 54), some (.int (k_lucky_13 (M.1 72) nt nf)), some (.int (nI nf))]) (st2 := [.int (M.1 54 23), .int (nI nf)]) (M2 := M) (Ps := []) (by decide +kernel) rfl rfl trivial ?_
    rw [cf]
    refine G.ic_ge (off := (47)) (tgt := 65) (by decide +kernel) rfl (fun _ => ?_) (fun h9 => absurd (nI_le (by omega) (by omega)) h9)
    refine G.loc (ls2 := [none, some (.int (k_lucky_13 (M.1 72) nt nf)), none]) (by simp [subL]) ?_
    exact hX
  · skip
    intro i2 hi ih
    show G z mX12_lucky (d + 2) 0 0 13 [some (.ref 54), some (.int (k_lucky_13 (M.1 72) nt i2)), some (.int (nI i2))] [] M Q
    refine G.sl [(.iload_n 2, 1, 2, 0, 0, 0), (.aload_n 0, 1, 0, 0, 0, 0), (.getfield 165, 3, 11, 23, 146, 0)] [] (pc2 := 18) (ls2 := [some (.ref 54), some (.int (k_lucky_13 (M.1 72) nt i2)), some (.int (nI i2))]) (st2 := [.int (M.1 54 23), .int (nI i2)]) (M2 := M) (Ps := []) (by decide +kernel) rfl rfl trivial ?_
    rw [cf]
    refine G.ic_ge (off := (47)) (tgt := 65) (by decide +kernel) rfl (fun h9 => absurd h9 (nI_ge (by omega) (by omega))) (fun _ => ?_)
    refine G.sl [(.iload_n 1, 1, 1, 0, 0, 0), (.aload_n 0, 1, 0, 0, 0, 0), (.getfield 68, 3, 11, 41, 164, 0), (.bipush 26, 2, 0, 0, 0, nI 26), (.iload_n 2, 1, 2, 0, 0, 0), (.iadd, 1, 0, 0, 0, 0), (.iaload, 1, 0, 0, 0, 0)] [26 + i2] (pc2 := 31) (ls2 := [some (.ref 54), some (.int (k_lucky_13 (M.1 72) nt i2)), some (.int (nI i2))]) (st2 := [.int (M.1 72 (26 + i2)), .int (k_lucky_13 (M.1 72) nt i2)]) (M2 := M) (Ps := [((nI 26) + (nI i2)) = nI (26 + i2) ∧ (26 + i2) < 51]) (by decide +kernel) rfl rfl ⟨⟨(nI_add _ _), (by omega)⟩, trivial⟩ ?_
    refine G.if_gt (off := (25)) (tgt := 56) (by decide +kernel) rfl (fun c7 => ?_) (fun c7 => ?_)
    · skip
      refine G.sl [(.iconst 0, 1, 0, 0, 0, nI 0), (.ior, 1, 0, 0, 0, 0), (.istore_n 1, 1, 1, 0, 0, 0), (.iinc 2 1, 3, 2, 0, 0, nI 1), (.goto (-49), 3, 13, 0, 0, 0)] [] (pc2 := 13) (ls2 := [some (.ref 54), some (.int ((k_lucky_13 (M.1 72) nt i2) ||| (nI 0))), some (.int ((nI i2) + nI 1))]) (st2 := []) (M2 := M) (Ps := []) (by decide +kernel) rfl rfl trivial ?_
      rw [nI_add i2 1]
      simp only [k_lucky_13, if_pos c7] at ih
      exact ih
    · skip
      refine G.sl [(.aload_n 0, 1, 0, 0, 0, 0), (.aload_n 0, 1, 0, 0, 0, 0), (.getfield 68, 3, 11, 41, 164, 0), (.bipush 20, 2, 0, 0, 0, nI 20), (.iload_n 2, 1, 2, 0, 0, 0), (.iadd, 1, 0, 0, 0, 0), (.iaload, 1, 0, 0, 0, 0)] [20 + i2] (pc2 := 44) (ls2 := [some (.ref 54), some (.int (k_lucky_13 (M.1 72) nt i2)), some (.int (nI i2))]) (st2 := [.int (M.1 72 (20 + i2)), .ref 54, .int (k_lucky_13 (M.1 72) nt i2)]) (M2 := M) (Ps := [((nI 20) + (nI i2)) = nI (20 + i2) ∧ (20 + i2) < 51]) (by decide +kernel) rfl rfl ⟨⟨(nI_add _ _), (by omega)⟩, trivial⟩ ?_
      have t9 : GM z mX12_lyingAt (d + 1) [.ref 54, .int (M.1 72 (20 + i2))] M (fun rs => rs = .inl (some (.int (k_lyingAt (M.1 72) nt (M.1 72 (20 + i2)))), M)) := by
        have q9 := c_k_lyingAt_54 z (d + 1) M (M.1 72 (20 + i2)) nt hnt ct
        try simp only [mput, mrow_same, mrow_hit, mrow_miss, mrow_sw, idr_eq, ne_eq, Nat.reduceEqDiff, not_false_eq_true, Nat.reduceLT, reduceCtorEq] at q9
        exact q9
      refine G.callV (as := [.int (M.1 72 (20 + i2))]) (rest := [.int (k_lucky_13 (M.1 72) nt i2)]) (a := 54) oX12_lyingAt lk_EvenFindersModel_348 (by decide +kernel) rfl rfl ⟨rfl, rfl⟩ (Nat.le_of_ble_eq_true rfl) rfl ⟨Nat.le_of_ble_eq_true rfl, Nat.le_of_ble_eq_true rfl⟩ t9 (fun v9 N9 h10 => ?_) (fun E9 N9 h10 => by cases h10)
      cases h10
      show G z mX12_lucky (d + 2) 0 0 47 [some (.ref 54), some (.int (k_lucky_13 (M.1 72) nt i2)), some (.int (nI i2))] [.int (k_lyingAt (M.1 72) nt (M.1 72 (20 + i2))), .int (k_lucky_13 (M.1 72) nt i2)] M Q
      refine G.if_eq (off := (9)) (tgt := 56) (by decide +kernel) rfl (fun c11 => ?_) (fun c11 => ?_)
      · skip
        refine G.sl [(.iconst 0, 1, 0, 0, 0, nI 0), (.ior, 1, 0, 0, 0, 0), (.istore_n 1, 1, 1, 0, 0, 0), (.iinc 2 1, 3, 2, 0, 0, nI 1), (.goto (-49), 3, 13, 0, 0, 0)] [] (pc2 := 13) (ls2 := [some (.ref 54), some (.int ((k_lucky_13 (M.1 72) nt i2) ||| (nI 0))), some (.int ((nI i2) + nI 1))]) (st2 := []) (M2 := M) (Ps := []) (by decide +kernel) rfl rfl trivial ?_
        rw [nI_add i2 1]
        simp only [k_lucky_13, if_neg c7, if_pos c11] at ih
        exact ih
      · skip
        refine G.sl [(.iconst 1, 1, 0, 0, 0, nI 1), (.iload_n 2, 1, 2, 0, 0, 0), (.ishl, 1, 0, 0, 0, 0), (.goto 4, 3, 57, 0, 0, 0), (.ior, 1, 0, 0, 0, 0), (.istore_n 1, 1, 1, 0, 0, 0), (.iinc 2 1, 3, 2, 0, 0, nI 1), (.goto (-49), 3, 13, 0, 0, 0)] [] (pc2 := 13) (ls2 := [some (.ref 54), some (.int ((k_lucky_13 (M.1 72) nt i2) ||| ((nI 1) <<< ((nI i2) &&& 31)))), some (.int ((nI i2) + nI 1))]) (st2 := []) (M2 := M) (Ps := []) (by decide +kernel) rfl rfl trivial ?_
        rw [nI_add i2 1]
        simp only [k_lucky_13, if_neg c7, if_neg c11] at ih
        exact ih
set_option maxHeartbeats 4000000 in
set_option maxRecDepth 3000 in
theorem c_k_lucky_54 (z : Zp) (d : Nat) (M : Mem) (nt : Nat) (hnt : nt ≤ 10) (ct : M.1 54 22 = nI nt) (nf : Nat) (hnf : nf ≤ 6) (cf : M.1 54 23 = nI nf) (hk : k_lucky_ok (M.1 54) (M.1 71) (M.1 72) nt nf) : GM z mX12_lucky (d + 2) [.ref 54] M (fun rs => rs = .inl (some (.int ((k_lucky (M.1 54) (M.1 71) (M.1 72) nt nf).1)), mrow (mrow M 54 ((k_lucky (M.1 54) (M.1 71) (M.1 72) nt nf).2.1)) 72 ((k_lucky (M.1 54) (M.1 71) (M.1 72) nt nf).2.2))) := by
  simp only [k_lucky_ok] at hk
  refine GM.of oX12_lucky.1 (Nat.le_of_ble_eq_true rfl) ?_
  show G z mX12_lucky (d + 2) 0 0 0 [some (.ref 54), none, none] [] M _
  obtain ⟨Q, hQ⟩ : ∃ Q : Rs → Prop, Q = (fun rs => rs = .inl (some (.int ((k_lucky (M.1 54) (M.1 71) (M.1 72) nt nf).1)), mrow (mrow M 54 ((k_lucky (M.1 54) (M.1 71) (M.1 72) nt nf).2.1)) 72 ((k_lucky (M.1 54) (M.1 71) (M.1 72) nt nf).2.2))) := ⟨_, rfl⟩
  rw [← hQ]
  refine G.sl [(.aload_n 0, 1, 0, 0, 0, 0), (.iconst 0, 1, 0, 0, 0, nI 0), (.putfield 3, 3, 11, 0, 123, 0), (.aload_n 0, 1, 0, 0, 0, 0)] [] (pc2 := 6) (ls2 := [some (.ref 54), none, none]) (st2 := [.ref 54]) (M2 := mput M 54 0 (nI 0)) (Ps := []) (by decide +kernel) rfl rfl trivial ?_
  refine G.mem (M' := mrow M 54 (upd (M.1 54) 0 (nI 0))) (by first | rfl | (simp only [mput, mrow_same, mrow_hit, mrow_miss, mrow_sw, idr_eq, ne_eq, Nat.reduceEqDiff, not_false_eq_true, Nat.reduceLT, reduceCtorEq]; done)) ?_
  obtain ⟨k1, hk⟩ := hk
  rcases g2 : k_take (M.1 71) (M.1 72) with ⟨u3, r4⟩
  have t5 : GM z mX12_take (d + 1) [.ref 54] (mrow M 54 (upd (M.1 54) 0 (nI 0))) (fun rs => rs = .inl (none, mrow (mrow M 54 (upd (M.1 54) 0 (nI 0))) 72 r4)) := by
    have q9 := c_k_take_54 z d (mrow M 54 (upd (M.1 54) 0 (nI 0))) k1
    try simp only [mput, mrow_same, mrow_hit, mrow_miss, mrow_sw, idr_eq, ne_eq, Nat.reduceEqDiff, not_false_eq_true, Nat.reduceLT, reduceCtorEq, g2] at q9
    exact q9
  refine G.callV (as := []) (rest := []) (a := 54) oX12_take lk_EvenFindersModel_320 (by decide +kernel) rfl rfl ⟨rfl, rfl⟩ (Nat.le_of_ble_eq_true rfl) rfl ⟨Nat.le_of_ble_eq_true rfl, Nat.le_of_ble_eq_true rfl⟩ t5 (fun v9 N9 h6 => ?_) (fun E9 N9 h6 => by cases h6)
  cases h6
  show G z mX12_lucky (d + 2) 0 0 9 [some (.ref 54), none, none] [] (mrow (mrow M 54 (upd (M.1 54) 0 (nI 0))) 72 r4) Q
  refine G.sl [(.iconst 0, 1, 0, 0, 0, nI 0), (.istore_n 1, 1, 1, 0, 0, 0), (.iconst 0, 1, 0, 0, 0, nI 0), (.istore_n 2, 1, 2, 0, 0, 0)] [] (pc2 := 13) (ls2 := [some (.ref 54), some (.int (nI 0)), some (.int (nI 0))]) (st2 := []) (M2 := mrow (mrow M 54 (upd (M.1 54) 0 (nI 0))) 72 r4) (Ps := []) (by decide +kernel) rfl rfl trivial ?_
  refine lp_k_lucky_54_13 z d (mrow (mrow M 54 (upd (M.1 54) 0 (nI 0))) 72 r4) Q nt hnt ct nf hnf cf ?_
  show G z mX12_lucky (d + 2) 0 0 65 [none, some (.int (k_lucky_13 r4 nt nf)), none] [] (mrow (mrow M 54 (upd (M.1 54) 0 (nI 0))) 72 r4) Q
  refine G.sl [(.iload_n 1, 1, 1, 0, 0, 0)] [] (pc2 := 66) (ls2 := [none, some (.int (k_lucky_13 r4 nt nf)), none]) (st2 := [.int (k_lucky_13 r4 nt nf)]) (M2 := mrow (mrow M 54 (upd (M.1 54) 0 (nI 0))) 72 r4) (Ps := []) (by decide +kernel) rfl rfl trivial ?_
  exact G.reti (by decide +kernel) rfl rfl (Nat.le_of_ble_eq_true rfl) (Nat.le_of_ble_eq_true rfl) ((by rw [hQ]; simp only [k_lucky, g2, mrow_self]))
set_option maxHeartbeats 4000000 in
set_option maxRecDepth 3000 in
theorem lp_k_sound_54_30 (z : Zp) (d : Nat) (M : Mem) (Q : Rs → Prop) (x1 : Int32) (nt : Nat) (hnt : nt ≤ 10) (ct : M.1 54 22 = nI nt) (nf : Nat) (hnf : nf ≤ 6) (cf : M.1 54 23 = nI nf) (hX : G z mX12_sound (d + 2) 0 0 98 [none, none, some (.int (k_sound_30 (M.1 61) (M.1 72) nt x1 nf)), none, none] [] M Q) : G z mX12_sound (d + 2) 0 0 30 [some (.ref 54), some (.int x1), some (.int (nI 0)), some (.int (nI 0)), none] [] M Q := by
  refine down (n := nf) (P := fun i3 => G z mX12_sound (d + 2) 0 0 30 [some (.ref 54), some (.int x1), some (.int (k_sound_30 (M.1 61) (M.1 72) nt x1 i3)), some (.int (nI i3)), none] [] M Q) ?_ ?_ 0 (Nat.zero_le _)
  · skip
    refine G.sl [(.iload_n 3, 1, 3, 0, 0, 0), (.aload_n 0, 1, 0, 0, 0, 0), (.getfield 165, 3, 11, 23, 146, 0)] [] (pc2 := 35) (ls2 := [some (.ref 54), some (.int x1), some (.int (k_sound_30 (M.1 61) (M.1 72) nt x1 nf)), some (.int (nI nf)), none]) (st2 := [.int (M.1 54 23), .int (nI nf)]) (M2 := M) (Ps := []) (by decide +kernel) rfl rfl trivial ?_
    rw [cf]
    refine G.ic_ge (off := (63)) (tgt := 98) (by decide +kernel) rfl (fun _ => ?_) (fun h9 => absurd (nI_le (by omega) (by omega)) h9)
    refine G.loc (ls2 := [none, none, some (.int (k_sound_30 (M.1 61) (M.1 72) nt x1 nf)), none, none]) (by simp [subL]) ?_
    exact hX
  · skip
    intro i3 hi ih
    show G z mX12_sound (d + 2) 0 0 30 [some (.ref 54), some (.int x1), some (.int (k_sound_30 (M.1 61) (M.1 72) nt x1 i3)), some (.int (nI i3)), none] [] M Q
    refine G.sl [(.iload_n 3, 1, 3, 0, 0, 0), (.aload_n 0, 1, 0, 0, 0, 0), (.getfield 165, 3, 11, 23, 146, 0)] [] (pc2 := 35) (ls2 := [some (.ref 54), some (.int x1), some (.int (k_sound_30 (M.1 61) (M.1 72) nt x1 i3)), some (.int (nI i3)), none]) (st2 := [.int (M.1 54 23), .int (nI i3)]) (M2 := M) (Ps := []) (by decide +kernel) rfl rfl trivial ?_
    rw [cf]
    refine G.ic_ge (off := (63)) (tgt := 98) (by decide +kernel) rfl (fun h9 => absurd h9 (nI_ge (by omega) (by omega))) (fun _ => ?_)
    refine G.sl [(.aload_n 0, 1, 0, 0, 0, 0), (.aload_n 0, 1, 0, 0, 0, 0), (.iload_n 3, 1, 3, 0, 0, 0)] [] (pc2 := 41) (ls2 := [some (.ref 54), some (.int x1), some (.int (k_sound_30 (M.1 61) (M.1 72) nt x1 i3)), some (.int (nI i3)), none]) (st2 := [.int (nI i3), .ref 54, .ref 54]) (M2 := M) (Ps := []) (by decide +kernel) rfl rfl trivial ?_
    have t19 : GM z mX12_heldBy (d + 1) [.ref 54, .int (nI i3)] M (fun rs => rs = .inl (some (.int (k_heldBy (M.1 72) nt (nI i3))), M)) := by
      have q9 := c_k_heldBy_54 z (d + 1) M (nI i3) nt hnt ct
      try simp only [mput, mrow_same, mrow_hit, mrow_miss, mrow_sw, idr_eq, ne_eq, Nat.reduceEqDiff, not_false_eq_true, Nat.reduceLT, reduceCtorEq] at q9
      exact q9
    refine G.callV (as := [.int (nI i3)]) (rest := [.ref 54]) (a := 54) oX12_heldBy lk_EvenFindersModel_342 (by decide +kernel) rfl rfl ⟨rfl, rfl⟩ (Nat.le_of_ble_eq_true rfl) rfl ⟨Nat.le_of_ble_eq_true rfl, Nat.le_of_ble_eq_true rfl⟩ t19 (fun v9 N9 h20 => ?_) (fun E9 N9 h20 => by cases h20)
    cases h20
    show G z mX12_sound (d + 2) 0 0 44 [some (.ref 54), some (.int x1), some (.int (k_sound_30 (M.1 61) (M.1 72) nt x1 i3)), some (.int (nI i3)), none] [.int (k_heldBy (M.1 72) nt (nI i3)), .ref 54] M Q
    have t22 : GM z mX12_worthOf (d + 1) [.ref 54, .int (k_heldBy (M.1 72) nt (nI i3))] M (fun rs => rs = .inl (some (.int (k_worthOf (M.1 61) nt (k_heldBy (M.1 72) nt (nI i3)))), M)) := by
      have q9 := c_k_worthOf_54 z (d + 1) M (k_heldBy (M.1 72) nt (nI i3)) nt hnt ct
      try simp only [mput, mrow_same, mrow_hit, mrow_miss, mrow_sw, idr_eq, ne_eq, Nat.reduceEqDiff, not_false_eq_true, Nat.reduceLT, reduceCtorEq] at q9
      exact q9
    refine G.callV (as := [.int (k_heldBy (M.1 72) nt (nI i3))]) (rest := []) (a := 54) oX12_worthOf lk_EvenFindersModel_388 (by decide +kernel) rfl rfl ⟨rfl, rfl⟩ (Nat.le_of_ble_eq_true rfl) rfl ⟨Nat.le_of_ble_eq_true rfl, Nat.le_of_ble_eq_true rfl⟩ t22 (fun v9 N9 h23 => ?_) (fun E9 N9 h23 => by cases h23)
    cases h23
    show G z mX12_sound (d + 2) 0 0 47 [some (.ref 54), some (.int x1), some (.int (k_sound_30 (M.1 61) (M.1 72) nt x1 i3)), some (.int (nI i3)), none] [.int (k_worthOf (M.1 61) nt (k_heldBy (M.1 72) nt (nI i3)))] M Q
    refine G.sl [(.aload_n 0, 1, 0, 0, 0, 0), (.getfield 68, 3, 11, 41, 164, 0), (.bipush 26, 2, 0, 0, 0, nI 26), (.iload_n 3, 1, 3, 0, 0, 0), (.iadd, 1, 0, 0, 0, 0), (.iaload, 1, 0, 0, 0, 0), (.isub, 1, 0, 0, 0, 0), (.istore 4, 2, 4, 0, 0, 0), (.iload_n 2, 1, 2, 0, 0, 0), (.iload 4, 2, 4, 0, 0, 0)] [26 + i3] (pc2 := 62) (ls2 := [some (.ref 54), some (.int x1), some (.int (k_sound_30 (M.1 61) (M.1 72) nt x1 i3)), some (.int (nI i3)), some (.int ((k_worthOf (M.1 61) nt (k_heldBy (M.1 72) nt (nI i3))) - (M.1 72 (26 + i3))))]) (st2 := [.int ((k_worthOf (M.1 61) nt (k_heldBy (M.1 72) nt (nI i3))) - (M.1 72 (26 + i3))), .int (k_sound_30 (M.1 61) (M.1 72) nt x1 i3)]) (M2 := M) (Ps := [((nI 26) + (nI i3)) = nI (26 + i3) ∧ (26 + i3) < 51]) (by decide +kernel) rfl rfl ⟨⟨(nI_add _ _), (by omega)⟩, trivial⟩ ?_
    refine G.if_le (off := (7)) (tgt := 69) (by decide +kernel) rfl (fun c24 => ?_) (fun c24 => ?_)
    · skip
      refine G.sl [(.iload 4, 2, 4, 0, 0, 0)] [] (pc2 := 71) (ls2 := [some (.ref 54), some (.int x1), some (.int (k_sound_30 (M.1 61) (M.1 72) nt x1 i3)), some (.int (nI i3)), some (.int ((k_worthOf (M.1 61) nt (k_heldBy (M.1 72) nt (nI i3))) - (M.1 72 (26 + i3))))]) (st2 := [.int ((k_worthOf (M.1 61) nt (k_heldBy (M.1 72) nt (nI i3))) - (M.1 72 (26 + i3))), .int (k_sound_30 (M.1 61) (M.1 72) nt x1 i3)]) (M2 := M) (Ps := []) (by decide +kernel) rfl rfl trivial ?_
      refine G.if_ne (off := (7)) (tgt := 78) (by decide +kernel) rfl (fun c25 => ?_) (fun c25 => ?_)
      · skip
        refine G.sl [(.iconst 2, 1, 0, 0, 0, nI 2), (.iload_n 1, 1, 1, 0, 0, 0)] [] (pc2 := 80) (ls2 := [some (.ref 54), some (.int x1), some (.int (k_sound_30 (M.1 61) (M.1 72) nt x1 i3)), some (.int (nI i3)), some (.int ((k_worthOf (M.1 61) nt (k_heldBy (M.1 72) nt (nI i3))) - (M.1 72 (26 + i3))))]) (st2 := [.int x1, .int (nI 2), .int (k_sound_30 (M.1 61) (M.1 72) nt x1 i3)]) (M2 := M) (Ps := []) (by decide +kernel) rfl rfl trivial ?_
        refine G.ic_ne (off := (9)) (tgt := 89) (by decide +kernel) rfl (fun c26 => ?_) (fun c26 => ?_)
        · skip
          refine G.sl [(.iconst 0, 1, 0, 0, 0, nI 0), (.ior, 1, 0, 0, 0, 0), (.istore_n 2, 1, 2, 0, 0, 0), (.iinc 3 1, 3, 3, 0, 0, nI 1), (.goto (-65), 3, 30, 0, 0, 0)] [] (pc2 := 30) (ls2 := [some (.ref 54), some (.int x1), some (.int ((k_sound_30 (M.1 61) (M.1 72) nt x1 i3) ||| (nI 0))), some (.int ((nI i3) + nI 1)), some (.int ((k_worthOf (M.1 61) nt (k_heldBy (M.1 72) nt (nI i3))) - (M.1 72 (26 + i3))))]) (st2 := []) (M2 := M) (Ps := []) (by decide +kernel) rfl rfl trivial ?_
          refine G.loc (ls2 := [some (.ref 54), some (.int x1), some (.int ((k_sound_30 (M.1 61) (M.1 72) nt x1 i3) ||| (nI 0))), some (.int ((nI i3) + nI 1)), none]) (by simp [subL]) ?_
          rw [nI_add i3 1]
          simp only [k_sound_30, if_pos c24, if_neg c25, if_neg c26] at ih
          exact ih
        · skip
          refine G.sl [(.iconst 1, 1, 0, 0, 0, nI 1), (.iload_n 3, 1, 3, 0, 0, 0), (.ishl, 1, 0, 0, 0, 0), (.goto 4, 3, 90, 0, 0, 0), (.ior, 1, 0, 0, 0, 0), (.istore_n 2, 1, 2, 0, 0, 0), (.iinc 3 1, 3, 3, 0, 0, nI 1), (.goto (-65), 3, 30, 0, 0, 0)] [] (pc2 := 30) (ls2 := [some (.ref 54), some (.int x1), some (.int ((k_sound_30 (M.1 61) (M.1 72) nt x1 i3) ||| ((nI 1) <<< ((nI i3) &&& 31)))), some (.int ((nI i3) + nI 1)), some (.int ((k_worthOf (M.1 61) nt (k_heldBy (M.1 72) nt (nI i3))) - (M.1 72 (26 + i3))))]) (st2 := []) (M2 := M) (Ps := []) (by decide +kernel) rfl rfl trivial ?_
          refine G.loc (ls2 := [some (.ref 54), some (.int x1), some (.int ((k_sound_30 (M.1 61) (M.1 72) nt x1 i3) ||| ((nI 1) <<< ((nI i3) &&& 31)))), some (.int ((nI i3) + nI 1)), none]) (by simp [subL]) ?_
          rw [nI_add i3 1]
          simp only [k_sound_30, if_pos c24, if_neg c25, if_pos c26] at ih
          exact ih
      · skip
        refine G.sl [(.iconst 1, 1, 0, 0, 0, nI 1), (.goto 4, 3, 79, 0, 0, 0), (.iload_n 1, 1, 1, 0, 0, 0)] [] (pc2 := 80) (ls2 := [some (.ref 54), some (.int x1), some (.int (k_sound_30 (M.1 61) (M.1 72) nt x1 i3)), some (.int (nI i3)), some (.int ((k_worthOf (M.1 61) nt (k_heldBy (M.1 72) nt (nI i3))) - (M.1 72 (26 + i3))))]) (st2 := [.int x1, .int (nI 1), .int (k_sound_30 (M.1 61) (M.1 72) nt x1 i3)]) (M2 := M) (Ps := []) (by decide +kernel) rfl rfl trivial ?_
        refine G.ic_ne (off := (9)) (tgt := 89) (by decide +kernel) rfl (fun c27 => ?_) (fun c27 => ?_)
        · skip
          refine G.sl [(.iconst 0, 1, 0, 0, 0, nI 0), (.ior, 1, 0, 0, 0, 0), (.istore_n 2, 1, 2, 0, 0, 0), (.iinc 3 1, 3, 3, 0, 0, nI 1), (.goto (-65), 3, 30, 0, 0, 0)] [] (pc2 := 30) (ls2 := [some (.ref 54), some (.int x1), some (.int ((k_sound_30 (M.1 61) (M.1 72) nt x1 i3) ||| (nI 0))), some (.int ((nI i3) + nI 1)), some (.int ((k_worthOf (M.1 61) nt (k_heldBy (M.1 72) nt (nI i3))) - (M.1 72 (26 + i3))))]) (st2 := []) (M2 := M) (Ps := []) (by decide +kernel) rfl rfl trivial ?_
          refine G.loc (ls2 := [some (.ref 54), some (.int x1), some (.int ((k_sound_30 (M.1 61) (M.1 72) nt x1 i3) ||| (nI 0))), some (.int ((nI i3) + nI 1)), none]) (by simp [subL]) ?_
          rw [nI_add i3 1]
          simp only [k_sound_30, if_pos c24, if_pos c25, if_neg c27] at ih
          exact ih
        · skip
          refine G.sl [(.iconst 1, 1, 0, 0, 0, nI 1), (.iload_n 3, 1, 3, 0, 0, 0), (.ishl, 1, 0, 0, 0, 0), (.goto 4, 3, 90, 0, 0, 0), (.ior, 1, 0, 0, 0, 0), (.istore_n 2, 1, 2, 0, 0, 0), (.iinc 3 1, 3, 3, 0, 0, nI 1), (.goto (-65), 3, 30, 0, 0, 0)] [] (pc2 := 30) (ls2 := [some (.ref 54), some (.int x1), some (.int ((k_sound_30 (M.1 61) (M.1 72) nt x1 i3) ||| ((nI 1) <<< ((nI i3) &&& 31)))), some (.int ((nI i3) + nI 1)), some (.int ((k_worthOf (M.1 61) nt (k_heldBy (M.1 72) nt (nI i3))) - (M.1 72 (26 + i3))))]) (st2 := []) (M2 := M) (Ps := []) (by decide +kernel) rfl rfl trivial ?_
          refine G.loc (ls2 := [some (.ref 54), some (.int x1), some (.int ((k_sound_30 (M.1 61) (M.1 72) nt x1 i3) ||| ((nI 1) <<< ((nI i3) &&& 31)))), some (.int ((nI i3) + nI 1)), none]) (by simp [subL]) ?_
          rw [nI_add i3 1]
          simp only [k_sound_30, if_pos c24, if_pos c25, if_pos c27] at ih
          exact ih
    · skip
      refine G.sl [(.iconst 0, 1, 0, 0, 0, nI 0), (.goto 13, 3, 79, 0, 0, 0), (.iload_n 1, 1, 1, 0, 0, 0)] [] (pc2 := 80) (ls2 := [some (.ref 54), some (.int x1), some (.int (k_sound_30 (M.1 61) (M.1 72) nt x1 i3)), some (.int (nI i3)), some (.int ((k_worthOf (M.1 61) nt (k_heldBy (M.1 72) nt (nI i3))) - (M.1 72 (26 + i3))))]) (st2 := [.int x1, .int (nI 0), .int (k_sound_30 (M.1 61) (M.1 72) nt x1 i3)]) (M2 := M) (Ps := []) (by decide +kernel) rfl rfl trivial ?_
      refine G.ic_ne (off := (9)) (tgt := 89) (by decide +kernel) rfl (fun c28 => ?_) (fun c28 => ?_)
      · skip
        refine G.sl [(.iconst 0, 1, 0, 0, 0, nI 0), (.ior, 1, 0, 0, 0, 0), (.istore_n 2, 1, 2, 0, 0, 0), (.iinc 3 1, 3, 3, 0, 0, nI 1), (.goto (-65), 3, 30, 0, 0, 0)] [] (pc2 := 30) (ls2 := [some (.ref 54), some (.int x1), some (.int ((k_sound_30 (M.1 61) (M.1 72) nt x1 i3) ||| (nI 0))), some (.int ((nI i3) + nI 1)), some (.int ((k_worthOf (M.1 61) nt (k_heldBy (M.1 72) nt (nI i3))) - (M.1 72 (26 + i3))))]) (st2 := []) (M2 := M) (Ps := []) (by decide +kernel) rfl rfl trivial ?_
        refine G.loc (ls2 := [some (.ref 54), some (.int x1), some (.int ((k_sound_30 (M.1 61) (M.1 72) nt x1 i3) ||| (nI 0))), some (.int ((nI i3) + nI 1)), none]) (by simp [subL]) ?_
        rw [nI_add i3 1]
        simp only [k_sound_30, if_neg c24, if_neg c28] at ih
        exact ih
      · skip
        refine G.sl [(.iconst 1, 1, 0, 0, 0, nI 1), (.iload_n 3, 1, 3, 0, 0, 0), (.ishl, 1, 0, 0, 0, 0), (.goto 4, 3, 90, 0, 0, 0), (.ior, 1, 0, 0, 0, 0), (.istore_n 2, 1, 2, 0, 0, 0), (.iinc 3 1, 3, 3, 0, 0, nI 1), (.goto (-65), 3, 30, 0, 0, 0)] [] (pc2 := 30) (ls2 := [some (.ref 54), some (.int x1), some (.int ((k_sound_30 (M.1 61) (M.1 72) nt x1 i3) ||| ((nI 1) <<< ((nI i3) &&& 31)))), some (.int ((nI i3) + nI 1)), some (.int ((k_worthOf (M.1 61) nt (k_heldBy (M.1 72) nt (nI i3))) - (M.1 72 (26 + i3))))]) (st2 := []) (M2 := M) (Ps := []) (by decide +kernel) rfl rfl trivial ?_
        refine G.loc (ls2 := [some (.ref 54), some (.int x1), some (.int ((k_sound_30 (M.1 61) (M.1 72) nt x1 i3) ||| ((nI 1) <<< ((nI i3) &&& 31)))), some (.int ((nI i3) + nI 1)), none]) (by simp [subL]) ?_
        rw [nI_add i3 1]
        simp only [k_sound_30, if_neg c24, if_pos c28] at ih
        exact ih
set_option maxHeartbeats 4000000 in
set_option maxRecDepth 3000 in
theorem c_k_sound_54 (z : Zp) (d : Nat) (M : Mem) (x1 : Int32) (hk : k_sound_ok (M.1 54) (M.1 55) (M.1 61) (M.1 71) (M.1 72) x1) : GM z mX12_sound (d + 2) [.ref 54, .int x1] M (fun rs => rs = .inl (some (.int ((k_sound (M.1 54) (M.1 55) (M.1 61) (M.1 71) (M.1 72) x1).1)), mrow (mrow (mrow M 54 ((k_sound (M.1 54) (M.1 55) (M.1 61) (M.1 71) (M.1 72) x1).2.1)) 55 ((k_sound (M.1 54) (M.1 55) (M.1 61) (M.1 71) (M.1 72) x1).2.2.1)) 72 ((k_sound (M.1 54) (M.1 55) (M.1 61) (M.1 71) (M.1 72) x1).2.2.2))) := by
  simp only [k_sound_ok] at hk
  refine GM.of oX12_sound.1 (Nat.le_of_ble_eq_true rfl) ?_
  show G z mX12_sound (d + 2) 0 0 0 [some (.ref 54), some (.int x1), none, none, none] [] M _
  obtain ⟨Q, hQ⟩ : ∃ Q : Rs → Prop, Q = (fun rs => rs = .inl (some (.int ((k_sound (M.1 54) (M.1 55) (M.1 61) (M.1 71) (M.1 72) x1).1)), mrow (mrow (mrow M 54 ((k_sound (M.1 54) (M.1 55) (M.1 61) (M.1 71) (M.1 72) x1).2.1)) 55 ((k_sound (M.1 54) (M.1 55) (M.1 61) (M.1 71) (M.1 72) x1).2.2.1)) 72 ((k_sound (M.1 54) (M.1 55) (M.1 61) (M.1 71) (M.1 72) x1).2.2.2))) := ⟨_, rfl⟩
  rw [← hQ]
  refine G.sl [(.aload_n 0, 1, 0, 0, 0, 0), (.iconst 0, 1, 0, 0, 0, nI 0), (.putfield 3, 3, 11, 0, 123, 0), (.aload_n 0, 1, 0, 0, 0, 0), (.iload_n 1, 1, 1, 0, 0, 0), (.iconst 0, 1, 0, 0, 0, nI 0), (.iconst 2, 1, 0, 0, 0, nI 2)] [] (pc2 := 9) (ls2 := [some (.ref 54), some (.int x1), none, none, none]) (st2 := [.int (nI 2), .int (nI 0), .int x1, .ref 54]) (M2 := mput M 54 0 (nI 0)) (Ps := []) (by decide +kernel) rfl rfl trivial ?_
  refine G.mem (M' := mrow M 54 (upd (M.1 54) 0 (nI 0))) (by first | rfl | (simp only [mput, mrow_same, mrow_hit, mrow_miss, mrow_sw, idr_eq, ne_eq, Nat.reduceEqDiff, not_false_eq_true, Nat.reduceLT, reduceCtorEq]; done)) ?_
  obtain ⟨k1, hk⟩ := hk
  have t2 : GM z mX12_within (d + 1) [.int x1, .int (nI 0), .int (nI 2)] (mrow M 54 (upd (M.1 54) 0 (nI 0))) (fun rs => rs = .inl (some (.int (k_within x1 (nI 0) (nI 2))), mrow M 54 (upd (M.1 54) 0 (nI 0)))) := by
    have q9 := c_k_within z (d + 1) (mrow M 54 (upd (M.1 54) 0 (nI 0))) x1 (nI 0) (nI 2)
    try simp only [mput, mrow_same, mrow_hit, mrow_miss, mrow_sw, idr_eq, ne_eq, Nat.reduceEqDiff, not_false_eq_true, Nat.reduceLT, reduceCtorEq] at q9
    exact q9
  refine G.callS (as := [.int x1, .int (nI 0), .int (nI 2)]) (rest := [.ref 54]) oX12_within lk_EvenFindersModel_379 (by decide +kernel) rfl (Nat.le_of_ble_eq_true rfl) rfl ⟨Nat.le_of_ble_eq_true rfl, Nat.le_of_ble_eq_true rfl⟩ t2 (fun v9 N9 h3 => ?_) (fun E9 N9 h3 => by cases h3)
  cases h3
  show G z mX12_sound (d + 2) 0 0 12 [some (.ref 54), some (.int x1), none, none, none] [.int (k_within x1 (nI 0) (nI 2)), .ref 54] (mrow M 54 (upd (M.1 54) 0 (nI 0))) Q
  refine G.sl [(.iconst 1, 1, 0, 0, 0, nI 1), (.iconst 1, 1, 0, 0, 0, nI 1)] [] (pc2 := 14) (ls2 := [some (.ref 54), some (.int x1), none, none, none]) (st2 := [.int (nI 1), .int (nI 1), .int (k_within x1 (nI 0) (nI 2)), .ref 54]) (M2 := mrow M 54 (upd (M.1 54) 0 (nI 0))) (Ps := []) (by decide +kernel) rfl rfl trivial ?_
  obtain ⟨k4, hk⟩ := hk
  rcases g5 : k_may_1 (upd (M.1 54) 0 (nI 0)) (M.1 55) (k_within x1 (nI 0) (nI 2)) (nI 1) with ⟨v6, r7, r8⟩
  try simp only [g5] at hk
  have ev6 : v6 = 0 ∨ v6 = 1 := by
    have q9 := k_may_1_01 (upd (M.1 54) 0 (nI 0)) (M.1 55) (k_within x1 (nI 0) (nI 2)) (nI 1)
    rw [g5] at q9
    exact q9
  have t9 : GM z mX12_may (d + 1) [.ref 54, .int (k_within x1 (nI 0) (nI 2)), .int (nI 1), .int (nI 1)] (mrow M 54 (upd (M.1 54) 0 (nI 0))) (fun rs => rs = .inl (some (.int v6), mrow (mrow M 54 r7) 55 r8)) := by
    have q9 := c_k_may_1_54 z (d + 1) (mrow M 54 (upd (M.1 54) 0 (nI 0))) (k_within x1 (nI 0) (nI 2)) (nI 1)
    try simp only [mput, mrow_same, mrow_hit, mrow_miss, mrow_sw, idr_eq, ne_eq, Nat.reduceEqDiff, not_false_eq_true, Nat.reduceLT, reduceCtorEq, g5] at q9
    exact q9
  refine G.callV (as := [.int (k_within x1 (nI 0) (nI 2)), .int (nI 1), .int (nI 1)]) (rest := []) (a := 54) oX12_may lk_EvenFindersModel_213 (by decide +kernel) rfl rfl ⟨rfl, rfl⟩ (Nat.le_of_ble_eq_true rfl) rfl ⟨Nat.le_of_ble_eq_true rfl, Nat.le_of_ble_eq_true rfl⟩ t9 (fun v9 N9 h10 => ?_) (fun E9 N9 h10 => by cases h10)
  cases h10
  show G z mX12_sound (d + 2) 0 0 17 [some (.ref 54), some (.int x1), none, none, none] [.int v6] (mrow (mrow M 54 r7) 55 r8) Q
  refine G.if_ne (off := (5)) (tgt := 22) (by decide +kernel) rfl (fun c11 => ?_) (fun c11 => ?_)
  · skip
    rw [if_neg c11] at hk
    refine G.sl [(.aload_n 0, 1, 0, 0, 0, 0)] [] (pc2 := 23) (ls2 := [some (.ref 54), some (.int x1), none, none, none]) (st2 := [.ref 54]) (M2 := mrow (mrow M 54 r7) 55 r8) (Ps := []) (by decide +kernel) rfl rfl trivial ?_
    obtain ⟨k12, hk⟩ := hk
    rcases g13 : k_take (M.1 71) (M.1 72) with ⟨u14, r15⟩
    try simp only [g13] at hk
    have t16 : GM z mX12_take (d + 1) [.ref 54] (mrow (mrow M 54 r7) 55 r8) (fun rs => rs = .inl (none, mrow (mrow (mrow M 54 r7) 55 r8) 72 r15)) := by
      have q9 := c_k_take_54 z d (mrow (mrow M 54 r7) 55 r8) k12
      try simp only [mput, mrow_same, mrow_hit, mrow_miss, mrow_sw, idr_eq, ne_eq, Nat.reduceEqDiff, not_false_eq_true, Nat.reduceLT, reduceCtorEq, g13] at q9
      exact q9
    refine G.callV (as := []) (rest := []) (a := 54) oX12_take lk_EvenFindersModel_320 (by decide +kernel) rfl rfl ⟨rfl, rfl⟩ (Nat.le_of_ble_eq_true rfl) rfl ⟨Nat.le_of_ble_eq_true rfl, Nat.le_of_ble_eq_true rfl⟩ t16 (fun v9 N9 h17 => ?_) (fun E9 N9 h17 => by cases h17)
    cases h17
    show G z mX12_sound (d + 2) 0 0 26 [some (.ref 54), some (.int x1), none, none, none] [] (mrow (mrow (mrow M 54 r7) 55 r8) 72 r15) Q
    refine G.sl [(.iconst 0, 1, 0, 0, 0, nI 0), (.istore_n 2, 1, 2, 0, 0, 0), (.iconst 0, 1, 0, 0, 0, nI 0), (.istore_n 3, 1, 3, 0, 0, 0)] [] (pc2 := 30) (ls2 := [some (.ref 54), some (.int x1), some (.int (nI 0)), some (.int (nI 0)), none]) (st2 := []) (M2 := mrow (mrow (mrow M 54 r7) 55 r8) 72 r15) (Ps := []) (by decide +kernel) rfl rfl trivial ?_
    obtain ⟨k29, k30, k31, k32, hk⟩ := hk
    refine lp_k_sound_54_30 z d (mrow (mrow (mrow M 54 r7) 55 r8) 72 r15) Q x1 (ix (r7 22)) k30 (ixE k29) (ix (r7 23)) k32 (ixE k31) ?_
    show G z mX12_sound (d + 2) 0 0 98 [none, none, some (.int (k_sound_30 (M.1 61) r15 (ix (r7 22)) x1 (ix (r7 23)))), none, none] [] (mrow (mrow (mrow M 54 r7) 55 r8) 72 r15) Q
    refine G.sl [(.iload_n 2, 1, 2, 0, 0, 0)] [] (pc2 := 99) (ls2 := [none, none, some (.int (k_sound_30 (M.1 61) r15 (ix (r7 22)) x1 (ix (r7 23)))), none, none]) (st2 := [.int (k_sound_30 (M.1 61) r15 (ix (r7 22)) x1 (ix (r7 23)))]) (M2 := mrow (mrow (mrow M 54 r7) 55 r8) 72 r15) (Ps := []) (by decide +kernel) rfl rfl trivial ?_
    exact G.reti (by decide +kernel) rfl rfl (Nat.le_of_ble_eq_true rfl) (Nat.le_of_ble_eq_true rfl) ((by rw [hQ]; simp only [k_sound, g5, if_neg c11, g13, mrow_self]))
  · skip
    rw [if_pos c11] at hk
    refine G.sl [(.iconst 0, 1, 0, 0, 0, nI 0)] [] (pc2 := 21) (ls2 := [some (.ref 54), some (.int x1), none, none, none]) (st2 := [.int (nI 0)]) (M2 := mrow (mrow M 54 r7) 55 r8) (Ps := []) (by decide +kernel) rfl rfl trivial ?_
    refine G.mem (M' := mrow (mrow (mrow M 54 r7) 55 r8) 72 (M.1 72)) (((mrow_id (N := mrow (mrow M 54 r7) 55 r8) (c := 72) (f := M.1 72) (by first | rfl | (simp only [mput, mrow_same, mrow_hit, mrow_miss, mrow_sw, idr_eq, ne_eq, Nat.reduceEqDiff, not_false_eq_true, Nat.reduceLT, reduceCtorEq]; done))).symm).trans (by first | rfl | (simp only [mput, mrow_same, mrow_hit, mrow_miss, mrow_sw, idr_eq, ne_eq, Nat.reduceEqDiff, not_false_eq_true, Nat.reduceLT, reduceCtorEq]; done))) ?_
    exact G.reti (by decide +kernel) rfl rfl (Nat.le_of_ble_eq_true rfl) (Nat.le_of_ble_eq_true rfl) ((by rw [hQ]; simp only [k_sound, g5, if_pos c11, mrow_self]))
set_option maxHeartbeats 4000000 in
set_option maxRecDepth 3000 in
theorem lp_k_burden_54_29 (z : Zp) (d : Nat) (M : Mem) (Q : Rs → Prop) (x1 : Int32) (nf : Nat) (hnf : nf ≤ 6) (cf : M.1 54 23 = nI nf) (hX : G z mX12_burden (d + 1) 0 0 104 [none, some (.int x1), some (.int ((k_burden_29 (M.1 71) x1 nf).1)), some (.int ((k_burden_29 (M.1 71) x1 nf).2)), none] [] M Q) : G z mX12_burden (d + 1) 0 0 29 [some (.ref 54), some (.int x1), some (.int (nI 0)), some (.int (nI 0)), some (.int (nI 0))] [] M Q := by
  refine down (n := nf) (P := fun i4 => G z mX12_burden (d + 1) 0 0 29 [some (.ref 54), some (.int x1), some (.int ((k_burden_29 (M.1 71) x1 i4).1)), some (.int ((k_burden_29 (M.1 71) x1 i4).2)), some (.int (nI i4))] [] M Q) ?_ ?_ 0 (Nat.zero_le _)
  · skip
    refine G.sl [(.iload 4, 2, 4, 0, 0, 0), (.aload_n 0, 1, 0, 0, 0, 0), (.getfield 165, 3, 11, 23, 146, 0)] [] (pc2 := 35) (ls2 := [some (.ref 54), some (.int x1), some (.int ((k_burden_29 (M.1 71) x1 nf).1)), some (.int ((k_burden_29 (M.1 71) x1 nf).2)), some (.int (nI nf))]) (st2 := [.int (M.1 54 23), .int (nI nf)]) (M2 := M) (Ps := []) (by decide +kernel) rfl rfl trivial ?_
    rw [cf]
    refine G.ic_ge (off := (69)) (tgt := 104) (by decide +kernel) rfl (fun _ => ?_) (fun h9 => absurd (nI_le (by omega) (by omega)) h9)
    refine G.loc (ls2 := [none, some (.int x1), some (.int ((k_burden_29 (M.1 71) x1 nf).1)), some (.int ((k_burden_29 (M.1 71) x1 nf).2)), none]) (by simp [subL]) ?_
    exact hX
  · skip
    intro i4 hi ih
    rcases g12 : k_burden_29 (M.1 71) x1 i4 with ⟨s2, s3⟩
    try simp only [g12]
    show G z mX12_burden (d + 1) 0 0 29 [some (.ref 54), some (.int x1), some (.int s2), some (.int s3), some (.int (nI i4))] [] M Q
    refine G.sl [(.iload 4, 2, 4, 0, 0, 0), (.aload_n 0, 1, 0, 0, 0, 0), (.getfield 165, 3, 11, 23, 146, 0)] [] (pc2 := 35) (ls2 := [some (.ref 54), some (.int x1), some (.int s2), some (.int s3), some (.int (nI i4))]) (st2 := [.int (M.1 54 23), .int (nI i4)]) (M2 := M) (Ps := []) (by decide +kernel) rfl rfl trivial ?_
    rw [cf]
    refine G.ic_ge (off := (69)) (tgt := 104) (by decide +kernel) rfl (fun h9 => absurd h9 (nI_ge (by omega) (by omega))) (fun _ => ?_)
    refine G.sl [(.iload_n 2, 1, 2, 0, 0, 0), (.aload_n 0, 1, 0, 0, 0, 0), (.getfield 65, 3, 11, 40, 163, 0), (.bipush 26, 2, 0, 0, 0, nI 26), (.iload 4, 2, 4, 0, 0, 0), (.iadd, 1, 0, 0, 0, 0), (.iaload, 1, 0, 0, 0, 0)] [26 + i4] (pc2 := 49) (ls2 := [some (.ref 54), some (.int x1), some (.int s2), some (.int s3), some (.int (nI i4))]) (st2 := [.int (M.1 71 (26 + i4)), .int s2]) (M2 := M) (Ps := [((nI 26) + (nI i4)) = nI (26 + i4) ∧ (26 + i4) < 51]) (by decide +kernel) rfl rfl ⟨⟨(nI_add _ _), (by omega)⟩, trivial⟩ ?_
    refine G.if_le (off := (16)) (tgt := 65) (by decide +kernel) rfl (fun c13 => ?_) (fun c13 => ?_)
    · skip
      refine G.sl [(.iconst 0, 1, 0, 0, 0, nI 0), (.iadd, 1, 0, 0, 0, 0), (.istore_n 2, 1, 2, 0, 0, 0), (.iload_n 3, 1, 3, 0, 0, 0), (.aload_n 0, 1, 0, 0, 0, 0), (.getfield 65, 3, 11, 40, 163, 0), (.bipush 26, 2, 0, 0, 0, nI 26), (.iload 4, 2, 4, 0, 0, 0), (.iadd, 1, 0, 0, 0, 0), (.iaload, 1, 0, 0, 0, 0)] [26 + i4] (pc2 := 79) (ls2 := [some (.ref 54), some (.int x1), some (.int (s2 + (nI 0))), some (.int s3), some (.int (nI i4))]) (st2 := [.int (M.1 71 (26 + i4)), .int s3]) (M2 := M) (Ps := [((nI 26) + (nI i4)) = nI (26 + i4) ∧ (26 + i4) < 51]) (by decide +kernel) rfl rfl ⟨⟨(nI_add _ _), (by omega)⟩, trivial⟩ ?_
      refine G.if_ge (off := (16)) (tgt := 95) (by decide +kernel) rfl (fun c14 => ?_) (fun c14 => ?_)
      · skip
        refine G.sl [(.iconst 0, 1, 0, 0, 0, nI 0), (.isub, 1, 0, 0, 0, 0), (.istore_n 3, 1, 3, 0, 0, 0), (.iinc 4 1, 3, 4, 0, 0, nI 1), (.goto (-72), 3, 29, 0, 0, 0)] [] (pc2 := 29) (ls2 := [some (.ref 54), some (.int x1), some (.int (s2 + (nI 0))), some (.int (s3 - (nI 0))), some (.int ((nI i4) + nI 1))]) (st2 := []) (M2 := M) (Ps := []) (by decide +kernel) rfl rfl trivial ?_
        rw [nI_add i4 1]
        simp only [k_burden_29, g12, if_pos c13, if_pos c14] at ih
        exact ih
      · skip
        refine G.sl [(.aload_n 0, 1, 0, 0, 0, 0), (.getfield 65, 3, 11, 40, 163, 0), (.bipush 26, 2, 0, 0, 0, nI 26), (.iload 4, 2, 4, 0, 0, 0), (.iadd, 1, 0, 0, 0, 0), (.iaload, 1, 0, 0, 0, 0), (.goto 4, 3, 96, 0, 0, 0), (.isub, 1, 0, 0, 0, 0), (.istore_n 3, 1, 3, 0, 0, 0), (.iinc 4 1, 3, 4, 0, 0, nI 1), (.goto (-72), 3, 29, 0, 0, 0)] [26 + i4] (pc2 := 29) (ls2 := [some (.ref 54), some (.int x1), some (.int (s2 + (nI 0))), some (.int (s3 - (M.1 71 (26 + i4)))), some (.int ((nI i4) + nI 1))]) (st2 := []) (M2 := M) (Ps := [((nI 26) + (nI i4)) = nI (26 + i4) ∧ (26 + i4) < 51]) (by decide +kernel) rfl rfl ⟨⟨(nI_add _ _), (by omega)⟩, trivial⟩ ?_
        rw [nI_add i4 1]
        simp only [k_burden_29, g12, if_pos c13, if_neg c14] at ih
        exact ih
    · skip
      refine G.sl [(.aload_n 0, 1, 0, 0, 0, 0), (.getfield 65, 3, 11, 40, 163, 0), (.bipush 26, 2, 0, 0, 0, nI 26), (.iload 4, 2, 4, 0, 0, 0), (.iadd, 1, 0, 0, 0, 0), (.iaload, 1, 0, 0, 0, 0), (.goto 4, 3, 66, 0, 0, 0), (.iadd, 1, 0, 0, 0, 0), (.istore_n 2, 1, 2, 0, 0, 0), (.iload_n 3, 1, 3, 0, 0, 0), (.aload_n 0, 1, 0, 0, 0, 0), (.getfield 65, 3, 11, 40, 163, 0), (.bipush 26, 2, 0, 0, 0, nI 26), (.iload 4, 2, 4, 0, 0, 0), (.iadd, 1, 0, 0, 0, 0), (.iaload, 1, 0, 0, 0, 0)] [26 + i4, 26 + i4] (pc2 := 79) (ls2 := [some (.ref 54), some (.int x1), some (.int (s2 + (M.1 71 (26 + i4)))), some (.int s3), some (.int (nI i4))]) (st2 := [.int (M.1 71 (26 + i4)), .int s3]) (M2 := M) (Ps := [((nI 26) + (nI i4)) = nI (26 + i4) ∧ (26 + i4) < 51, ((nI 26) + (nI i4)) = nI (26 + i4) ∧ (26 + i4) < 51]) (by decide +kernel) rfl rfl ⟨⟨(nI_add _ _), (by omega)⟩, ⟨(nI_add _ _), (by omega)⟩, trivial⟩ ?_
      refine G.if_ge (off := (16)) (tgt := 95) (by decide +kernel) rfl (fun c15 => ?_) (fun c15 => ?_)
      · skip
        refine G.sl [(.iconst 0, 1, 0, 0, 0, nI 0), (.isub, 1, 0, 0, 0, 0), (.istore_n 3, 1, 3, 0, 0, 0), (.iinc 4 1, 3, 4, 0, 0, nI 1), (.goto (-72), 3, 29, 0, 0, 0)] [] (pc2 := 29) (ls2 := [some (.ref 54), some (.int x1), some (.int (s2 + (M.1 71 (26 + i4)))), some (.int (s3 - (nI 0))), some (.int ((nI i4) + nI 1))]) (st2 := []) (M2 := M) (Ps := []) (by decide +kernel) rfl rfl trivial ?_
        rw [nI_add i4 1]
        simp only [k_burden_29, g12, if_neg c13, if_pos c15] at ih
        exact ih
      · skip
        refine G.sl [(.aload_n 0, 1, 0, 0, 0, 0), (.getfield 65, 3, 11, 40, 163, 0), (.bipush 26, 2, 0, 0, 0, nI 26), (.iload 4, 2, 4, 0, 0, 0), (.iadd, 1, 0, 0, 0, 0), (.iaload, 1, 0, 0, 0, 0), (.goto 4, 3, 96, 0, 0, 0), (.isub, 1, 0, 0, 0, 0), (.istore_n 3, 1, 3, 0, 0, 0), (.iinc 4 1, 3, 4, 0, 0, nI 1), (.goto (-72), 3, 29, 0, 0, 0)] [26 + i4] (pc2 := 29) (ls2 := [some (.ref 54), some (.int x1), some (.int (s2 + (M.1 71 (26 + i4)))), some (.int (s3 - (M.1 71 (26 + i4)))), some (.int ((nI i4) + nI 1))]) (st2 := []) (M2 := M) (Ps := [((nI 26) + (nI i4)) = nI (26 + i4) ∧ (26 + i4) < 51]) (by decide +kernel) rfl rfl ⟨⟨(nI_add _ _), (by omega)⟩, trivial⟩ ?_
        rw [nI_add i4 1]
        simp only [k_burden_29, g12, if_neg c13, if_neg c15] at ih
        exact ih
set_option maxHeartbeats 4000000 in
set_option maxRecDepth 3000 in
theorem c_k_burden_54 (z : Zp) (d : Nat) (M : Mem) (x1 : Int32) (hk : k_burden_ok (M.1 54) (M.1 55) (M.1 71) x1) : GM z mX12_burden (d + 1) [.ref 54, .int x1] M (fun rs => rs = .inl (some (.int ((k_burden (M.1 54) (M.1 55) (M.1 71) x1).1)), mrow (mrow M 54 ((k_burden (M.1 54) (M.1 55) (M.1 71) x1).2.1)) 55 ((k_burden (M.1 54) (M.1 55) (M.1 71) x1).2.2))) := by
  simp only [k_burden_ok] at hk
  refine GM.of oX12_burden.1 (Nat.le_of_ble_eq_true rfl) ?_
  show G z mX12_burden (d + 1) 0 0 0 [some (.ref 54), some (.int x1), none, none, none] [] M _
  obtain ⟨Q, hQ⟩ : ∃ Q : Rs → Prop, Q = (fun rs => rs = .inl (some (.int ((k_burden (M.1 54) (M.1 55) (M.1 71) x1).1)), mrow (mrow M 54 ((k_burden (M.1 54) (M.1 55) (M.1 71) x1).2.1)) 55 ((k_burden (M.1 54) (M.1 55) (M.1 71) x1).2.2))) := ⟨_, rfl⟩
  rw [← hQ]
  refine G.sl [(.aload_n 0, 1, 0, 0, 0, 0), (.iconst 0, 1, 0, 0, 0, nI 0), (.putfield 3, 3, 11, 0, 123, 0), (.aload_n 0, 1, 0, 0, 0, 0), (.iload_n 1, 1, 1, 0, 0, 0), (.iconst 0, 1, 0, 0, 0, nI 0), (.iconst 1, 1, 0, 0, 0, nI 1)] [] (pc2 := 9) (ls2 := [some (.ref 54), some (.int x1), none, none, none]) (st2 := [.int (nI 1), .int (nI 0), .int x1, .ref 54]) (M2 := mput M 54 0 (nI 0)) (Ps := []) (by decide +kernel) rfl rfl trivial ?_
  refine G.mem (M' := mrow M 54 (upd (M.1 54) 0 (nI 0))) (by first | rfl | (simp only [mput, mrow_same, mrow_hit, mrow_miss, mrow_sw, idr_eq, ne_eq, Nat.reduceEqDiff, not_false_eq_true, Nat.reduceLT, reduceCtorEq]; done)) ?_
  obtain ⟨k1, hk⟩ := hk
  have t2 : GM z mX12_within (d) [.int x1, .int (nI 0), .int (nI 1)] (mrow M 54 (upd (M.1 54) 0 (nI 0))) (fun rs => rs = .inl (some (.int (k_within x1 (nI 0) (nI 1))), mrow M 54 (upd (M.1 54) 0 (nI 0)))) := by
    have q9 := c_k_within z d (mrow M 54 (upd (M.1 54) 0 (nI 0))) x1 (nI 0) (nI 1)
    try simp only [mput, mrow_same, mrow_hit, mrow_miss, mrow_sw, idr_eq, ne_eq, Nat.reduceEqDiff, not_false_eq_true, Nat.reduceLT, reduceCtorEq] at q9
    exact q9
  refine G.callS (as := [.int x1, .int (nI 0), .int (nI 1)]) (rest := [.ref 54]) oX12_within lk_EvenFindersModel_379 (by decide +kernel) rfl (Nat.le_of_ble_eq_true rfl) rfl ⟨Nat.le_of_ble_eq_true rfl, Nat.le_of_ble_eq_true rfl⟩ t2 (fun v9 N9 h3 => ?_) (fun E9 N9 h3 => by cases h3)
  cases h3
  show G z mX12_burden (d + 1) 0 0 12 [some (.ref 54), some (.int x1), none, none, none] [.int (k_within x1 (nI 0) (nI 1)), .ref 54] (mrow M 54 (upd (M.1 54) 0 (nI 0))) Q
  refine G.sl [(.iconst 1, 1, 0, 0, 0, nI 1), (.iconst 1, 1, 0, 0, 0, nI 1)] [] (pc2 := 14) (ls2 := [some (.ref 54), some (.int x1), none, none, none]) (st2 := [.int (nI 1), .int (nI 1), .int (k_within x1 (nI 0) (nI 1)), .ref 54]) (M2 := mrow M 54 (upd (M.1 54) 0 (nI 0))) (Ps := []) (by decide +kernel) rfl rfl trivial ?_
  obtain ⟨k4, hk⟩ := hk
  rcases g5 : k_may_1 (upd (M.1 54) 0 (nI 0)) (M.1 55) (k_within x1 (nI 0) (nI 1)) (nI 1) with ⟨v6, r7, r8⟩
  try simp only [g5] at hk
  have ev6 : v6 = 0 ∨ v6 = 1 := by
    have q9 := k_may_1_01 (upd (M.1 54) 0 (nI 0)) (M.1 55) (k_within x1 (nI 0) (nI 1)) (nI 1)
    rw [g5] at q9
    exact q9
  have t9 : GM z mX12_may (d) [.ref 54, .int (k_within x1 (nI 0) (nI 1)), .int (nI 1), .int (nI 1)] (mrow M 54 (upd (M.1 54) 0 (nI 0))) (fun rs => rs = .inl (some (.int v6), mrow (mrow M 54 r7) 55 r8)) := by
    have q9 := c_k_may_1_54 z d (mrow M 54 (upd (M.1 54) 0 (nI 0))) (k_within x1 (nI 0) (nI 1)) (nI 1)
    try simp only [mput, mrow_same, mrow_hit, mrow_miss, mrow_sw, idr_eq, ne_eq, Nat.reduceEqDiff, not_false_eq_true, Nat.reduceLT, reduceCtorEq, g5] at q9
    exact q9
  refine G.callV (as := [.int (k_within x1 (nI 0) (nI 1)), .int (nI 1), .int (nI 1)]) (rest := []) (a := 54) oX12_may lk_EvenFindersModel_213 (by decide +kernel) rfl rfl ⟨rfl, rfl⟩ (Nat.le_of_ble_eq_true rfl) rfl ⟨Nat.le_of_ble_eq_true rfl, Nat.le_of_ble_eq_true rfl⟩ t9 (fun v9 N9 h10 => ?_) (fun E9 N9 h10 => by cases h10)
  cases h10
  show G z mX12_burden (d + 1) 0 0 17 [some (.ref 54), some (.int x1), none, none, none] [.int v6] (mrow (mrow M 54 r7) 55 r8) Q
  refine G.if_ne (off := (5)) (tgt := 22) (by decide +kernel) rfl (fun c11 => ?_) (fun c11 => ?_)
  · skip
    rw [if_neg c11] at hk
    refine G.sl [(.iconst 0, 1, 0, 0, 0, nI 0), (.istore_n 2, 1, 2, 0, 0, 0), (.iconst 0, 1, 0, 0, 0, nI 0), (.istore_n 3, 1, 3, 0, 0, 0), (.iconst 0, 1, 0, 0, 0, nI 0), (.istore 4, 2, 4, 0, 0, 0)] [] (pc2 := 29) (ls2 := [some (.ref 54), some (.int x1), some (.int (nI 0)), some (.int (nI 0)), some (.int (nI 0))]) (st2 := []) (M2 := mrow (mrow M 54 r7) 55 r8) (Ps := []) (by decide +kernel) rfl rfl trivial ?_
    obtain ⟨k16, k17, hk⟩ := hk
    refine lp_k_burden_54_29 z d (mrow (mrow M 54 r7) 55 r8) Q x1 (ix (r7 23)) k17 (ixE k16) ?_
    try simp only [mput, mrow_same, mrow_hit, mrow_miss, mrow_sw, idr_eq, ne_eq, Nat.reduceEqDiff, not_false_eq_true, Nat.reduceLT, reduceCtorEq]
    rcases g19 : k_burden_29 (M.1 71) x1 (ix (r7 23)) with ⟨v20, v21⟩
    show G z mX12_burden (d + 1) 0 0 104 [none, some (.int x1), some (.int v20), some (.int v21), none] [] (mrow (mrow M 54 r7) 55 r8) Q
    refine G.sl [(.iload_n 1, 1, 1, 0, 0, 0)] [] (pc2 := 105) (ls2 := [none, some (.int x1), some (.int v20), some (.int v21), none]) (st2 := [.int x1]) (M2 := mrow (mrow M 54 r7) 55 r8) (Ps := []) (by decide +kernel) rfl rfl trivial ?_
    refine G.if_ne (off := (7)) (tgt := 112) (by decide +kernel) rfl (fun c22 => ?_) (fun c22 => ?_)
    · skip
      refine G.sl [(.iload_n 3, 1, 3, 0, 0, 0)] [] (pc2 := 113) (ls2 := [none, some (.int x1), some (.int v20), some (.int v21), none]) (st2 := [.int v21]) (M2 := mrow (mrow M 54 r7) 55 r8) (Ps := []) (by decide +kernel) rfl rfl trivial ?_
      exact G.reti (by decide +kernel) rfl rfl (Nat.le_of_ble_eq_true rfl) (Nat.le_of_ble_eq_true rfl) ((by rw [hQ]; simp only [k_burden, g5, if_neg c11, g19, if_neg c22, mrow_self]))
    · skip
      refine G.sl [(.iload_n 2, 1, 2, 0, 0, 0), (.goto 4, 3, 113, 0, 0, 0)] [] (pc2 := 113) (ls2 := [none, some (.int x1), some (.int v20), some (.int v21), none]) (st2 := [.int v20]) (M2 := mrow (mrow M 54 r7) 55 r8) (Ps := []) (by decide +kernel) rfl rfl trivial ?_
      exact G.reti (by decide +kernel) rfl rfl (Nat.le_of_ble_eq_true rfl) (Nat.le_of_ble_eq_true rfl) ((by rw [hQ]; simp only [k_burden, g5, if_neg c11, g19, if_pos c22, mrow_self]))
  · skip
    rw [if_pos c11] at hk
    refine G.sl [(.iconst 0, 1, 0, 0, 0, nI 0)] [] (pc2 := 21) (ls2 := [some (.ref 54), some (.int x1), none, none, none]) (st2 := [.int (nI 0)]) (M2 := mrow (mrow M 54 r7) 55 r8) (Ps := []) (by decide +kernel) rfl rfl trivial ?_
    exact G.reti (by decide +kernel) rfl rfl (Nat.le_of_ble_eq_true rfl) (Nat.le_of_ble_eq_true rfl) ((by rw [hQ]; simp only [k_burden, g5, if_pos c11, mrow_self]))
set_option maxHeartbeats 4000000 in
set_option maxRecDepth 3000 in
theorem lp_k_near_54_41 (z : Zp) (d : Nat) (M : Mem) (Q : Rs → Prop) (x1 : Int32) (x2 : Int32) (nt : Nat) (hnt : nt ≤ 10) (ct : M.1 54 22 = nI nt) (hk : ∀ i5, i5 < nt → k_near_41_ok (M.1 71) (M.1 76) x1 x2 i5) (hX : G z mX12_near (d + 2) 0 0 116 [none, none, some (.int x2), some (.int ((k_near_41 (M.1 71) (M.1 76) x1 x2 nt).1)), some (.int ((k_near_41 (M.1 71) (M.1 76) x1 x2 nt).2)), none, none] [] M Q) : G z mX12_near (d + 2) 0 0 41 [some (.ref 54), some (.int x1), some (.int x2), some (.int ((-1))), some (.int (nI 9999)), some (.int (nI 0)), none] [] M Q := by
  refine down (n := nt) (P := fun i5 => G z mX12_near (d + 2) 0 0 41 [some (.ref 54), some (.int x1), some (.int x2), some (.int ((k_near_41 (M.1 71) (M.1 76) x1 x2 i5).1)), some (.int ((k_near_41 (M.1 71) (M.1 76) x1 x2 i5).2)), some (.int (nI i5)), none] [] M Q) ?_ ?_ 0 (Nat.zero_le _)
  · skip
    refine G.sl [(.iload 5, 2, 5, 0, 0, 0), (.aload_n 0, 1, 0, 0, 0, 0), (.getfield 162, 3, 11, 22, 145, 0)] [] (pc2 := 47) (ls2 := [some (.ref 54), some (.int x1), some (.int x2), some (.int ((k_near_41 (M.1 71) (M.1 76) x1 x2 nt).1)), some (.int ((k_near_41 (M.1 71) (M.1 76) x1 x2 nt).2)), some (.int (nI nt)), none]) (st2 := [.int (M.1 54 22), .int (nI nt)]) (M2 := M) (Ps := []) (by decide +kernel) rfl rfl trivial ?_
    rw [ct]
    refine G.ic_ge (off := (69)) (tgt := 116) (by decide +kernel) rfl (fun _ => ?_) (fun h9 => absurd (nI_le (by omega) (by omega)) h9)
    refine G.loc (ls2 := [none, none, some (.int x2), some (.int ((k_near_41 (M.1 71) (M.1 76) x1 x2 nt).1)), some (.int ((k_near_41 (M.1 71) (M.1 76) x1 x2 nt).2)), none, none]) (by simp [subL]) ?_
    exact hX
  · skip
    intro i5 hi ih
    have hk := hk i5 hi
    simp only [k_near_41_ok] at hk
    rcases g20 : k_near_41 (M.1 71) (M.1 76) x1 x2 i5 with ⟨s3, s4⟩
    try simp only [g20] at hk
    try simp only [g20]
    show G z mX12_near (d + 2) 0 0 41 [some (.ref 54), some (.int x1), some (.int x2), some (.int s3), some (.int s4), some (.int (nI i5)), none] [] M Q
    refine G.sl [(.iload 5, 2, 5, 0, 0, 0), (.aload_n 0, 1, 0, 0, 0, 0), (.getfield 162, 3, 11, 22, 145, 0)] [] (pc2 := 47) (ls2 := [some (.ref 54), some (.int x1), some (.int x2), some (.int s3), some (.int s4), some (.int (nI i5)), none]) (st2 := [.int (M.1 54 22), .int (nI i5)]) (M2 := M) (Ps := []) (by decide +kernel) rfl rfl trivial ?_
    rw [ct]
    refine G.ic_ge (off := (69)) (tgt := 116) (by decide +kernel) rfl (fun h9 => absurd h9 (nI_ge (by omega) (by omega))) (fun _ => ?_)
    obtain ⟨k21, k22, k23, k24, k25, hk⟩ := hk
    refine G.sl [(.aload_n 0, 1, 0, 0, 0, 0), (.getfield 80, 3, 11, 46, 169, 0), (.bipush 8, 2, 0, 0, 0, nI 8), (.aload_n 0, 1, 0, 0, 0, 0), (.getfield 65, 3, 11, 40, 163, 0), (.bipush 20, 2, 0, 0, 0, nI 20), (.iload_n 1, 1, 1, 0, 0, 0), (.iadd, 1, 0, 0, 0, 0), (.iaload, 1, 0, 0, 0, 0), (.imul, 1, 0, 0, 0, 0), (.aload_n 0, 1, 0, 0, 0, 0), (.getfield 65, 3, 11, 40, 163, 0), (.iconst 0, 1, 0, 0, 0, nI 0), (.iload 5, 2, 5, 0, 0, 0), (.iadd, 1, 0, 0, 0, 0), (.iaload, 1, 0, 0, 0, 0), (.iadd, 1, 0, 0, 0, 0), (.iaload, 1, 0, 0, 0, 0), (.istore 6, 2, 6, 0, 0, 0), (.aload_n 0, 1, 0, 0, 0, 0), (.getfield 65, 3, 11, 40, 163, 0), (.bipush 10, 2, 0, 0, 0, nI 10), (.iload 5, 2, 5, 0, 0, 0), (.iadd, 1, 0, 0, 0, 0), (.iaload, 1, 0, 0, 0, 0), (.iconst (-1), 1, 0, 0, 0, (-1))] [20 + (ix x1), 0 + i5, (8 * (ix (M.1 71 (20 + (ix x1))))) + (ix (M.1 71 (0 + i5))), 10 + i5] (pc2 := 90) (ls2 := [some (.ref 54), some (.int x1), some (.int x2), some (.int s3), some (.int s4), some (.int (nI i5)), some (.int (M.1 76 ((8 * (ix (M.1 71 (20 + (ix x1))))) + (ix (M.1 71 (0 + i5))))))]) (st2 := [.int ((-1)), .int (M.1 71 (10 + i5))]) (M2 := M) (Ps := [((nI 20) + x1) = nI (20 + (ix x1)) ∧ (20 + (ix x1)) < 51, ((nI 0) + (nI i5)) = nI (0 + i5) ∧ (0 + i5) < 51, (((nI 8) * (M.1 71 (20 + (ix x1)))) + (M.1 71 (0 + i5))) = nI ((8 * (ix (M.1 71 (20 + (ix x1))))) + (ix (M.1 71 (0 + i5)))) ∧ ((8 * (ix (M.1 71 (20 + (ix x1))))) + (ix (M.1 71 (0 + i5)))) < 64, ((nI 10) + (nI i5)) = nI (10 + i5) ∧ (10 + i5) < 51]) (by decide +kernel) rfl rfl ⟨⟨(nAdd rfl (ixE k21)), k22⟩, ⟨(nI_add _ _), (by omega)⟩, ⟨(nAdd (nMul rfl (ixE k23)) (ixE k24)), k25⟩, ⟨(nI_add _ _), (by omega)⟩, trivial⟩ ?_
    refine G.ic_ne (off := (20)) (tgt := 110) (by decide +kernel) rfl (fun c26 => ?_) (fun c26 => ?_)
    · skip
      refine G.sl [(.iinc 5 1, 3, 5, 0, 0, nI 1), (.goto (-72), 3, 41, 0, 0, 0)] [] (pc2 := 41) (ls2 := [some (.ref 54), some (.int x1), some (.int x2), some (.int s3), some (.int s4), some (.int ((nI i5) + nI 1)), some (.int (M.1 76 ((8 * (ix (M.1 71 (20 + (ix x1))))) + (ix (M.1 71 (0 + i5))))))]) (st2 := []) (M2 := M) (Ps := []) (by decide +kernel) rfl rfl trivial ?_
      refine G.loc (ls2 := [some (.ref 54), some (.int x1), some (.int x2), some (.int s3), some (.int s4), some (.int ((nI i5) + nI 1)), none]) (by simp [subL]) ?_
      rw [nI_add i5 1]
      simp only [k_near_41, g20, if_neg c26] at ih
      exact ih
    · skip
      refine G.sl [(.iload 6, 2, 6, 0, 0, 0), (.iload 4, 2, 4, 0, 0, 0)] [] (pc2 := 97) (ls2 := [some (.ref 54), some (.int x1), some (.int x2), some (.int s3), some (.int s4), some (.int (nI i5)), some (.int (M.1 76 ((8 * (ix (M.1 71 (20 + (ix x1))))) + (ix (M.1 71 (0 + i5))))))]) (st2 := [.int s4, .int (M.1 76 ((8 * (ix (M.1 71 (20 + (ix x1))))) + (ix (M.1 71 (0 + i5)))))]) (M2 := M) (Ps := []) (by decide +kernel) rfl rfl trivial ?_
      refine G.ic_lt (off := (6)) (tgt := 103) (by decide +kernel) rfl (fun c27 => ?_) (fun c27 => ?_)
      · skip
        refine G.sl [(.iload 5, 2, 5, 0, 0, 0), (.istore_n 3, 1, 3, 0, 0, 0), (.iload 6, 2, 6, 0, 0, 0), (.istore 4, 2, 4, 0, 0, 0), (.iinc 5 1, 3, 5, 0, 0, nI 1), (.goto (-72), 3, 41, 0, 0, 0)] [] (pc2 := 41) (ls2 := [some (.ref 54), some (.int x1), some (.int x2), some (.int (nI i5)), some (.int (M.1 76 ((8 * (ix (M.1 71 (20 + (ix x1))))) + (ix (M.1 71 (0 + i5)))))), some (.int ((nI i5) + nI 1)), some (.int (M.1 76 ((8 * (ix (M.1 71 (20 + (ix x1))))) + (ix (M.1 71 (0 + i5))))))]) (st2 := []) (M2 := M) (Ps := []) (by decide +kernel) rfl rfl trivial ?_
        refine G.loc (ls2 := [some (.ref 54), some (.int x1), some (.int x2), some (.int (nI i5)), some (.int (M.1 76 ((8 * (ix (M.1 71 (20 + (ix x1))))) + (ix (M.1 71 (0 + i5)))))), some (.int ((nI i5) + nI 1)), none]) (by simp [subL]) ?_
        rw [nI_add i5 1]
        simp only [k_near_41, g20, if_pos c26, if_pos c27] at ih
        exact ih
      · skip
        refine G.sl [(.goto 10, 3, 110, 0, 0, 0), (.iinc 5 1, 3, 5, 0, 0, nI 1), (.goto (-72), 3, 41, 0, 0, 0)] [] (pc2 := 41) (ls2 := [some (.ref 54), some (.int x1), some (.int x2), some (.int s3), some (.int s4), some (.int ((nI i5) + nI 1)), some (.int (M.1 76 ((8 * (ix (M.1 71 (20 + (ix x1))))) + (ix (M.1 71 (0 + i5))))))]) (st2 := []) (M2 := M) (Ps := []) (by decide +kernel) rfl rfl trivial ?_
        refine G.loc (ls2 := [some (.ref 54), some (.int x1), some (.int x2), some (.int s3), some (.int s4), some (.int ((nI i5) + nI 1)), none]) (by simp [subL]) ?_
        rw [nI_add i5 1]
        simp only [k_near_41, g20, if_pos c26, if_neg c27] at ih
        exact ih
set_option maxHeartbeats 4000000 in
set_option maxRecDepth 3000 in
theorem c_k_near_54 (z : Zp) (d : Nat) (M : Mem) (x1 : Int32) (x2 : Int32) (nf : Nat) (hnf : nf ≤ 6) (cf : M.1 54 23 = nI nf) (hk : k_near_ok (M.1 54) (M.1 55) (M.1 71) (M.1 76) nf x1 x2) : GM z mX12_near (d + 2) [.ref 54, .int x1, .int x2] M (fun rs => rs = .inl (some (.int ((k_near (M.1 54) (M.1 55) (M.1 71) (M.1 76) nf x1 x2).1)), mrow (mrow M 54 ((k_near (M.1 54) (M.1 55) (M.1 71) (M.1 76) nf x1 x2).2.1)) 55 ((k_near (M.1 54) (M.1 55) (M.1 71) (M.1 76) nf x1 x2).2.2))) := by
  simp only [k_near_ok] at hk
  refine GM.of oX12_near.1 (Nat.le_of_ble_eq_true rfl) ?_
  show G z mX12_near (d + 2) 0 0 0 [some (.ref 54), some (.int x1), some (.int x2), none, none, none, none] [] M _
  obtain ⟨Q, hQ⟩ : ∃ Q : Rs → Prop, Q = (fun rs => rs = .inl (some (.int ((k_near (M.1 54) (M.1 55) (M.1 71) (M.1 76) nf x1 x2).1)), mrow (mrow M 54 ((k_near (M.1 54) (M.1 55) (M.1 71) (M.1 76) nf x1 x2).2.1)) 55 ((k_near (M.1 54) (M.1 55) (M.1 71) (M.1 76) nf x1 x2).2.2))) := ⟨_, rfl⟩
  rw [← hQ]
  refine G.sl [(.aload_n 0, 1, 0, 0, 0, 0), (.iconst 0, 1, 0, 0, 0, nI 0), (.putfield 3, 3, 11, 0, 123, 0), (.aload_n 0, 1, 0, 0, 0, 0), (.iload_n 1, 1, 1, 0, 0, 0), (.iconst 1, 1, 0, 0, 0, nI 1)] [] (pc2 := 8) (ls2 := [some (.ref 54), some (.int x1), some (.int x2), none, none, none, none]) (st2 := [.int (nI 1), .int x1, .ref 54]) (M2 := mput M 54 0 (nI 0)) (Ps := []) (by decide +kernel) rfl rfl trivial ?_
  refine G.mem (M' := mrow M 54 (upd (M.1 54) 0 (nI 0))) (by first | rfl | (simp only [mput, mrow_same, mrow_hit, mrow_miss, mrow_sw, idr_eq, ne_eq, Nat.reduceEqDiff, not_false_eq_true, Nat.reduceLT, reduceCtorEq]; done)) ?_
  obtain ⟨k1, hk⟩ := hk
  rcases g2 : k_isFinder (upd (M.1 54) 0 (nI 0)) (M.1 55) nf x1 (nI 1) with ⟨v3, r4, r5⟩
  try simp only [g2] at hk
  have ev3 : v3 = 0 ∨ v3 = 1 := by
    have q9 := k_isFinder_01 (upd (M.1 54) 0 (nI 0)) (M.1 55) nf x1 (nI 1)
    rw [g2] at q9
    exact q9
  have t6 : GM z mX12_isFinder (d + 1) [.ref 54, .int x1, .int (nI 1)] (mrow M 54 (upd (M.1 54) 0 (nI 0))) (fun rs => rs = .inl (some (.int v3), mrow (mrow M 54 r4) 55 r5)) := by
    have q9 := c_k_isFinder_54 z d (mrow M 54 (upd (M.1 54) 0 (nI 0))) x1 (nI 1) nf hnf cf
    try simp only [mput, mrow_same, mrow_hit, mrow_miss, mrow_sw, idr_eq, ne_eq, Nat.reduceEqDiff, not_false_eq_true, Nat.reduceLT, reduceCtorEq, g2] at q9
    exact q9
  refine G.callV (as := [.int x1, .int (nI 1)]) (rest := []) (a := 54) oX12_isFinder lk_EvenFindersModel_400 (by decide +kernel) rfl rfl ⟨rfl, rfl⟩ (Nat.le_of_ble_eq_true rfl) rfl ⟨Nat.le_of_ble_eq_true rfl, Nat.le_of_ble_eq_true rfl⟩ t6 (fun v9 N9 h7 => ?_) (fun E9 N9 h7 => by cases h7)
  cases h7
  show G z mX12_near (d + 2) 0 0 11 [some (.ref 54), some (.int x1), some (.int x2), none, none, none, none] [.int v3] (mrow (mrow M 54 r4) 55 r5) Q
  refine G.if_eq (off := (18)) (tgt := 29) (by decide +kernel) rfl (fun c8 => ?_) (fun c8 => ?_)
  · skip
    rw [if_pos c8] at hk
    refine G.sl [(.iconst 0, 1, 0, 0, 0, nI 0)] [] (pc2 := 30) (ls2 := [some (.ref 54), some (.int x1), some (.int x2), none, none, none, none]) (st2 := [.int (nI 0)]) (M2 := mrow (mrow M 54 r4) 55 r5) (Ps := []) (by decide +kernel) rfl rfl trivial ?_
    exact G.reti (by decide +kernel) rfl rfl (Nat.le_of_ble_eq_true rfl) (Nat.le_of_ble_eq_true rfl) ((by rw [hQ]; simp only [k_near, g2, if_pos c8, mrow_self]))
  · skip
    rw [if_neg c8] at hk
    refine G.sl [(.aload_n 0, 1, 0, 0, 0, 0), (.iload_n 2, 1, 2, 0, 0, 0), (.iconst 0, 1, 0, 0, 0, nI 0), (.iconst 1, 1, 0, 0, 0, nI 1)] [] (pc2 := 18) (ls2 := [some (.ref 54), some (.int x1), some (.int x2), none, none, none, none]) (st2 := [.int (nI 1), .int (nI 0), .int x2, .ref 54]) (M2 := mrow (mrow M 54 r4) 55 r5) (Ps := []) (by decide +kernel) rfl rfl trivial ?_
    obtain ⟨k9, hk⟩ := hk
    have t10 : GM z mX12_within (d + 1) [.int x2, .int (nI 0), .int (nI 1)] (mrow (mrow M 54 r4) 55 r5) (fun rs => rs = .inl (some (.int (k_within x2 (nI 0) (nI 1))), mrow (mrow M 54 r4) 55 r5)) := by
      have q9 := c_k_within z (d + 1) (mrow (mrow M 54 r4) 55 r5) x2 (nI 0) (nI 1)
      try simp only [mput, mrow_same, mrow_hit, mrow_miss, mrow_sw, idr_eq, ne_eq, Nat.reduceEqDiff, not_false_eq_true, Nat.reduceLT, reduceCtorEq] at q9
      exact q9
    refine G.callS (as := [.int x2, .int (nI 0), .int (nI 1)]) (rest := [.ref 54]) oX12_within lk_EvenFindersModel_379 (by decide +kernel) rfl (Nat.le_of_ble_eq_true rfl) rfl ⟨Nat.le_of_ble_eq_true rfl, Nat.le_of_ble_eq_true rfl⟩ t10 (fun v9 N9 h11 => ?_) (fun E9 N9 h11 => by cases h11)
    cases h11
    show G z mX12_near (d + 2) 0 0 21 [some (.ref 54), some (.int x1), some (.int x2), none, none, none, none] [.int (k_within x2 (nI 0) (nI 1)), .ref 54] (mrow (mrow M 54 r4) 55 r5) Q
    refine G.sl [(.iconst 2, 1, 0, 0, 0, nI 2), (.iconst 1, 1, 0, 0, 0, nI 1)] [] (pc2 := 23) (ls2 := [some (.ref 54), some (.int x1), some (.int x2), none, none, none, none]) (st2 := [.int (nI 1), .int (nI 2), .int (k_within x2 (nI 0) (nI 1)), .ref 54]) (M2 := mrow (mrow M 54 r4) 55 r5) (Ps := []) (by decide +kernel) rfl rfl trivial ?_
    obtain ⟨k12, hk⟩ := hk
    rcases g13 : k_may_1 r4 r5 (k_within x2 (nI 0) (nI 1)) (nI 2) with ⟨v14, r15, r16⟩
    try simp only [g13] at hk
    have ev14 : v14 = 0 ∨ v14 = 1 := by
      have q9 := k_may_1_01 r4 r5 (k_within x2 (nI 0) (nI 1)) (nI 2)
      rw [g13] at q9
      exact q9
    have t17 : GM z mX12_may (d + 1) [.ref 54, .int (k_within x2 (nI 0) (nI 1)), .int (nI 2), .int (nI 1)] (mrow (mrow M 54 r4) 55 r5) (fun rs => rs = .inl (some (.int v14), mrow (mrow M 54 r15) 55 r16)) := by
      have q9 := c_k_may_1_54 z (d + 1) (mrow (mrow M 54 r4) 55 r5) (k_within x2 (nI 0) (nI 1)) (nI 2)
      try simp only [mput, mrow_same, mrow_hit, mrow_miss, mrow_sw, idr_eq, ne_eq, Nat.reduceEqDiff, not_false_eq_true, Nat.reduceLT, reduceCtorEq, g13] at q9
      exact q9
    refine G.callV (as := [.int (k_within x2 (nI 0) (nI 1)), .int (nI 2), .int (nI 1)]) (rest := []) (a := 54) oX12_may lk_EvenFindersModel_213 (by decide +kernel) rfl rfl ⟨rfl, rfl⟩ (Nat.le_of_ble_eq_true rfl) rfl ⟨Nat.le_of_ble_eq_true rfl, Nat.le_of_ble_eq_true rfl⟩ t17 (fun v9 N9 h18 => ?_) (fun E9 N9 h18 => by cases h18)
    cases h18
    show G z mX12_near (d + 2) 0 0 26 [some (.ref 54), some (.int x1), some (.int x2), none, none, none, none] [.int v14] (mrow (mrow M 54 r15) 55 r16) Q
    refine G.if_ne (off := (5)) (tgt := 31) (by decide +kernel) rfl (fun c19 => ?_) (fun c19 => ?_)
    · skip
      rw [if_neg c19] at hk
      refine G.sl [(.iconst (-1), 1, 0, 0, 0, (-1)), (.istore_n 3, 1, 3, 0, 0, 0), (.sipush 9999, 3, 0, 0, 0, nI 9999), (.istore 4, 2, 4, 0, 0, 0), (.iconst 0, 1, 0, 0, 0, nI 0), (.istore 5, 2, 5, 0, 0, 0)] [] (pc2 := 41) (ls2 := [some (.ref 54), some (.int x1), some (.int x2), some (.int ((-1))), some (.int (nI 9999)), some (.int (nI 0)), none]) (st2 := []) (M2 := mrow (mrow M 54 r15) 55 r16) (Ps := []) (by decide +kernel) rfl rfl trivial ?_
      obtain ⟨k28, k29, hk⟩ := hk
      obtain ⟨k30, hk⟩ := hk
      refine lp_k_near_54_41 z d (mrow (mrow M 54 r15) 55 r16) Q x1 x2 (ix (r15 22)) k29 (ixE k28) (by first | (simp only [mput, mrow_same, mrow_hit, mrow_miss, mrow_sw, idr_eq, ne_eq, Nat.reduceEqDiff, not_false_eq_true, Nat.reduceLT, reduceCtorEq]; exact k30) | exact k30) ?_
      try simp only [mput, mrow_same, mrow_hit, mrow_miss, mrow_sw, idr_eq, ne_eq, Nat.reduceEqDiff, not_false_eq_true, Nat.reduceLT, reduceCtorEq]
      rcases g31 : k_near_41 (M.1 71) (M.1 76) x1 x2 (ix (r15 22)) with ⟨v32, v33⟩
      show G z mX12_near (d + 2) 0 0 116 [none, none, some (.int x2), some (.int v32), some (.int v33), none, none] [] (mrow (mrow M 54 r15) 55 r16) Q
      refine G.sl [(.iload_n 2, 1, 2, 0, 0, 0)] [] (pc2 := 117) (ls2 := [none, none, some (.int x2), some (.int v32), some (.int v33), none, none]) (st2 := [.int x2]) (M2 := mrow (mrow M 54 r15) 55 r16) (Ps := []) (by decide +kernel) rfl rfl trivial ?_
      refine G.if_eq (off := (8)) (tgt := 125) (by decide +kernel) rfl (fun c34 => ?_) (fun c34 => ?_)
      · skip
        refine G.sl [(.iload_n 3, 1, 3, 0, 0, 0), (.goto 5, 3, 131, 0, 0, 0)] [] (pc2 := 131) (ls2 := [none, none, some (.int x2), some (.int v32), some (.int v33), none, none]) (st2 := [.int v32]) (M2 := mrow (mrow M 54 r15) 55 r16) (Ps := []) (by decide +kernel) rfl rfl trivial ?_
        exact G.reti (by decide +kernel) rfl rfl (Nat.le_of_ble_eq_true rfl) (Nat.le_of_ble_eq_true rfl) ((by rw [hQ]; simp only [k_near, g2, if_neg c8, g13, if_neg c19, g31, if_pos c34, mrow_self]))
      · skip
        refine G.sl [(.iload_n 3, 1, 3, 0, 0, 0), (.iconst (-1), 1, 0, 0, 0, (-1))] [] (pc2 := 122) (ls2 := [none, none, some (.int x2), some (.int v32), some (.int v33), none, none]) (st2 := [.int ((-1)), .int v32]) (M2 := mrow (mrow M 54 r15) 55 r16) (Ps := []) (by decide +kernel) rfl rfl trivial ?_
        refine G.ic_ne (off := (7)) (tgt := 129) (by decide +kernel) rfl (fun c35 => ?_) (fun c35 => ?_)
        · skip
          refine G.sl [(.iload 4, 2, 4, 0, 0, 0)] [] (pc2 := 131) (ls2 := [none, none, some (.int x2), some (.int v32), some (.int v33), none, none]) (st2 := [.int v33]) (M2 := mrow (mrow M 54 r15) 55 r16) (Ps := []) (by decide +kernel) rfl rfl trivial ?_
          exact G.reti (by decide +kernel) rfl rfl (Nat.le_of_ble_eq_true rfl) (Nat.le_of_ble_eq_true rfl) ((by rw [hQ]; simp only [k_near, g2, if_neg c8, g13, if_neg c19, g31, if_neg c34, if_neg c35, mrow_self]))
        · skip
          refine G.sl [(.iload_n 3, 1, 3, 0, 0, 0), (.goto 5, 3, 131, 0, 0, 0)] [] (pc2 := 131) (ls2 := [none, none, some (.int x2), some (.int v32), some (.int v33), none, none]) (st2 := [.int v32]) (M2 := mrow (mrow M 54 r15) 55 r16) (Ps := []) (by decide +kernel) rfl rfl trivial ?_
          exact G.reti (by decide +kernel) rfl rfl (Nat.le_of_ble_eq_true rfl) (Nat.le_of_ble_eq_true rfl) ((by rw [hQ]; simp only [k_near, g2, if_neg c8, g13, if_neg c19, g31, if_neg c34, if_pos c35, mrow_self]))
    · skip
      rw [if_pos c19] at hk
      refine G.sl [(.iconst 0, 1, 0, 0, 0, nI 0)] [] (pc2 := 30) (ls2 := [some (.ref 54), some (.int x1), some (.int x2), none, none, none, none]) (st2 := [.int (nI 0)]) (M2 := mrow (mrow M 54 r15) 55 r16) (Ps := []) (by decide +kernel) rfl rfl trivial ?_
      exact G.reti (by decide +kernel) rfl rfl (Nat.le_of_ble_eq_true rfl) (Nat.le_of_ble_eq_true rfl) ((by rw [hQ]; simp only [k_near, g2, if_neg c8, g13, if_pos c19, mrow_self]))
set_option maxHeartbeats 4000000 in
set_option maxRecDepth 3000 in
theorem lp_k_enough_54_20 (z : Zp) (d : Nat) (M : Mem) (Q : Rs → Prop) (x1 : Int32) (nt : Nat) (hnt : nt ≤ 10) (ct : M.1 54 22 = nI nt) : ∀ (k0 : Nat) (i3 : Nat) (s2 : Int32), i3 + k0 = nt → k_enough_20_ok (M.1 61) (M.1 71) x1 k0 i3 s2 → (match k_enough_20 (M.1 61) (M.1 71) x1 k0 i3 s2 with | s2' => G z mX12_enough (d + 2) 0 0 91 [none, none, some (.int (s2')), none] [] M Q) → G z mX12_enough (d + 2) 0 0 20 [some (.ref 54), some (.int x1), some (.int s2), some (.int (nI i3))] [] M Q := by
  intro k0
  induction k0 with
  | zero =>
      intro i3 s2 hn hk hX
      refine G.sl [(.iload_n 3, 1, 3, 0, 0, 0), (.aload_n 0, 1, 0, 0, 0, 0), (.getfield 162, 3, 11, 22, 145, 0)] [] (pc2 := 25) (ls2 := [some (.ref 54), some (.int x1), some (.int s2), some (.int (nI i3))]) (st2 := [.int (M.1 54 22), .int (nI i3)]) (M2 := M) (Ps := []) (by decide +kernel) rfl rfl trivial ?_
      rw [ct]
      refine G.ic_ge (off := (66)) (tgt := 91) (by decide +kernel) rfl (fun _ => ?_) (fun h9 => absurd (nI_le (by omega) (by omega)) h9)
      refine G.loc (ls2 := [none, none, some (.int s2), none]) (by simp [subL]) ?_
      simp only [k_enough_20] at hX
      exact hX
  | succ k0 ih =>
      intro i3 s2 hn hk hX
      simp only [k_enough_20_ok] at hk
      refine G.sl [(.iload_n 3, 1, 3, 0, 0, 0), (.aload_n 0, 1, 0, 0, 0, 0), (.getfield 162, 3, 11, 22, 145, 0)] [] (pc2 := 25) (ls2 := [some (.ref 54), some (.int x1), some (.int s2), some (.int (nI i3))]) (st2 := [.int (M.1 54 22), .int (nI i3)]) (M2 := M) (Ps := []) (by decide +kernel) rfl rfl trivial ?_
      rw [ct]
      refine G.ic_ge (off := (66)) (tgt := 91) (by decide +kernel) rfl (fun h9 => absurd h9 (nI_ge (by omega) (by omega))) (fun _ => ?_)
      obtain ⟨k9, k10, hk⟩ := hk
      refine G.sl [(.aload_n 0, 1, 0, 0, 0, 0), (.getfield 65, 3, 11, 40, 163, 0), (.bipush 26, 2, 0, 0, 0, nI 26), (.iload_n 1, 1, 1, 0, 0, 0), (.iadd, 1, 0, 0, 0, 0), (.iaload, 1, 0, 0, 0, 0)] [26 + (ix x1)] (pc2 := 37) (ls2 := [some (.ref 54), some (.int x1), some (.int s2), some (.int (nI i3))]) (st2 := [.int (M.1 71 (26 + (ix x1)))]) (M2 := M) (Ps := [((nI 26) + x1) = nI (26 + (ix x1)) ∧ (26 + (ix x1)) < 51]) (by decide +kernel) rfl rfl ⟨⟨(nAdd rfl (ixE k9)), k10⟩, trivial⟩ ?_
      refine G.if_le (off := (54)) (tgt := 91) (by decide +kernel) rfl (fun c11 => ?_) (fun c11 => ?_)
      · skip
        rw [if_pos c11] at hk
        refine G.loc (ls2 := [none, none, some (.int s2), none]) (by simp [subL]) ?_
        simp only [k_enough_20, if_pos c11] at hX
        exact hX
      · skip
        rw [if_neg c11] at hk
        refine G.sl [(.iload_n 2, 1, 2, 0, 0, 0), (.aload_n 0, 1, 0, 0, 0, 0), (.getfield 65, 3, 11, 40, 163, 0), (.bipush 10, 2, 0, 0, 0, nI 10), (.iload_n 3, 1, 3, 0, 0, 0), (.iadd, 1, 0, 0, 0, 0), (.iaload, 1, 0, 0, 0, 0), (.iload_n 1, 1, 1, 0, 0, 0)] [10 + i3] (pc2 := 51) (ls2 := [some (.ref 54), some (.int x1), some (.int s2), some (.int (nI i3))]) (st2 := [.int x1, .int (M.1 71 (10 + i3)), .int s2]) (M2 := M) (Ps := [((nI 10) + (nI i3)) = nI (10 + i3) ∧ (10 + i3) < 51]) (by decide +kernel) rfl rfl ⟨⟨(nI_add _ _), (by omega)⟩, trivial⟩ ?_
        refine G.ic_ne (off := (31)) (tgt := 82) (by decide +kernel) rfl (fun c12 => ?_) (fun c12 => ?_)
        · skip
          rw [if_neg c12] at hk
          refine G.sl [(.iconst 0, 1, 0, 0, 0, nI 0), (.ior, 1, 0, 0, 0, 0), (.istore_n 2, 1, 2, 0, 0, 0), (.iinc 3 1, 3, 3, 0, 0, nI 1), (.goto (-68), 3, 20, 0, 0, 0)] [] (pc2 := 20) (ls2 := [some (.ref 54), some (.int x1), some (.int (s2 ||| (nI 0))), some (.int ((nI i3) + nI 1))]) (st2 := []) (M2 := M) (Ps := []) (by decide +kernel) rfl rfl trivial ?_
          rw [nI_add i3 1]
          simp only [k_enough_20, if_neg c11, if_neg c12] at hX
          exact ih (i3 + 1) (s2 ||| (nI 0)) (by omega) hk hX
        · skip
          rw [if_pos c12] at hk
          refine G.sl [(.aload_n 0, 1, 0, 0, 0, 0), (.getfield 35, 3, 11, 14, 137, 0), (.iconst 3, 1, 0, 0, 0, nI 3), (.iload_n 3, 1, 3, 0, 0, 0), (.imul, 1, 0, 0, 0, 0), (.iconst 2, 1, 0, 0, 0, nI 2), (.iadd, 1, 0, 0, 0, 0), (.iaload, 1, 0, 0, 0, 0), (.aload_n 0, 1, 0, 0, 0, 0), (.getfield 65, 3, 11, 40, 163, 0), (.bipush 26, 2, 0, 0, 0, nI 26), (.iload_n 1, 1, 1, 0, 0, 0), (.iadd, 1, 0, 0, 0, 0), (.iaload, 1, 0, 0, 0, 0)] [(3 * i3) + 2, 26 + (ix x1)] (pc2 := 73) (ls2 := [some (.ref 54), some (.int x1), some (.int s2), some (.int (nI i3))]) (st2 := [.int (M.1 71 (26 + (ix x1))), .int (M.1 61 ((3 * i3) + 2)), .int s2]) (M2 := M) (Ps := [(((nI 3) * (nI i3)) + (nI 2)) = nI ((3 * i3) + 2) ∧ ((3 * i3) + 2) < 30, ((nI 26) + x1) = nI (26 + (ix x1)) ∧ (26 + (ix x1)) < 51]) (by decide +kernel) rfl rfl ⟨⟨(nAdd (pk_mul _ _) rfl), (by omega)⟩, ⟨(nAdd rfl (ixE k9)), k10⟩, trivial⟩ ?_
          refine G.ic_lt (off := (9)) (tgt := 82) (by decide +kernel) rfl (fun c13 => ?_) (fun c13 => ?_)
          · skip
            rw [if_pos c13] at hk
            refine G.sl [(.iconst 0, 1, 0, 0, 0, nI 0), (.ior, 1, 0, 0, 0, 0), (.istore_n 2, 1, 2, 0, 0, 0), (.iinc 3 1, 3, 3, 0, 0, nI 1), (.goto (-68), 3, 20, 0, 0, 0)] [] (pc2 := 20) (ls2 := [some (.ref 54), some (.int x1), some (.int (s2 ||| (nI 0))), some (.int ((nI i3) + nI 1))]) (st2 := []) (M2 := M) (Ps := []) (by decide +kernel) rfl rfl trivial ?_
            rw [nI_add i3 1]
            simp only [k_enough_20, if_neg c11, if_pos c12, if_pos c13] at hX
            exact ih (i3 + 1) (s2 ||| (nI 0)) (by omega) hk hX
          · skip
            rw [if_neg c13] at hk
            refine G.sl [(.iconst 1, 1, 0, 0, 0, nI 1), (.iload_n 3, 1, 3, 0, 0, 0), (.ishl, 1, 0, 0, 0, 0), (.goto 4, 3, 83, 0, 0, 0), (.ior, 1, 0, 0, 0, 0), (.istore_n 2, 1, 2, 0, 0, 0), (.iinc 3 1, 3, 3, 0, 0, nI 1), (.goto (-68), 3, 20, 0, 0, 0)] [] (pc2 := 20) (ls2 := [some (.ref 54), some (.int x1), some (.int (s2 ||| ((nI 1) <<< ((nI i3) &&& 31)))), some (.int ((nI i3) + nI 1))]) (st2 := []) (M2 := M) (Ps := []) (by decide +kernel) rfl rfl trivial ?_
            rw [nI_add i3 1]
            simp only [k_enough_20, if_neg c11, if_pos c12, if_neg c13] at hX
            exact ih (i3 + 1) (s2 ||| ((nI 1) <<< ((nI i3) &&& 31))) (by omega) hk hX
set_option maxHeartbeats 4000000 in
set_option maxRecDepth 3000 in
theorem c_k_enough_54 (z : Zp) (d : Nat) (M : Mem) (x1 : Int32) (nf : Nat) (hnf : nf ≤ 6) (cf : M.1 54 23 = nI nf) (hk : k_enough_ok (M.1 54) (M.1 55) (M.1 61) (M.1 71) nf x1) : GM z mX12_enough (d + 2) [.ref 54, .int x1] M (fun rs => rs = .inl (some (.int ((k_enough (M.1 54) (M.1 55) (M.1 61) (M.1 71) nf x1).1)), mrow (mrow M 54 ((k_enough (M.1 54) (M.1 55) (M.1 61) (M.1 71) nf x1).2.1)) 55 ((k_enough (M.1 54) (M.1 55) (M.1 61) (M.1 71) nf x1).2.2))) := by
  simp only [k_enough_ok] at hk
  refine GM.of oX12_enough.1 (Nat.le_of_ble_eq_true rfl) ?_
  show G z mX12_enough (d + 2) 0 0 0 [some (.ref 54), some (.int x1), none, none] [] M _
  obtain ⟨Q, hQ⟩ : ∃ Q : Rs → Prop, Q = (fun rs => rs = .inl (some (.int ((k_enough (M.1 54) (M.1 55) (M.1 61) (M.1 71) nf x1).1)), mrow (mrow M 54 ((k_enough (M.1 54) (M.1 55) (M.1 61) (M.1 71) nf x1).2.1)) 55 ((k_enough (M.1 54) (M.1 55) (M.1 61) (M.1 71) nf x1).2.2))) := ⟨_, rfl⟩
  rw [← hQ]
  refine G.sl [(.aload_n 0, 1, 0, 0, 0, 0), (.iconst 0, 1, 0, 0, 0, nI 0), (.putfield 3, 3, 11, 0, 123, 0), (.aload_n 0, 1, 0, 0, 0, 0), (.iload_n 1, 1, 1, 0, 0, 0), (.iconst 1, 1, 0, 0, 0, nI 1)] [] (pc2 := 8) (ls2 := [some (.ref 54), some (.int x1), none, none]) (st2 := [.int (nI 1), .int x1, .ref 54]) (M2 := mput M 54 0 (nI 0)) (Ps := []) (by decide +kernel) rfl rfl trivial ?_
  refine G.mem (M' := mrow M 54 (upd (M.1 54) 0 (nI 0))) (by first | rfl | (simp only [mput, mrow_same, mrow_hit, mrow_miss, mrow_sw, idr_eq, ne_eq, Nat.reduceEqDiff, not_false_eq_true, Nat.reduceLT, reduceCtorEq]; done)) ?_
  obtain ⟨k1, hk⟩ := hk
  rcases g2 : k_isFinder (upd (M.1 54) 0 (nI 0)) (M.1 55) nf x1 (nI 1) with ⟨v3, r4, r5⟩
  try simp only [g2] at hk
  have ev3 : v3 = 0 ∨ v3 = 1 := by
    have q9 := k_isFinder_01 (upd (M.1 54) 0 (nI 0)) (M.1 55) nf x1 (nI 1)
    rw [g2] at q9
    exact q9
  have t6 : GM z mX12_isFinder (d + 1) [.ref 54, .int x1, .int (nI 1)] (mrow M 54 (upd (M.1 54) 0 (nI 0))) (fun rs => rs = .inl (some (.int v3), mrow (mrow M 54 r4) 55 r5)) := by
    have q9 := c_k_isFinder_54 z d (mrow M 54 (upd (M.1 54) 0 (nI 0))) x1 (nI 1) nf hnf cf
    try simp only [mput, mrow_same, mrow_hit, mrow_miss, mrow_sw, idr_eq, ne_eq, Nat.reduceEqDiff, not_false_eq_true, Nat.reduceLT, reduceCtorEq, g2] at q9
    exact q9
  refine G.callV (as := [.int x1, .int (nI 1)]) (rest := []) (a := 54) oX12_isFinder lk_EvenFindersModel_400 (by decide +kernel) rfl rfl ⟨rfl, rfl⟩ (Nat.le_of_ble_eq_true rfl) rfl ⟨Nat.le_of_ble_eq_true rfl, Nat.le_of_ble_eq_true rfl⟩ t6 (fun v9 N9 h7 => ?_) (fun E9 N9 h7 => by cases h7)
  cases h7
  show G z mX12_enough (d + 2) 0 0 11 [some (.ref 54), some (.int x1), none, none] [.int v3] (mrow (mrow M 54 r4) 55 r5) Q
  refine G.if_ne (off := (5)) (tgt := 16) (by decide +kernel) rfl (fun c8 => ?_) (fun c8 => ?_)
  · skip
    rw [if_neg c8] at hk
    refine G.sl [(.iconst 0, 1, 0, 0, 0, nI 0), (.istore_n 2, 1, 2, 0, 0, 0), (.iconst 0, 1, 0, 0, 0, nI 0), (.istore_n 3, 1, 3, 0, 0, 0)] [] (pc2 := 20) (ls2 := [some (.ref 54), some (.int x1), some (.int (nI 0)), some (.int (nI 0))]) (st2 := []) (M2 := mrow (mrow M 54 r4) 55 r5) (Ps := []) (by decide +kernel) rfl rfl trivial ?_
    obtain ⟨k14, k15, hk⟩ := hk
    obtain ⟨k16, hk⟩ := hk
    refine lp_k_enough_54_20 z d (mrow (mrow M 54 r4) 55 r5) Q x1 (ix (r4 22)) k15 (ixE k14) (ix (r4 22)) 0 (nI 0) (Nat.zero_add _) (by first | (simp only [mput, mrow_same, mrow_hit, mrow_miss, mrow_sw, idr_eq, ne_eq, Nat.reduceEqDiff, not_false_eq_true, Nat.reduceLT, reduceCtorEq]; exact k16) | exact k16) ?_
    try simp only [mput, mrow_same, mrow_hit, mrow_miss, mrow_sw, idr_eq, ne_eq, Nat.reduceEqDiff, not_false_eq_true, Nat.reduceLT, reduceCtorEq]
    show G z mX12_enough (d + 2) 0 0 91 [none, none, some (.int (k_enough_20 (M.1 61) (M.1 71) x1 (ix (r4 22)) 0 (nI 0))), none] [] (mrow (mrow M 54 r4) 55 r5) Q
    refine G.sl [(.iload_n 2, 1, 2, 0, 0, 0)] [] (pc2 := 92) (ls2 := [none, none, some (.int (k_enough_20 (M.1 61) (M.1 71) x1 (ix (r4 22)) 0 (nI 0))), none]) (st2 := [.int (k_enough_20 (M.1 61) (M.1 71) x1 (ix (r4 22)) 0 (nI 0))]) (M2 := mrow (mrow M 54 r4) 55 r5) (Ps := []) (by decide +kernel) rfl rfl trivial ?_
    exact G.reti (by decide +kernel) rfl rfl (Nat.le_of_ble_eq_true rfl) (Nat.le_of_ble_eq_true rfl) ((by rw [hQ]; simp only [k_enough, g2, if_neg c8, mrow_self]))
  · skip
    rw [if_pos c8] at hk
    refine G.sl [(.iconst 0, 1, 0, 0, 0, nI 0)] [] (pc2 := 15) (ls2 := [some (.ref 54), some (.int x1), none, none]) (st2 := [.int (nI 0)]) (M2 := mrow (mrow M 54 r4) 55 r5) (Ps := []) (by decide +kernel) rfl rfl trivial ?_
    exact G.reti (by decide +kernel) rfl rfl (Nat.le_of_ble_eq_true rfl) (Nat.le_of_ble_eq_true rfl) ((by rw [hQ]; simp only [k_enough, g2, if_pos c8, mrow_self]))
theorem k_isYear_01 (x0 : Int32) (x1 : Int32) : k_isYear x0 x1 = 0 ∨ k_isYear x0 x1 = 1 := by
  unfold k_isYear
  repeat' split
  all_goals first | exact Or.inl rfl | exact Or.inr rfl
set_option maxHeartbeats 4000000 in
set_option maxRecDepth 3000 in
theorem c_k_isYear (z : Zp) (d : Nat) (M : Mem) (x0 : Int32) (x1 : Int32) : GM z mX12_isYear (d) [.int x0, .int x1] M (fun rs => rs = .inl (some (.int (k_isYear x0 x1)), M)) := by
  refine GM.of oX12_isYear.1 (Nat.le_of_ble_eq_true rfl) ?_
  show G z mX12_isYear (d) 0 0 0 [some (.int x0), some (.int x1)] [] M _
  obtain ⟨Q, hQ⟩ : ∃ Q : Rs → Prop, Q = (fun rs => rs = .inl (some (.int (k_isYear x0 x1)), M)) := ⟨_, rfl⟩
  rw [← hQ]
  refine G.sl [(.iload_n 0, 1, 0, 0, 0, 0)] [] (pc2 := 1) (ls2 := [some (.int x0), some (.int x1)]) (st2 := [.int x0]) (M2 := M) (Ps := []) (by decide +kernel) rfl rfl trivial ?_
  refine G.if_lt (off := (24)) (tgt := 25) (by decide +kernel) rfl (fun c1 => ?_) (fun c1 => ?_)
  · skip
    refine G.sl [(.iconst 0, 1, 0, 0, 0, nI 0)] [] (pc2 := 26) (ls2 := [some (.int x0), some (.int x1)]) (st2 := [.int (nI 0)]) (M2 := M) (Ps := []) (by decide +kernel) rfl rfl trivial ?_
    exact G.reti (by decide +kernel) rfl rfl (Nat.le_of_ble_eq_true rfl) (Nat.le_of_ble_eq_true rfl) ((by rw [hQ]; simp only [k_isYear, if_pos c1, mrow_self]))
  · skip
    refine G.sl [(.iload_n 0, 1, 0, 0, 0, 0), (.bipush 16, 2, 0, 0, 0, nI 16)] [] (pc2 := 7) (ls2 := [some (.int x0), some (.int x1)]) (st2 := [.int (nI 16), .int x0]) (M2 := M) (Ps := []) (by decide +kernel) rfl rfl trivial ?_
    refine G.ic_gt (off := (18)) (tgt := 25) (by decide +kernel) rfl (fun c2 => ?_) (fun c2 => ?_)
    · skip
      refine G.sl [(.iconst 0, 1, 0, 0, 0, nI 0)] [] (pc2 := 26) (ls2 := [some (.int x0), some (.int x1)]) (st2 := [.int (nI 0)]) (M2 := M) (Ps := []) (by decide +kernel) rfl rfl trivial ?_
      exact G.reti (by decide +kernel) rfl rfl (Nat.le_of_ble_eq_true rfl) (Nat.le_of_ble_eq_true rfl) ((by rw [hQ]; simp only [k_isYear, if_neg c1, if_pos c2, mrow_self]))
    · skip
      refine G.sl [(.iload_n 1, 1, 1, 0, 0, 0), (.iconst 1, 1, 0, 0, 0, nI 1)] [] (pc2 := 12) (ls2 := [some (.int x0), some (.int x1)]) (st2 := [.int (nI 1), .int x1]) (M2 := M) (Ps := []) (by decide +kernel) rfl rfl trivial ?_
      refine G.ic_lt (off := (13)) (tgt := 25) (by decide +kernel) rfl (fun c3 => ?_) (fun c3 => ?_)
      · skip
        refine G.sl [(.iconst 0, 1, 0, 0, 0, nI 0)] [] (pc2 := 26) (ls2 := [some (.int x0), some (.int x1)]) (st2 := [.int (nI 0)]) (M2 := M) (Ps := []) (by decide +kernel) rfl rfl trivial ?_
        exact G.reti (by decide +kernel) rfl rfl (Nat.le_of_ble_eq_true rfl) (Nat.le_of_ble_eq_true rfl) ((by rw [hQ]; simp only [k_isYear, if_neg c1, if_neg c2, if_pos c3, mrow_self]))
      · skip
        refine G.sl [(.iload_n 1, 1, 1, 0, 0, 0), (.bipush 96, 2, 0, 0, 0, nI 96)] [] (pc2 := 18) (ls2 := [some (.int x0), some (.int x1)]) (st2 := [.int (nI 96), .int x1]) (M2 := M) (Ps := []) (by decide +kernel) rfl rfl trivial ?_
        refine G.ic_gt (off := (7)) (tgt := 25) (by decide +kernel) rfl (fun c4 => ?_) (fun c4 => ?_)
        · skip
          refine G.sl [(.iconst 0, 1, 0, 0, 0, nI 0)] [] (pc2 := 26) (ls2 := [some (.int x0), some (.int x1)]) (st2 := [.int (nI 0)]) (M2 := M) (Ps := []) (by decide +kernel) rfl rfl trivial ?_
          exact G.reti (by decide +kernel) rfl rfl (Nat.le_of_ble_eq_true rfl) (Nat.le_of_ble_eq_true rfl) ((by rw [hQ]; simp only [k_isYear, if_neg c1, if_neg c2, if_neg c3, if_pos c4, mrow_self]))
        · skip
          refine G.sl [(.iconst 1, 1, 0, 0, 0, nI 1), (.goto 4, 3, 26, 0, 0, 0)] [] (pc2 := 26) (ls2 := [some (.int x0), some (.int x1)]) (st2 := [.int (nI 1)]) (M2 := M) (Ps := []) (by decide +kernel) rfl rfl trivial ?_
          exact G.reti (by decide +kernel) rfl rfl (Nat.le_of_ble_eq_true rfl) (Nat.le_of_ble_eq_true rfl) ((by rw [hQ]; simp only [k_isYear, if_neg c1, if_neg c2, if_neg c3, if_neg c4, mrow_self]))
set_option maxHeartbeats 4000000 in
set_option maxRecDepth 3000 in
theorem lp_k_yearGoes_54_40 (z : Zp) (d : Nat) (M : Mem) (Q : Rs → Prop) (x2 : Int32) (x3 : Int32) : ∀ (k0 : Nat) (s5 : Int32) (q54 : (Nat → Int32)) (q67 : (Nat → Int32)) (q68 : (Nat → Int32)) (q72 : (Nat → Int32)), k_yearGoes_40_ok (M.1 61) x2 x3 k0 s5 q54 q67 q68 q72 → (match k_yearGoes_40 (M.1 61) x2 x3 k0 s5 q54 q67 q68 q72 with | (s5', q54', q67', q68', q72') => G z mX12_yearGoes (d + 6) 0 0 147 [none, none, none, none, none, none, none, none] [] (mrow (mrow (mrow (mrow M 54 (q54')) 67 (q67')) 68 (q68')) 72 (q72')) Q) → G z mX12_yearGoes (d + 6) 0 0 40 [some (.ref 54), none, some (.int x2), some (.int x3), some (.int (nI 0)), some (.int s5), none, none] [] (mrow (mrow (mrow (mrow M 54 q54) 67 q67) 68 q68) 72 q72) Q := by
  intro k0
  induction k0 with
  | zero =>
      intro s5 q54 q67 q68 q72 hk hX
      exact (by simpa only [k_yearGoes_40_ok] using hk : False).elim
  | succ k0 ih =>
      intro s5 q54 q67 q68 q72 hk hX
      simp only [k_yearGoes_40_ok] at hk
      refine G.sl [(.iload 5, 2, 5, 0, 0, 0), (.iconst 3, 1, 0, 0, 0, nI 3), (.iload_n 3, 1, 3, 0, 0, 0), (.imul, 1, 0, 0, 0, 0)] [] (pc2 := 45) (ls2 := [some (.ref 54), none, some (.int x2), some (.int x3), some (.int (nI 0)), some (.int s5), none, none]) (st2 := [.int ((nI 3) * x3), .int s5]) (M2 := mrow (mrow (mrow (mrow M 54 q54) 67 q67) 68 q68) 72 q72) (Ps := []) (by decide +kernel) rfl rfl trivial ?_
      refine G.ic_ge (off := (102)) (tgt := 147) (by decide +kernel) rfl (fun c8 => ?_) (fun c8 => ?_)
      · skip
        rw [if_pos c8] at hk
        refine G.loc (ls2 := [none, none, none, none, none, none, none, none]) (by simp [subL]) ?_
        simp only [k_yearGoes_40, if_pos c8] at hX
        exact hX
      · skip
        rw [if_neg c8] at hk
        refine G.sl [(.iload 4, 2, 4, 0, 0, 0)] [] (pc2 := 50) (ls2 := [some (.ref 54), none, some (.int x2), some (.int x3), some (.int (nI 0)), some (.int s5), none, none]) (st2 := [.int (nI 0)]) (M2 := mrow (mrow (mrow (mrow M 54 q54) 67 q67) 68 q68) 72 q72) (Ps := []) (by decide +kernel) rfl rfl trivial ?_
        refine G.if_eq (off := (79)) (tgt := 129) (by decide +kernel) rfl (fun _ => ?_) (fun h9 => absurd (by decide) h9)
        refine G.sl [(.iload 5, 2, 5, 0, 0, 0), (.iconst 3, 1, 0, 0, 0, nI 3), (.irem, 1, 0, 0, 0, 0), (.iconst 2, 1, 0, 0, 0, nI 2)] [] (pc2 := 134) (ls2 := [some (.ref 54), none, some (.int x2), some (.int x3), some (.int (nI 0)), some (.int s5), none, none]) (st2 := [.int (nI 2), .int (s5 - s5 / (nI 3) * (nI 3))]) (M2 := mrow (mrow (mrow (mrow M 54 q54) 67 q67) 68 q68) 72 q72) (Ps := [¬ (nI 3) = 0]) (by decide +kernel) rfl rfl ⟨(by decide), trivial⟩ ?_
        refine G.ic_ne (off := (7)) (tgt := 141) (by decide +kernel) rfl (fun c9 => ?_) (fun c9 => ?_)
        · skip
          rw [if_neg c9] at hk
          refine G.sl [(.iinc 5 1, 3, 5, 0, 0, nI 1), (.goto (-104), 3, 40, 0, 0, 0)] [] (pc2 := 40) (ls2 := [some (.ref 54), none, some (.int x2), some (.int x3), some (.int (nI 0)), some (.int (s5 + nI 1)), none, none]) (st2 := []) (M2 := mrow (mrow (mrow (mrow M 54 q54) 67 q67) 68 q68) 72 q72) (Ps := []) (by decide +kernel) rfl rfl trivial ?_
          simp only [k_yearGoes_40, if_neg c8, if_neg c9] at hX
          exact ih (s5 + nI 1) q54 q67 q68 q72 hk hX
        · skip
          rw [if_pos c9] at hk
          refine G.sl [(.aload_n 0, 1, 0, 0, 0, 0)] [] (pc2 := 138) (ls2 := [some (.ref 54), none, some (.int x2), some (.int x3), some (.int (nI 0)), some (.int s5), none, none]) (st2 := [.ref 54]) (M2 := mrow (mrow (mrow (mrow M 54 q54) 67 q67) 68 q68) 72 q72) (Ps := []) (by decide +kernel) rfl rfl trivial ?_
          obtain ⟨k10, k11, k12, k13, hk⟩ := hk
          obtain ⟨k14, hk⟩ := hk
          rcases g15 : k_passes (M.1 61) q72 (ix (q54 22)) (ix (q54 23)) with ⟨u16, r17⟩
          try simp only [g15] at hk
          have t18 : GM z mX12_passes (d + 5) [.ref 54] (mrow (mrow (mrow (mrow M 54 q54) 67 q67) 68 q68) 72 q72) (fun rs => rs = .inl (none, mrow (mrow (mrow (mrow M 54 q54) 67 q67) 68 q68) 72 r17)) := by
            have q9 := c_k_passes_54 z (d + 5) (mrow (mrow (mrow (mrow M 54 q54) 67 q67) 68 q68) 72 q72) (ix (q54 22)) k11 (ixE k10) (ix (q54 23)) k13 (ixE k12) k14
            try simp only [mput, mrow_same, mrow_hit, mrow_miss, mrow_sw, idr_eq, ne_eq, Nat.reduceEqDiff, not_false_eq_true, Nat.reduceLT, reduceCtorEq, g15] at q9
            exact q9
          refine G.callV (as := []) (rest := []) (a := 54) oX12_passes lk_EvenFindersModel_373 (by decide +kernel) rfl rfl ⟨rfl, rfl⟩ (Nat.le_of_ble_eq_true rfl) rfl ⟨Nat.le_of_ble_eq_true rfl, Nat.le_of_ble_eq_true rfl⟩ t18 (fun v9 N9 h19 => ?_) (fun E9 N9 h19 => by cases h19)
          cases h19
          show G z mX12_yearGoes (d + 6) 0 0 141 [some (.ref 54), none, some (.int x2), some (.int x3), some (.int (nI 0)), some (.int s5), none, none] [] (mrow (mrow (mrow (mrow M 54 q54) 67 q67) 68 q68) 72 r17) Q
          refine G.sl [(.iinc 5 1, 3, 5, 0, 0, nI 1), (.goto (-104), 3, 40, 0, 0, 0)] [] (pc2 := 40) (ls2 := [some (.ref 54), none, some (.int x2), some (.int x3), some (.int (nI 0)), some (.int (s5 + nI 1)), none, none]) (st2 := []) (M2 := mrow (mrow (mrow (mrow M 54 q54) 67 q67) 68 q68) 72 r17) (Ps := []) (by decide +kernel) rfl rfl trivial ?_
          simp only [k_yearGoes_40, if_neg c8, if_pos c9, g15] at hX
          exact ih (s5 + nI 1) q54 q67 q68 r17 hk hX
