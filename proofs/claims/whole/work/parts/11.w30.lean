set_option maxHeartbeats 4000000 in
set_option maxRecDepth 3000 in
theorem c_d_heldByAll_37 (z : Zp) (d : Nat) (M : Mem) (nt : Nat) (hnt : nt ≤ 10) (ht : M.1 3 2 = nI nt) : GM z mX1_heldByAll (d + 1) [.ref 37] M (fun rs => rs = .inl (some (.int (d_heldByAll (M.1 38) nt)), M)) := by
  refine GM.of oX1_heldByAll.1 (Nat.le_of_ble_eq_true rfl) ?_
  show G z mX1_heldByAll (d + 1) 0 0 0 [some (.ref 37), none] [] M _
  obtain ⟨Q, hQ⟩ : ∃ Q : Rs → Prop, Q = (fun rs => rs = .inl (some (.int (d_heldByAll (M.1 38) nt)), M)) := ⟨_, rfl⟩
  rw [← hQ]
  refine G.sl [(.iconst 1, 1, 0, 0, 0, nI 1), (.aload_n 0, 1, 0, 0, 0, 0), (.getfield 18, 3, 1, 2, 79, 0), (.getfield 86, 3, 6, 2, 28, 0), (.ishl, 1, 0, 0, 0, 0), (.iconst 1, 1, 0, 0, 0, nI 1), (.isub, 1, 0, 0, 0, 0), (.istore_n 1, 1, 1, 0, 0, 0), (.iload_n 1, 1, 1, 0, 0, 0), (.aload_n 0, 1, 0, 0, 0, 0), (.iconst (-1), 1, 0, 0, 0, (-1))] [] (pc2 := 15) (ls2 := [some (.ref 37), some (.int (((nI 1) <<< ((M.1 3 2) &&& 31)) - (nI 1)))]) (st2 := [.int ((-1)), .ref 37, .int (((nI 1) <<< ((M.1 3 2) &&& 31)) - (nI 1))]) (M2 := M) (Ps := []) (by decide +kernel) rfl rfl trivial ?_
  rw [ht]
  have t2 : GM z mX1_heldBy (d) [.ref 37, .int ((-1))] M (fun rs => rs = .inl (some (.int (d_heldBy (M.1 38) nt ((-1)))), M)) := by
    have q9 := c_d_heldBy_37 z d M ((-1)) nt hnt ht
    try simp only [mput, mrow_same, mrow_hit, mrow_miss, mrow_sw, idr_eq, ne_eq, Nat.reduceEqDiff, not_false_eq_true, Nat.reduceLT, reduceCtorEq] at q9
    exact q9
  refine G.callV (as := [.int ((-1))]) (rest := [.int (((nI 1) <<< ((nI nt) &&& 31)) - (nI 1))]) (a := 37) oX1_heldBy lk_EvenFinders_Days_94 (by decide +kernel) rfl rfl ⟨rfl, rfl⟩ (Nat.le_of_ble_eq_true rfl) rfl ⟨Nat.le_of_ble_eq_true rfl, Nat.le_of_ble_eq_true rfl⟩ t2 (fun v9 N9 h3 => ?_) (fun E9 N9 h3 => by cases h3)
  cases h3
  show G z mX1_heldByAll (d + 1) 0 0 18 [some (.ref 37), some (.int (((nI 1) <<< ((nI nt) &&& 31)) - (nI 1)))] [.int (d_heldBy (M.1 38) nt ((-1))), .int (((nI 1) <<< ((nI nt) &&& 31)) - (nI 1))] M Q
  refine G.sl [(.iconst (-1), 1, 0, 0, 0, (-1)), (.ixor, 1, 0, 0, 0, 0), (.iand, 1, 0, 0, 0, 0)] [] (pc2 := 21) (ls2 := [some (.ref 37), some (.int (((nI 1) <<< ((nI nt) &&& 31)) - (nI 1)))]) (st2 := [.int ((((nI 1) <<< ((nI nt) &&& 31)) - (nI 1)) &&& ((d_heldBy (M.1 38) nt ((-1))) ^^^ ((-1))))]) (M2 := M) (Ps := []) (by decide +kernel) rfl rfl trivial ?_
  exact G.reti (by decide +kernel) rfl rfl (Nat.le_of_ble_eq_true rfl) (Nat.le_of_ble_eq_true rfl) ((by rw [hQ]; simp only [d_heldByAll, mrow_self]))
set_option maxHeartbeats 4000000 in
set_option maxRecDepth 3000 in
theorem lp_d_even_37_4 (z : Zp) (d : Nat) (M : Mem) (Q : Rs → Prop) (nf : Nat) (hnf : nf ≤ 6) (hf : M.1 3 3 = nI nf) (hX : G z mX1_even (d) 0 0 39 [none, some (.int (d_even_4 (M.1 38) nf)), none] [] M Q) : G z mX1_even (d) 0 0 4 [some (.ref 37), some (.int (nI 0)), some (.int (nI 0))] [] M Q := by
  refine down (n := nf) (P := fun i2 => G z mX1_even (d) 0 0 4 [some (.ref 37), some (.int (d_even_4 (M.1 38) i2)), some (.int (nI i2))] [] M Q) ?_ ?_ 0 (Nat.zero_le _)
  · skip
    refine G.sl [(.iload_n 2, 1, 2, 0, 0, 0), (.aload_n 0, 1, 0, 0, 0, 0), (.getfield 18, 3, 1, 2, 79, 0), (.getfield 78, 3, 6, 3, 34, 0)] [] (pc2 := 12) (ls2 := [some (.ref 37), some (.int (d_even_4 (M.1 38) nf)), some (.int (nI nf))]) (st2 := [.int (M.1 3 3), .int (nI nf)]) (M2 := M) (Ps := []) (by decide +kernel) rfl rfl trivial ?_
    rw [hf]
    refine G.ic_ge (off := (27)) (tgt := 39) (by decide +kernel) rfl (fun _ => ?_) (fun h9 => absurd (nI_le (by omega) (by omega)) h9)
    refine G.loc (ls2 := [none, some (.int (d_even_4 (M.1 38) nf)), none]) (by simp [subL]) ?_
    exact hX
  · skip
    intro i2 hi ih
    show G z mX1_even (d) 0 0 4 [some (.ref 37), some (.int (d_even_4 (M.1 38) i2)), some (.int (nI i2))] [] M Q
    refine G.sl [(.iload_n 2, 1, 2, 0, 0, 0), (.aload_n 0, 1, 0, 0, 0, 0), (.getfield 18, 3, 1, 2, 79, 0), (.getfield 78, 3, 6, 3, 34, 0)] [] (pc2 := 12) (ls2 := [some (.ref 37), some (.int (d_even_4 (M.1 38) i2)), some (.int (nI i2))]) (st2 := [.int (M.1 3 3), .int (nI i2)]) (M2 := M) (Ps := []) (by decide +kernel) rfl rfl trivial ?_
    rw [hf]
    refine G.ic_ge (off := (27)) (tgt := 39) (by decide +kernel) rfl (fun h9 => absurd h9 (nI_ge (by omega) (by omega))) (fun _ => ?_)
    refine G.sl [(.aload_n 0, 1, 0, 0, 0, 0), (.getfield 9, 3, 1, 0, 73, 0), (.bipush 7, 2, 0, 0, 0, nI 7), (.iload_n 2, 1, 2, 0, 0, 0), (.iadd, 1, 0, 0, 0, 0), (.iaload, 1, 0, 0, 0, 0)] [7 + i2] (pc2 := 24) (ls2 := [some (.ref 37), some (.int (d_even_4 (M.1 38) i2)), some (.int (nI i2))]) (st2 := [.int (M.1 38 (7 + i2))]) (M2 := M) (Ps := [((nI 7) + (nI i2)) = nI (7 + i2) ∧ (7 + i2) < 51]) (by decide +kernel) rfl rfl ⟨⟨(nI_add _ _), (by omega)⟩, trivial⟩ ?_
    refine G.if_ne (off := (9)) (tgt := 33) (by decide +kernel) rfl (fun c1 => ?_) (fun c1 => ?_)
    · skip
      refine G.sl [(.iinc 2 1, 3, 2, 0, 0, nI 1), (.goto (-32), 3, 4, 0, 0, 0)] [] (pc2 := 4) (ls2 := [some (.ref 37), some (.int (d_even_4 (M.1 38) i2)), some (.int ((nI i2) + nI 1))]) (st2 := []) (M2 := M) (Ps := []) (by decide +kernel) rfl rfl trivial ?_
      rw [nI_add i2 1]
      simp only [d_even_4, if_neg c1] at ih
      exact ih
    · skip
      refine G.sl [(.iload_n 1, 1, 1, 0, 0, 0), (.iconst 1, 1, 0, 0, 0, nI 1), (.iload_n 2, 1, 2, 0, 0, 0), (.ishl, 1, 0, 0, 0, 0), (.ior, 1, 0, 0, 0, 0), (.istore_n 1, 1, 1, 0, 0, 0), (.iinc 2 1, 3, 2, 0, 0, nI 1), (.goto (-32), 3, 4, 0, 0, 0)] [] (pc2 := 4) (ls2 := [some (.ref 37), some (.int ((d_even_4 (M.1 38) i2) ||| ((nI 1) <<< ((nI i2) &&& 31)))), some (.int ((nI i2) + nI 1))]) (st2 := []) (M2 := M) (Ps := []) (by decide +kernel) rfl rfl trivial ?_
      rw [nI_add i2 1]
      simp only [d_even_4, if_pos c1] at ih
      exact ih
set_option maxHeartbeats 4000000 in
set_option maxRecDepth 3000 in
theorem c_d_even_37 (z : Zp) (d : Nat) (M : Mem) (nf : Nat) (hnf : nf ≤ 6) (hf : M.1 3 3 = nI nf) : GM z mX1_even (d) [.ref 37] M (fun rs => rs = .inl (some (.int (d_even (M.1 38) nf)), M)) := by
  refine GM.of oX1_even.1 (Nat.le_of_ble_eq_true rfl) ?_
  show G z mX1_even (d) 0 0 0 [some (.ref 37), none, none] [] M _
  obtain ⟨Q, hQ⟩ : ∃ Q : Rs → Prop, Q = (fun rs => rs = .inl (some (.int (d_even (M.1 38) nf)), M)) := ⟨_, rfl⟩
  rw [← hQ]
  refine G.sl [(.iconst 0, 1, 0, 0, 0, nI 0), (.istore_n 1, 1, 1, 0, 0, 0), (.iconst 0, 1, 0, 0, 0, nI 0), (.istore_n 2, 1, 2, 0, 0, 0)] [] (pc2 := 4) (ls2 := [some (.ref 37), some (.int (nI 0)), some (.int (nI 0))]) (st2 := []) (M2 := M) (Ps := []) (by decide +kernel) rfl rfl trivial ?_
  refine lp_d_even_37_4 z d M Q nf hnf hf ?_
  show G z mX1_even (d) 0 0 39 [none, some (.int (d_even_4 (M.1 38) nf)), none] [] M Q
  refine G.sl [(.iload_n 1, 1, 1, 0, 0, 0)] [] (pc2 := 40) (ls2 := [none, some (.int (d_even_4 (M.1 38) nf)), none]) (st2 := [.int (d_even_4 (M.1 38) nf)]) (M2 := M) (Ps := []) (by decide +kernel) rfl rfl trivial ?_
  exact G.reti (by decide +kernel) rfl rfl (Nat.le_of_ble_eq_true rfl) (Nat.le_of_ble_eq_true rfl) ((by rw [hQ]; simp only [d_even, mrow_self]))
set_option maxHeartbeats 4000000 in
set_option maxRecDepth 3000 in
theorem lp_d_owing_37_4 (z : Zp) (d : Nat) (M : Mem) (Q : Rs → Prop) (nf : Nat) (hnf : nf ≤ 6) (hf : M.1 3 3 = nI nf) (hX : G z mX1_owing (d) 0 0 39 [none, some (.int (d_owing_4 (M.1 38) nf)), none] [] M Q) : G z mX1_owing (d) 0 0 4 [some (.ref 37), some (.int (nI 0)), some (.int (nI 0))] [] M Q := by
  refine down (n := nf) (P := fun i2 => G z mX1_owing (d) 0 0 4 [some (.ref 37), some (.int (d_owing_4 (M.1 38) i2)), some (.int (nI i2))] [] M Q) ?_ ?_ 0 (Nat.zero_le _)
  · skip
    refine G.sl [(.iload_n 2, 1, 2, 0, 0, 0), (.aload_n 0, 1, 0, 0, 0, 0), (.getfield 18, 3, 1, 2, 79, 0), (.getfield 78, 3, 6, 3, 34, 0)] [] (pc2 := 12) (ls2 := [some (.ref 37), some (.int (d_owing_4 (M.1 38) nf)), some (.int (nI nf))]) (st2 := [.int (M.1 3 3), .int (nI nf)]) (M2 := M) (Ps := []) (by decide +kernel) rfl rfl trivial ?_
    rw [hf]
    refine G.ic_ge (off := (27)) (tgt := 39) (by decide +kernel) rfl (fun _ => ?_) (fun h9 => absurd (nI_le (by omega) (by omega)) h9)
    refine G.loc (ls2 := [none, some (.int (d_owing_4 (M.1 38) nf)), none]) (by simp [subL]) ?_
    exact hX
  · skip
    intro i2 hi ih
    show G z mX1_owing (d) 0 0 4 [some (.ref 37), some (.int (d_owing_4 (M.1 38) i2)), some (.int (nI i2))] [] M Q
    refine G.sl [(.iload_n 2, 1, 2, 0, 0, 0), (.aload_n 0, 1, 0, 0, 0, 0), (.getfield 18, 3, 1, 2, 79, 0), (.getfield 78, 3, 6, 3, 34, 0)] [] (pc2 := 12) (ls2 := [some (.ref 37), some (.int (d_owing_4 (M.1 38) i2)), some (.int (nI i2))]) (st2 := [.int (M.1 3 3), .int (nI i2)]) (M2 := M) (Ps := []) (by decide +kernel) rfl rfl trivial ?_
    rw [hf]
    refine G.ic_ge (off := (27)) (tgt := 39) (by decide +kernel) rfl (fun h9 => absurd h9 (nI_ge (by omega) (by omega))) (fun _ => ?_)
    refine G.sl [(.aload_n 0, 1, 0, 0, 0, 0), (.getfield 9, 3, 1, 0, 73, 0), (.bipush 7, 2, 0, 0, 0, nI 7), (.iload_n 2, 1, 2, 0, 0, 0), (.iadd, 1, 0, 0, 0, 0), (.iaload, 1, 0, 0, 0, 0)] [7 + i2] (pc2 := 24) (ls2 := [some (.ref 37), some (.int (d_owing_4 (M.1 38) i2)), some (.int (nI i2))]) (st2 := [.int (M.1 38 (7 + i2))]) (M2 := M) (Ps := [((nI 7) + (nI i2)) = nI (7 + i2) ∧ (7 + i2) < 51]) (by decide +kernel) rfl rfl ⟨⟨(nI_add _ _), (by omega)⟩, trivial⟩ ?_
    refine G.if_le (off := (9)) (tgt := 33) (by decide +kernel) rfl (fun c1 => ?_) (fun c1 => ?_)
    · skip
      refine G.sl [(.iinc 2 1, 3, 2, 0, 0, nI 1), (.goto (-32), 3, 4, 0, 0, 0)] [] (pc2 := 4) (ls2 := [some (.ref 37), some (.int (d_owing_4 (M.1 38) i2)), some (.int ((nI i2) + nI 1))]) (st2 := []) (M2 := M) (Ps := []) (by decide +kernel) rfl rfl trivial ?_
      rw [nI_add i2 1]
      simp only [d_owing_4, if_pos c1] at ih
      exact ih
    · skip
      refine G.sl [(.iload_n 1, 1, 1, 0, 0, 0), (.iconst 1, 1, 0, 0, 0, nI 1), (.iload_n 2, 1, 2, 0, 0, 0), (.ishl, 1, 0, 0, 0, 0), (.ior, 1, 0, 0, 0, 0), (.istore_n 1, 1, 1, 0, 0, 0), (.iinc 2 1, 3, 2, 0, 0, nI 1), (.goto (-32), 3, 4, 0, 0, 0)] [] (pc2 := 4) (ls2 := [some (.ref 37), some (.int ((d_owing_4 (M.1 38) i2) ||| ((nI 1) <<< ((nI i2) &&& 31)))), some (.int ((nI i2) + nI 1))]) (st2 := []) (M2 := M) (Ps := []) (by decide +kernel) rfl rfl trivial ?_
      rw [nI_add i2 1]
      simp only [d_owing_4, if_neg c1] at ih
      exact ih
set_option maxHeartbeats 4000000 in
set_option maxRecDepth 3000 in
theorem c_d_owing_37 (z : Zp) (d : Nat) (M : Mem) (nf : Nat) (hnf : nf ≤ 6) (hf : M.1 3 3 = nI nf) : GM z mX1_owing (d) [.ref 37] M (fun rs => rs = .inl (some (.int (d_owing (M.1 38) nf)), M)) := by
  refine GM.of oX1_owing.1 (Nat.le_of_ble_eq_true rfl) ?_
  show G z mX1_owing (d) 0 0 0 [some (.ref 37), none, none] [] M _
  obtain ⟨Q, hQ⟩ : ∃ Q : Rs → Prop, Q = (fun rs => rs = .inl (some (.int (d_owing (M.1 38) nf)), M)) := ⟨_, rfl⟩
  rw [← hQ]
  refine G.sl [(.iconst 0, 1, 0, 0, 0, nI 0), (.istore_n 1, 1, 1, 0, 0, 0), (.iconst 0, 1, 0, 0, 0, nI 0), (.istore_n 2, 1, 2, 0, 0, 0)] [] (pc2 := 4) (ls2 := [some (.ref 37), some (.int (nI 0)), some (.int (nI 0))]) (st2 := []) (M2 := M) (Ps := []) (by decide +kernel) rfl rfl trivial ?_
  refine lp_d_owing_37_4 z d M Q nf hnf hf ?_
  show G z mX1_owing (d) 0 0 39 [none, some (.int (d_owing_4 (M.1 38) nf)), none] [] M Q
  refine G.sl [(.iload_n 1, 1, 1, 0, 0, 0)] [] (pc2 := 40) (ls2 := [none, some (.int (d_owing_4 (M.1 38) nf)), none]) (st2 := [.int (d_owing_4 (M.1 38) nf)]) (M2 := M) (Ps := []) (by decide +kernel) rfl rfl trivial ?_
  exact G.reti (by decide +kernel) rfl rfl (Nat.le_of_ble_eq_true rfl) (Nat.le_of_ble_eq_true rfl) ((by rw [hQ]; simp only [d_owing, mrow_self]))
set_option maxHeartbeats 4000000 in
set_option maxRecDepth 3000 in
theorem c_d_lyingWorth_37 (z : Zp) (d : Nat) (M : Mem) (nt : Nat) (hnt : nt ≤ 10) (ht : M.1 3 2 = nI nt) : GM z mX1_lyingWorth (d + 1) [.ref 37] M (fun rs => rs = .inl (some (.int (d_lyingWorth (M.1 7) (M.1 38) nt)), M)) := by
  refine GM.of oX1_lyingWorth.1 (Nat.le_of_ble_eq_true rfl) ?_
  show G z mX1_lyingWorth (d + 1) 0 0 0 [some (.ref 37)] [] M _
  obtain ⟨Q, hQ⟩ : ∃ Q : Rs → Prop, Q = (fun rs => rs = .inl (some (.int (d_lyingWorth (M.1 7) (M.1 38) nt)), M)) := ⟨_, rfl⟩
  rw [← hQ]
  refine G.sl [(.aload_n 0, 1, 0, 0, 0, 0), (.getfield 18, 3, 1, 2, 79, 0), (.aload_n 0, 1, 0, 0, 0, 0), (.iconst (-1), 1, 0, 0, 0, (-1))] [] (pc2 := 6) (ls2 := [some (.ref 37)]) (st2 := [.int ((-1)), .ref 37, .ref 3]) (M2 := M) (Ps := []) (by decide +kernel) rfl rfl trivial ?_
  have t2 : GM z mX1_heldBy (d) [.ref 37, .int ((-1))] M (fun rs => rs = .inl (some (.int (d_heldBy (M.1 38) nt ((-1)))), M)) := by
    have q9 := c_d_heldBy_37 z d M ((-1)) nt hnt ht
    try simp only [mput, mrow_same, mrow_hit, mrow_miss, mrow_sw, idr_eq, ne_eq, Nat.reduceEqDiff, not_false_eq_true, Nat.reduceLT, reduceCtorEq] at q9
    exact q9
  refine G.callV (as := [.int ((-1))]) (rest := [.ref 3]) (a := 37) oX1_heldBy lk_EvenFinders_Days_94 (by decide +kernel) rfl rfl ⟨rfl, rfl⟩ (Nat.le_of_ble_eq_true rfl) rfl ⟨Nat.le_of_ble_eq_true rfl, Nat.le_of_ble_eq_true rfl⟩ t2 (fun v9 N9 h3 => ?_) (fun E9 N9 h3 => by cases h3)
  cases h3
  show G z mX1_lyingWorth (d + 1) 0 0 9 [some (.ref 37)] [.int (d_heldBy (M.1 38) nt ((-1))), .ref 3] M Q
  have t5 : GM z mX7_worthOf (d) [.ref 3, .int (d_heldBy (M.1 38) nt ((-1)))] M (fun rs => rs = .inl (some (.int (v_worthOf (M.1 7) nt (d_heldBy (M.1 38) nt ((-1))))), M)) := by
    have q9 := c_v_worthOf_3 z d M (d_heldBy (M.1 38) nt ((-1))) nt hnt ht
    try simp only [mput, mrow_same, mrow_hit, mrow_miss, mrow_sw, idr_eq, ne_eq, Nat.reduceEqDiff, not_false_eq_true, Nat.reduceLT, reduceCtorEq] at q9
    exact q9
  refine G.callV (as := [.int (d_heldBy (M.1 38) nt ((-1)))]) (rest := []) (a := 3) oX7_worthOf lk_EvenFinders_Days_109 (by decide +kernel) rfl rfl ⟨rfl, rfl⟩ (Nat.le_of_ble_eq_true rfl) rfl ⟨Nat.le_of_ble_eq_true rfl, Nat.le_of_ble_eq_true rfl⟩ t5 (fun v9 N9 h6 => ?_) (fun E9 N9 h6 => by cases h6)
  cases h6
  show G z mX1_lyingWorth (d + 1) 0 0 12 [some (.ref 37)] [.int (v_worthOf (M.1 7) nt (d_heldBy (M.1 38) nt ((-1))))] M Q
  exact G.reti (by decide +kernel) rfl rfl (Nat.le_of_ble_eq_true rfl) (Nat.le_of_ble_eq_true rfl) ((by rw [hQ]; simp only [d_lyingWorth, mrow_self]))
set_option maxHeartbeats 4000000 in
set_option maxRecDepth 3000 in
theorem lp_d_shames_37_4 (z : Zp) (d : Nat) (M : Mem) (Q : Rs → Prop) (nf : Nat) (hnf : nf ≤ 6) (hf : M.1 3 3 = nI nf) (hX : G z mX1_shames (d) 0 0 33 [none, some (.int (d_shames_4 (M.1 38) nf)), none] [] M Q) : G z mX1_shames (d) 0 0 4 [some (.ref 37), some (.int (nI 0)), some (.int (nI 0))] [] M Q := by
  refine down (n := nf) (P := fun i2 => G z mX1_shames (d) 0 0 4 [some (.ref 37), some (.int (d_shames_4 (M.1 38) i2)), some (.int (nI i2))] [] M Q) ?_ ?_ 0 (Nat.zero_le _)
  · skip
    refine G.sl [(.iload_n 2, 1, 2, 0, 0, 0), (.aload_n 0, 1, 0, 0, 0, 0), (.getfield 18, 3, 1, 2, 79, 0), (.getfield 78, 3, 6, 3, 34, 0)] [] (pc2 := 12) (ls2 := [some (.ref 37), some (.int (d_shames_4 (M.1 38) nf)), some (.int (nI nf))]) (st2 := [.int (M.1 3 3), .int (nI nf)]) (M2 := M) (Ps := []) (by decide +kernel) rfl rfl trivial ?_
    rw [hf]
    refine G.ic_ge (off := (21)) (tgt := 33) (by decide +kernel) rfl (fun _ => ?_) (fun h9 => absurd (nI_le (by omega) (by omega)) h9)
    refine G.loc (ls2 := [none, some (.int (d_shames_4 (M.1 38) nf)), none]) (by simp [subL]) ?_
    exact hX
  · skip
    intro i2 hi ih
    show G z mX1_shames (d) 0 0 4 [some (.ref 37), some (.int (d_shames_4 (M.1 38) i2)), some (.int (nI i2))] [] M Q
    refine G.sl [(.iload_n 2, 1, 2, 0, 0, 0), (.aload_n 0, 1, 0, 0, 0, 0), (.getfield 18, 3, 1, 2, 79, 0), (.getfield 78, 3, 6, 3, 34, 0)] [] (pc2 := 12) (ls2 := [some (.ref 37), some (.int (d_shames_4 (M.1 38) i2)), some (.int (nI i2))]) (st2 := [.int (M.1 3 3), .int (nI i2)]) (M2 := M) (Ps := []) (by decide +kernel) rfl rfl trivial ?_
    rw [hf]
    refine G.ic_ge (off := (21)) (tgt := 33) (by decide +kernel) rfl (fun h9 => absurd h9 (nI_ge (by omega) (by omega))) (fun _ => ?_)
    refine G.sl [(.iload_n 1, 1, 1, 0, 0, 0), (.aload_n 0, 1, 0, 0, 0, 0), (.getfield 9, 3, 1, 0, 73, 0), (.bipush 25, 2, 0, 0, 0, nI 25), (.iload_n 2, 1, 2, 0, 0, 0), (.iadd, 1, 0, 0, 0, 0), (.iaload, 1, 0, 0, 0, 0), (.iadd, 1, 0, 0, 0, 0), (.istore_n 1, 1, 1, 0, 0, 0), (.iinc 2 1, 3, 2, 0, 0, nI 1), (.goto (-26), 3, 4, 0, 0, 0)] [25 + i2] (pc2 := 4) (ls2 := [some (.ref 37), some (.int ((d_shames_4 (M.1 38) i2) + (M.1 38 (25 + i2)))), some (.int ((nI i2) + nI 1))]) (st2 := []) (M2 := M) (Ps := [((nI 25) + (nI i2)) = nI (25 + i2) ∧ (25 + i2) < 51]) (by decide +kernel) rfl rfl ⟨⟨(nI_add _ _), (by omega)⟩, trivial⟩ ?_
    rw [nI_add i2 1]
    simp only [d_shames_4] at ih
    exact ih
set_option maxHeartbeats 4000000 in
set_option maxRecDepth 3000 in
theorem c_d_shames_37 (z : Zp) (d : Nat) (M : Mem) (nf : Nat) (hnf : nf ≤ 6) (hf : M.1 3 3 = nI nf) : GM z mX1_shames (d) [.ref 37] M (fun rs => rs = .inl (some (.int (d_shames (M.1 38) nf)), M)) := by
  refine GM.of oX1_shames.1 (Nat.le_of_ble_eq_true rfl) ?_
  show G z mX1_shames (d) 0 0 0 [some (.ref 37), none, none] [] M _
  obtain ⟨Q, hQ⟩ : ∃ Q : Rs → Prop, Q = (fun rs => rs = .inl (some (.int (d_shames (M.1 38) nf)), M)) := ⟨_, rfl⟩
  rw [← hQ]
  refine G.sl [(.iconst 0, 1, 0, 0, 0, nI 0), (.istore_n 1, 1, 1, 0, 0, 0), (.iconst 0, 1, 0, 0, 0, nI 0), (.istore_n 2, 1, 2, 0, 0, 0)] [] (pc2 := 4) (ls2 := [some (.ref 37), some (.int (nI 0)), some (.int (nI 0))]) (st2 := []) (M2 := M) (Ps := []) (by decide +kernel) rfl rfl trivial ?_
  refine lp_d_shames_37_4 z d M Q nf hnf hf ?_
  show G z mX1_shames (d) 0 0 33 [none, some (.int (d_shames_4 (M.1 38) nf)), none] [] M Q
  refine G.sl [(.iload_n 1, 1, 1, 0, 0, 0)] [] (pc2 := 34) (ls2 := [none, some (.int (d_shames_4 (M.1 38) nf)), none]) (st2 := [.int (d_shames_4 (M.1 38) nf)]) (M2 := M) (Ps := []) (by decide +kernel) rfl rfl trivial ?_
  exact G.reti (by decide +kernel) rfl rfl (Nat.le_of_ble_eq_true rfl) (Nat.le_of_ble_eq_true rfl) ((by rw [hQ]; simp only [d_shames, mrow_self]))
set_option maxHeartbeats 4000000 in
set_option maxRecDepth 3000 in
theorem c_e_told_0 (z : Zp) (d : Nat) (M : Mem) (x1 : Int32) (np : Nat) (hnp : np ≤ 8) (hp : M.1 3 0 = nI np) (nr : Nat) (hnr : nr ≤ 12) (hr : M.1 3 1 = nI nr) (nt : Nat) (hnt : nt ≤ 10) (ht : M.1 3 2 = nI nt) (nf : Nat) (hnf : nf ≤ 6) (hf : M.1 3 3 = nI nf) : GM z mX11_told (d + 7) [.ref 0, .int x1] M (fun rs => rs = e_told M np nr nt nf x1) := by
  refine GM.of oX11_told.1 (Nat.le_of_ble_eq_true rfl) ?_
  show G z mX11_told (d + 7) 0 0 0 [some (.ref 0), some (.int x1)] [] M _
  obtain ⟨Q, hQ⟩ : ∃ Q : Rs → Prop, Q = (fun rs => rs = e_told M np nr nt nf x1) := ⟨_, rfl⟩
  rw [← hQ]
  refine G.sl [(.aload_n 0, 1, 0, 0, 0, 0), (.iload_n 1, 1, 1, 0, 0, 0), (.iconst 0, 1, 0, 0, 0, nI 0), (.bipush 11, 2, 0, 0, 0, nI 11)] [] (pc2 := 5) (ls2 := [some (.ref 0), some (.int x1)]) (st2 := [.int (nI 11), .int (nI 0), .int x1, .ref 0]) (M2 := M) (Ps := []) (by decide +kernel) rfl rfl trivial ?_
  by_cases c1 : ¬ x1 < (nI 0) ∧ x1 ≤ (nI 11)
  · skip
    have t2 : GM z mX11_needWithin (d + 6) [.ref 0, .int x1, .int (nI 0), .int (nI 11)] M (fun rs => rs = .inl (none, M)) := e_needWithin_g z d _ x1 (nI 0) (nI 11) c1
    refine G.callV (as := [.int x1, .int (nI 0), .int (nI 11)]) (rest := []) (a := 0) oX11_needWithin lk_EvenFinders_182 (by decide +kernel) rfl rfl ⟨rfl, rfl⟩ (Nat.le_of_ble_eq_true rfl) rfl ⟨Nat.le_of_ble_eq_true rfl, Nat.le_of_ble_eq_true rfl⟩ t2 (fun v9 N9 h3 => ?_) (fun E9 N9 h3 => by cases h3)
    cases h3
    show G z mX11_told (d + 7) 1 6 8 [some (.ref 0), some (.int x1)] [] M Q
    refine G.sl [(.iload_n 1, 1, 1, 0, 0, 0)] [] (pc2 := 9) (ls2 := [some (.ref 0), some (.int x1)]) (st2 := [.int x1]) (M2 := M) (Ps := []) (by decide +kernel) rfl rfl trivial ?_
    by_cases c4 : x1 = nI 0
    · skip
      refine G.tabIn (dflt := 146) (lo := 0) (hi := 10) (offs := #[59, 67, 75, 83, 91, 101, 109, 117, 125, 133, 141]) (len := 59) (off := 59) (tgt := 68) (by decide +kernel) (by rw [c4]; decide) (by rw [c4]; decide) (by rw [c4]; rfl) rfl ?_
      refine G.sl [(.aload_n 0, 1, 0, 0, 0, 0), (.getfield 19, 3, 10, 1, 107, 0), (.getfield 163, 3, 6, 0, 17, 0)] [] (pc2 := 75) (ls2 := [some (.ref 0), some (.int x1)]) (st2 := [.int (M.1 3 0)]) (M2 := M) (Ps := []) (by decide +kernel) rfl rfl trivial ?_
      rw [hp]
      exact G.reti (by decide +kernel) rfl rfl (Nat.le_of_ble_eq_true rfl) (Nat.le_of_ble_eq_true rfl) ((by rw [hQ]; simp only [e_told, if_pos c1, if_pos c4, mrow_self]))
    · skip
      by_cases c5 : x1 = nI 1
      · skip
        refine G.tabIn (dflt := 146) (lo := 0) (hi := 10) (offs := #[59, 67, 75, 83, 91, 101, 109, 117, 125, 133, 141]) (len := 59) (off := 67) (tgt := 76) (by decide +kernel) (by rw [c5]; decide) (by rw [c5]; decide) (by rw [c5]; rfl) rfl ?_
        refine G.sl [(.aload_n 0, 1, 0, 0, 0, 0), (.getfield 19, 3, 10, 1, 107, 0), (.getfield 186, 3, 6, 1, 21, 0)] [] (pc2 := 83) (ls2 := [some (.ref 0), some (.int x1)]) (st2 := [.int (M.1 3 1)]) (M2 := M) (Ps := []) (by decide +kernel) rfl rfl trivial ?_
        rw [hr]
        exact G.reti (by decide +kernel) rfl rfl (Nat.le_of_ble_eq_true rfl) (Nat.le_of_ble_eq_true rfl) ((by rw [hQ]; simp only [e_told, if_pos c1, if_neg c4, if_pos c5, mrow_self]))
      · skip
        by_cases c6 : x1 = nI 2
        · skip
          refine G.tabIn (dflt := 146) (lo := 0) (hi := 10) (offs := #[59, 67, 75, 83, 91, 101, 109, 117, 125, 133, 141]) (len := 59) (off := 75) (tgt := 84) (by decide +kernel) (by rw [c6]; decide) (by rw [c6]; decide) (by rw [c6]; rfl) rfl ?_
          refine G.sl [(.aload_n 0, 1, 0, 0, 0, 0), (.getfield 19, 3, 10, 1, 107, 0), (.getfield 139, 3, 6, 2, 27, 0)] [] (pc2 := 91) (ls2 := [some (.ref 0), some (.int x1)]) (st2 := [.int (M.1 3 2)]) (M2 := M) (Ps := []) (by decide +kernel) rfl rfl trivial ?_
          rw [ht]
          exact G.reti (by decide +kernel) rfl rfl (Nat.le_of_ble_eq_true rfl) (Nat.le_of_ble_eq_true rfl) ((by rw [hQ]; simp only [e_told, if_pos c1, if_neg c4, if_neg c5, if_pos c6, mrow_self]))
        · skip
          by_cases c7 : x1 = nI 3
          · skip
            refine G.tabIn (dflt := 146) (lo := 0) (hi := 10) (offs := #[59, 67, 75, 83, 91, 101, 109, 117, 125, 133, 141]) (len := 59) (off := 83) (tgt := 92) (by decide +kernel) (by rw [c7]; decide) (by rw [c7]; decide) (by rw [c7]; rfl) rfl ?_
            refine G.sl [(.aload_n 0, 1, 0, 0, 0, 0), (.getfield 19, 3, 10, 1, 107, 0), (.getfield 189, 3, 6, 3, 33, 0)] [] (pc2 := 99) (ls2 := [some (.ref 0), some (.int x1)]) (st2 := [.int (M.1 3 3)]) (M2 := M) (Ps := []) (by decide +kernel) rfl rfl trivial ?_
            rw [hf]
            exact G.reti (by decide +kernel) rfl rfl (Nat.le_of_ble_eq_true rfl) (Nat.le_of_ble_eq_true rfl) ((by rw [hQ]; simp only [e_told, if_pos c1, if_neg c4, if_neg c5, if_neg c6, if_pos c7, mrow_self]))
          · skip
            by_cases c8 : x1 = nI 4
            · skip
              refine G.tabIn (dflt := 146) (lo := 0) (hi := 10) (offs := #[59, 67, 75, 83, 91, 101, 109, 117, 125, 133, 141]) (len := 59) (off := 91) (tgt := 100) (by decide +kernel) (by rw [c8]; decide) (by rw [c8]; decide) (by rw [c8]; rfl) rfl ?_
              refine G.sl [(.aload_n 0, 1, 0, 0, 0, 0), (.getfield 60, 3, 10, 8, 114, 0), (.getfield 192, 3, 1, 0, 77, 0), (.iconst 0, 1, 0, 0, 0, nI 0), (.iaload, 1, 0, 0, 0, 0)] [0] (pc2 := 109) (ls2 := [some (.ref 0), some (.int x1)]) (st2 := [.int (M.1 38 0)]) (M2 := M) (Ps := [(nI 0) = nI 0 ∧ 0 < 51]) (by decide +kernel) rfl rfl ⟨⟨rfl, (by omega)⟩, trivial⟩ ?_
              exact G.reti (by decide +kernel) rfl rfl (Nat.le_of_ble_eq_true rfl) (Nat.le_of_ble_eq_true rfl) ((by rw [hQ]; simp only [e_told, if_pos c1, if_neg c4, if_neg c5, if_neg c6, if_neg c7, if_pos c8, mrow_self]))
            · skip
              by_cases c9 : x1 = nI 5
              · skip
                refine G.tabIn (dflt := 146) (lo := 0) (hi := 10) (offs := #[59, 67, 75, 83, 91, 101, 109, 117, 125, 133, 141]) (len := 59) (off := 101) (tgt := 110) (by decide +kernel) (by rw [c9]; decide) (by rw [c9]; decide) (by rw [c9]; rfl) rfl ?_
                refine G.sl [(.aload_n 0, 1, 0, 0, 0, 0), (.getfield 60, 3, 10, 8, 114, 0)] [] (pc2 := 114) (ls2 := [some (.ref 0), some (.int x1)]) (st2 := [.ref 37]) (M2 := M) (Ps := []) (by decide +kernel) rfl rfl trivial ?_
                have t11 : GM z mX1_heldByAll (d + 6) [.ref 37] M (fun rs => rs = .inl (some (.int (d_heldByAll (M.1 38) nt)), M)) := by
                  have q9 := c_d_heldByAll_37 z (d + 5) M nt hnt ht
                  try simp only [mput, mrow_same, mrow_hit, mrow_miss, mrow_sw, idr_eq, ne_eq, Nat.reduceEqDiff, not_false_eq_true, Nat.reduceLT, reduceCtorEq] at q9
                  exact q9
                refine G.callV (as := []) (rest := []) (a := 37) oX1_heldByAll lk_EvenFinders_196 (by decide +kernel) rfl rfl ⟨rfl, rfl⟩ (Nat.le_of_ble_eq_true rfl) rfl ⟨Nat.le_of_ble_eq_true rfl, Nat.le_of_ble_eq_true rfl⟩ t11 (fun v9 N9 h12 => ?_) (fun E9 N9 h12 => by cases h12)
                cases h12
                show G z mX11_told (d + 7) 1 6 117 [some (.ref 0), some (.int x1)] [.int (d_heldByAll (M.1 38) nt)] M Q
                exact G.reti (by decide +kernel) rfl rfl (Nat.le_of_ble_eq_true rfl) (Nat.le_of_ble_eq_true rfl) ((by rw [hQ]; simp only [e_told, if_pos c1, if_neg c4, if_neg c5, if_neg c6, if_neg c7, if_neg c8, if_pos c9, mrow_self]))
              · skip
                by_cases c13 : x1 = nI 6
                · skip
                  refine G.tabIn (dflt := 146) (lo := 0) (hi := 10) (offs := #[59, 67, 75, 83, 91, 101, 109, 117, 125, 133, 141]) (len := 59) (off := 109) (tgt := 118) (by decide +kernel) (by rw [c13]; decide) (by rw [c13]; decide) (by rw [c13]; rfl) rfl ?_
                  refine G.sl [(.aload_n 0, 1, 0, 0, 0, 0), (.getfield 60, 3, 10, 8, 114, 0)] [] (pc2 := 122) (ls2 := [some (.ref 0), some (.int x1)]) (st2 := [.ref 37]) (M2 := M) (Ps := []) (by decide +kernel) rfl rfl trivial ?_
                  have t15 : GM z mX1_even (d + 6) [.ref 37] M (fun rs => rs = .inl (some (.int (d_even (M.1 38) nf)), M)) := by
                    have q9 := c_d_even_37 z (d + 6) M nf hnf hf
                    try simp only [mput, mrow_same, mrow_hit, mrow_miss, mrow_sw, idr_eq, ne_eq, Nat.reduceEqDiff, not_false_eq_true, Nat.reduceLT, reduceCtorEq] at q9
                    exact q9
                  refine G.callV (as := []) (rest := []) (a := 37) oX1_even lk_EvenFinders_200 (by decide +kernel) rfl rfl ⟨rfl, rfl⟩ (Nat.le_of_ble_eq_true rfl) rfl ⟨Nat.le_of_ble_eq_true rfl, Nat.le_of_ble_eq_true rfl⟩ t15 (fun v9 N9 h16 => ?_) (fun E9 N9 h16 => by cases h16)
                  cases h16
                  show G z mX11_told (d + 7) 1 6 125 [some (.ref 0), some (.int x1)] [.int (d_even (M.1 38) nf)] M Q
                  exact G.reti (by decide +kernel) rfl rfl (Nat.le_of_ble_eq_true rfl) (Nat.le_of_ble_eq_true rfl) ((by rw [hQ]; simp only [e_told, if_pos c1, if_neg c4, if_neg c5, if_neg c6, if_neg c7, if_neg c8, if_neg c9, if_pos c13, mrow_self]))
                · skip
                  by_cases c17 : x1 = nI 7
                  · skip
                    refine G.tabIn (dflt := 146) (lo := 0) (hi := 10) (offs := #[59, 67, 75, 83, 91, 101, 109, 117, 125, 133, 141]) (len := 59) (off := 117) (tgt := 126) (by decide +kernel) (by rw [c17]; decide) (by rw [c17]; decide) (by rw [c17]; rfl) rfl ?_
                    refine G.sl [(.aload_n 0, 1, 0, 0, 0, 0), (.getfield 60, 3, 10, 8, 114, 0)] [] (pc2 := 130) (ls2 := [some (.ref 0), some (.int x1)]) (st2 := [.ref 37]) (M2 := M) (Ps := []) (by decide +kernel) rfl rfl trivial ?_
                    have t19 : GM z mX1_owing (d + 6) [.ref 37] M (fun rs => rs = .inl (some (.int (d_owing (M.1 38) nf)), M)) := by
                      have q9 := c_d_owing_37 z (d + 6) M nf hnf hf
                      try simp only [mput, mrow_same, mrow_hit, mrow_miss, mrow_sw, idr_eq, ne_eq, Nat.reduceEqDiff, not_false_eq_true, Nat.reduceLT, reduceCtorEq] at q9
                      exact q9
                    refine G.callV (as := []) (rest := []) (a := 37) oX1_owing lk_EvenFinders_203 (by decide +kernel) rfl rfl ⟨rfl, rfl⟩ (Nat.le_of_ble_eq_true rfl) rfl ⟨Nat.le_of_ble_eq_true rfl, Nat.le_of_ble_eq_true rfl⟩ t19 (fun v9 N9 h20 => ?_) (fun E9 N9 h20 => by cases h20)
                    cases h20
                    show G z mX11_told (d + 7) 1 6 133 [some (.ref 0), some (.int x1)] [.int (d_owing (M.1 38) nf)] M Q
                    exact G.reti (by decide +kernel) rfl rfl (Nat.le_of_ble_eq_true rfl) (Nat.le_of_ble_eq_true rfl) ((by rw [hQ]; simp only [e_told, if_pos c1, if_neg c4, if_neg c5, if_neg c6, if_neg c7, if_neg c8, if_neg c9, if_neg c13, if_pos c17, mrow_self]))
                  · skip
                    by_cases c21 : x1 = nI 8
                    · skip
                      refine G.tabIn (dflt := 146) (lo := 0) (hi := 10) (offs := #[59, 67, 75, 83, 91, 101, 109, 117, 125, 133, 141]) (len := 59) (off := 125) (tgt := 134) (by decide +kernel) (by rw [c21]; decide) (by rw [c21]; decide) (by rw [c21]; rfl) rfl ?_
                      refine G.sl [(.aload_n 0, 1, 0, 0, 0, 0), (.getfield 60, 3, 10, 8, 114, 0)] [] (pc2 := 138) (ls2 := [some (.ref 0), some (.int x1)]) (st2 := [.ref 37]) (M2 := M) (Ps := []) (by decide +kernel) rfl rfl trivial ?_
                      have t23 : GM z mX1_lyingWorth (d + 6) [.ref 37] M (fun rs => rs = .inl (some (.int (d_lyingWorth (M.1 7) (M.1 38) nt)), M)) := by
                        have q9 := c_d_lyingWorth_37 z (d + 5) M nt hnt ht
                        try simp only [mput, mrow_same, mrow_hit, mrow_miss, mrow_sw, idr_eq, ne_eq, Nat.reduceEqDiff, not_false_eq_true, Nat.reduceLT, reduceCtorEq] at q9
                        exact q9
                      refine G.callV (as := []) (rest := []) (a := 37) oX1_lyingWorth lk_EvenFinders_206 (by decide +kernel) rfl rfl ⟨rfl, rfl⟩ (Nat.le_of_ble_eq_true rfl) rfl ⟨Nat.le_of_ble_eq_true rfl, Nat.le_of_ble_eq_true rfl⟩ t23 (fun v9 N9 h24 => ?_) (fun E9 N9 h24 => by cases h24)
                      cases h24
                      show G z mX11_told (d + 7) 1 6 141 [some (.ref 0), some (.int x1)] [.int (d_lyingWorth (M.1 7) (M.1 38) nt)] M Q
                      exact G.reti (by decide +kernel) rfl rfl (Nat.le_of_ble_eq_true rfl) (Nat.le_of_ble_eq_true rfl) ((by rw [hQ]; simp only [e_told, if_pos c1, if_neg c4, if_neg c5, if_neg c6, if_neg c7, if_neg c8, if_neg c9, if_neg c13, if_neg c17, if_pos c21, mrow_self]))
                    · skip
                      by_cases c25 : x1 = nI 9
                      · skip
                        refine G.tabIn (dflt := 146) (lo := 0) (hi := 10) (offs := #[59, 67, 75, 83, 91, 101, 109, 117, 125, 133, 141]) (len := 59) (off := 133) (tgt := 142) (by decide +kernel) (by rw [c25]; decide) (by rw [c25]; decide) (by rw [c25]; rfl) rfl ?_
                        refine G.sl [(.aload_n 0, 1, 0, 0, 0, 0), (.getfield 39, 3, 10, 5, 111, 0), (.getfield 172, 3, 0, 0, 60, 0)] [] (pc2 := 149) (ls2 := [some (.ref 0), some (.int x1)]) (st2 := [.int (M.1 29 0)]) (M2 := M) (Ps := []) (by decide +kernel) rfl rfl trivial ?_
                        exact G.reti (by decide +kernel) rfl rfl (Nat.le_of_ble_eq_true rfl) (Nat.le_of_ble_eq_true rfl) ((by rw [hQ]; simp only [e_told, if_pos c1, if_neg c4, if_neg c5, if_neg c6, if_neg c7, if_neg c8, if_neg c9, if_neg c13, if_neg c17, if_neg c21, if_pos c25, mrow_self]))
                      · skip
                        by_cases c26 : x1 = nI 10
                        · skip
                          refine G.tabIn (dflt := 146) (lo := 0) (hi := 10) (offs := #[59, 67, 75, 83, 91, 101, 109, 117, 125, 133, 141]) (len := 59) (off := 141) (tgt := 150) (by decide +kernel) (by rw [c26]; decide) (by rw [c26]; decide) (by rw [c26]; rfl) rfl ?_
                          refine G.sl [(.aload_n 0, 1, 0, 0, 0, 0), (.getfield 136, 3, 10, 14, 120, 0)] [] (pc2 := 154) (ls2 := [some (.ref 0), some (.int x1)]) (st2 := [.int (M.1 0 14)]) (M2 := M) (Ps := []) (by decide +kernel) rfl rfl trivial ?_
                          exact G.reti (by decide +kernel) rfl rfl (Nat.le_of_ble_eq_true rfl) (Nat.le_of_ble_eq_true rfl) ((by rw [hQ]; simp only [e_told, if_pos c1, if_neg c4, if_neg c5, if_neg c6, if_neg c7, if_neg c8, if_neg c9, if_neg c13, if_neg c17, if_neg c21, if_neg c25, if_pos c26, mrow_self]))
                        · skip
                          refine G.tabOut (dflt := 146) (lo := 0) (hi := 10) (offs := #[59, 67, 75, 83, 91, 101, 109, 117, 125, 133, 141]) (len := 59) (tgt := 155) (by decide +kernel) (by have q0 := toInt_ne c4; simp only [toInt_nI0] at q0; have q1 := toInt_ne c5; simp only [toInt_nI1] at q1; have q2 := toInt_ne c6; simp only [toInt_nI2] at q2; have q3 := toInt_ne c7; simp only [toInt_nI3] at q3; have q4 := toInt_ne c8; simp only [toInt_nI4] at q4; have q5 := toInt_ne c9; simp only [toInt_nI5] at q5; have q6 := toInt_ne c13; simp only [toInt_nI6] at q6; have q7 := toInt_ne c17; simp only [toInt_nI7] at q7; have q8 := toInt_ne c21; simp only [toInt_nI8] at q8; have q9 := toInt_ne c25; simp only [toInt_nI9] at q9; have q10 := toInt_ne c26; simp only [toInt_nI10] at q10; omega) rfl ?_
                          refine G.sl [(.aload_n 0, 1, 0, 0, 0, 0), (.getfield 60, 3, 10, 8, 114, 0)] [] (pc2 := 159) (ls2 := [some (.ref 0), some (.int x1)]) (st2 := [.ref 37]) (M2 := M) (Ps := []) (by decide +kernel) rfl rfl trivial ?_
                          have t28 : GM z mX1_shames (d + 6) [.ref 37] M (fun rs => rs = .inl (some (.int (d_shames (M.1 38) nf)), M)) := by
                            have q9 := c_d_shames_37 z (d + 6) M nf hnf hf
                            try simp only [mput, mrow_same, mrow_hit, mrow_miss, mrow_sw, idr_eq, ne_eq, Nat.reduceEqDiff, not_false_eq_true, Nat.reduceLT, reduceCtorEq] at q9
                            exact q9
                          refine G.callV (as := []) (rest := []) (a := 37) oX1_shames lk_EvenFinders_209 (by decide +kernel) rfl rfl ⟨rfl, rfl⟩ (Nat.le_of_ble_eq_true rfl) rfl ⟨Nat.le_of_ble_eq_true rfl, Nat.le_of_ble_eq_true rfl⟩ t28 (fun v9 N9 h29 => ?_) (fun E9 N9 h29 => by cases h29)
                          cases h29
                          show G z mX11_told (d + 7) 1 6 162 [some (.ref 0), some (.int x1)] [.int (d_shames (M.1 38) nf)] M Q
                          exact G.reti (by decide +kernel) rfl rfl (Nat.le_of_ble_eq_true rfl) (Nat.le_of_ble_eq_true rfl) ((by rw [hQ]; simp only [e_told, if_pos c1, if_neg c4, if_neg c5, if_neg c6, if_neg c7, if_neg c8, if_neg c9, if_neg c13, if_neg c17, if_neg c21, if_neg c25, if_neg c26, mrow_self]))
  · skip
    have t30 : GM z mX11_needWithin (d + 6) [.ref 0, .int x1, .int (nI 0), .int (nI 11)] M (fun rs => rs = .inr ("java/lang/IllegalArgumentException", mrow M 0 (upd (M.1 0) 16 ((M.1 0 16) + nI 1)))) := e_needWithin_b z d _ x1 (nI 0) (nI 11) c1
    refine G.callV (as := [.int x1, .int (nI 0), .int (nI 11)]) (rest := []) (a := 0) oX11_needWithin lk_EvenFinders_182 (by decide +kernel) rfl rfl ⟨rfl, rfl⟩ (Nat.le_of_ble_eq_true rfl) rfl ⟨Nat.le_of_ble_eq_true rfl, Nat.le_of_ble_eq_true rfl⟩ t30 (fun v9 N9 h9 => by cases h9) (fun E9 N9 h9 => ?_)
    cases h9
    rw [hQ]
    simp only [e_told, if_neg c1]
set_option maxHeartbeats 4000000 in
set_option maxRecDepth 3000 in
theorem lp_v_roadsAt_3_4 (z : Zp) (d : Nat) (M : Mem) (Q : Rs → Prop) (x1 : Int32) (nr : Nat) (hnr : nr ≤ 12) (hr : M.1 3 1 = nI nr) (hX : G z mX7_roadsAt (d + 1) 0 0 31 [none, none, some (.int (v_roadsAt_4 (M.1 4) (M.1 5) x1 nr)), none] [] M Q) : G z mX7_roadsAt (d + 1) 0 0 4 [some (.ref 3), some (.int x1), some (.int (nI 0)), some (.int (nI 0))] [] M Q := by
  refine down (n := nr) (P := fun i3 => G z mX7_roadsAt (d + 1) 0 0 4 [some (.ref 3), some (.int x1), some (.int (v_roadsAt_4 (M.1 4) (M.1 5) x1 i3)), some (.int (nI i3))] [] M Q) ?_ ?_ 0 (Nat.zero_le _)
  · skip
    refine G.sl [(.iload_n 3, 1, 3, 0, 0, 0), (.aload_n 0, 1, 0, 0, 0, 0), (.getfield 40, 3, 6, 1, 18, 0)] [] (pc2 := 9) (ls2 := [some (.ref 3), some (.int x1), some (.int (v_roadsAt_4 (M.1 4) (M.1 5) x1 nr)), some (.int (nI nr))]) (st2 := [.int (M.1 3 1), .int (nI nr)]) (M2 := M) (Ps := []) (by decide +kernel) rfl rfl trivial ?_
    rw [hr]
    refine G.ic_ge (off := (22)) (tgt := 31) (by decide +kernel) rfl (fun _ => ?_) (fun h9 => absurd (nI_le (by omega) (by omega)) h9)
    refine G.loc (ls2 := [none, none, some (.int (v_roadsAt_4 (M.1 4) (M.1 5) x1 nr)), none]) (by simp [subL]) ?_
    exact hX
  · skip
    intro i3 hi ih
    show G z mX7_roadsAt (d + 1) 0 0 4 [some (.ref 3), some (.int x1), some (.int (v_roadsAt_4 (M.1 4) (M.1 5) x1 i3)), some (.int (nI i3))] [] M Q
    refine G.sl [(.iload_n 3, 1, 3, 0, 0, 0), (.aload_n 0, 1, 0, 0, 0, 0), (.getfield 40, 3, 6, 1, 18, 0)] [] (pc2 := 9) (ls2 := [some (.ref 3), some (.int x1), some (.int (v_roadsAt_4 (M.1 4) (M.1 5) x1 i3)), some (.int (nI i3))]) (st2 := [.int (M.1 3 1), .int (nI i3)]) (M2 := M) (Ps := []) (by decide +kernel) rfl rfl trivial ?_
    rw [hr]
    refine G.ic_ge (off := (22)) (tgt := 31) (by decide +kernel) rfl (fun h9 => absurd h9 (nI_ge (by omega) (by omega))) (fun _ => ?_)
    refine G.sl [(.aload_n 0, 1, 0, 0, 0, 0), (.iload_n 3, 1, 3, 0, 0, 0), (.iload_n 1, 1, 1, 0, 0, 0)] [] (pc2 := 15) (ls2 := [some (.ref 3), some (.int x1), some (.int (v_roadsAt_4 (M.1 4) (M.1 5) x1 i3)), some (.int (nI i3))]) (st2 := [.int x1, .int (nI i3), .ref 3]) (M2 := M) (Ps := []) (by decide +kernel) rfl rfl trivial ?_
    have t2 : GM z mX7_otherEnd (d) [.ref 3, .int (nI i3), .int x1] M (fun rs => rs = .inl (some (.int (v_otherEnd (M.1 4) (M.1 5) i3 x1)), M)) := by
      have q9 := c_v_otherEnd_3 z d M i3 x1 (by omega)
      try simp only [mput, mrow_same, mrow_hit, mrow_miss, mrow_sw, idr_eq, ne_eq, Nat.reduceEqDiff, not_false_eq_true, Nat.reduceLT, reduceCtorEq] at q9
      exact q9
    refine G.callV (as := [.int (nI i3), .int x1]) (rest := []) (a := 3) oX7_otherEnd lk_EvenFinders_Town_126 (by decide +kernel) rfl rfl ⟨rfl, rfl⟩ (Nat.le_of_ble_eq_true rfl) rfl ⟨Nat.le_of_ble_eq_true rfl, Nat.le_of_ble_eq_true rfl⟩ t2 (fun v9 N9 h3 => ?_) (fun E9 N9 h3 => by cases h3)
    cases h3
    show G z mX7_roadsAt (d + 1) 0 0 18 [some (.ref 3), some (.int x1), some (.int (v_roadsAt_4 (M.1 4) (M.1 5) x1 i3)), some (.int (nI i3))] [.int (v_otherEnd (M.1 4) (M.1 5) i3 x1)] M Q
    refine G.sl [(.iconst (-1), 1, 0, 0, 0, (-1))] [] (pc2 := 19) (ls2 := [some (.ref 3), some (.int x1), some (.int (v_roadsAt_4 (M.1 4) (M.1 5) x1 i3)), some (.int (nI i3))]) (st2 := [.int ((-1)), .int (v_otherEnd (M.1 4) (M.1 5) i3 x1)]) (M2 := M) (Ps := []) (by decide +kernel) rfl rfl trivial ?_
    refine G.ic_eq (off := (6)) (tgt := 25) (by decide +kernel) rfl (fun c4 => ?_) (fun c4 => ?_)
    · skip
      refine G.sl [(.iinc 3 1, 3, 3, 0, 0, nI 1), (.goto (-24), 3, 4, 0, 0, 0)] [] (pc2 := 4) (ls2 := [some (.ref 3), some (.int x1), some (.int (v_roadsAt_4 (M.1 4) (M.1 5) x1 i3)), some (.int ((nI i3) + nI 1))]) (st2 := []) (M2 := M) (Ps := []) (by decide +kernel) rfl rfl trivial ?_
      rw [nI_add i3 1]
      simp only [v_roadsAt_4, if_pos c4] at ih
      exact ih
    · skip
      refine G.sl [(.iinc 2 1, 3, 2, 0, 0, nI 1), (.iinc 3 1, 3, 3, 0, 0, nI 1), (.goto (-24), 3, 4, 0, 0, 0)] [] (pc2 := 4) (ls2 := [some (.ref 3), some (.int x1), some (.int ((v_roadsAt_4 (M.1 4) (M.1 5) x1 i3) + nI 1)), some (.int ((nI i3) + nI 1))]) (st2 := []) (M2 := M) (Ps := []) (by decide +kernel) rfl rfl trivial ?_
      rw [nI_add i3 1]
      simp only [v_roadsAt_4, if_neg c4] at ih
      exact ih
set_option maxHeartbeats 4000000 in
set_option maxRecDepth 3000 in
theorem c_v_roadsAt_3 (z : Zp) (d : Nat) (M : Mem) (x1 : Int32) (nr : Nat) (hnr : nr ≤ 12) (hr : M.1 3 1 = nI nr) : GM z mX7_roadsAt (d + 1) [.ref 3, .int x1] M (fun rs => rs = .inl (some (.int (v_roadsAt (M.1 4) (M.1 5) nr x1)), M)) := by
  refine GM.of oX7_roadsAt.1 (Nat.le_of_ble_eq_true rfl) ?_
  show G z mX7_roadsAt (d + 1) 0 0 0 [some (.ref 3), some (.int x1), none, none] [] M _
  obtain ⟨Q, hQ⟩ : ∃ Q : Rs → Prop, Q = (fun rs => rs = .inl (some (.int (v_roadsAt (M.1 4) (M.1 5) nr x1)), M)) := ⟨_, rfl⟩
  rw [← hQ]
  refine G.sl [(.iconst 0, 1, 0, 0, 0, nI 0), (.istore_n 2, 1, 2, 0, 0, 0), (.iconst 0, 1, 0, 0, 0, nI 0), (.istore_n 3, 1, 3, 0, 0, 0)] [] (pc2 := 4) (ls2 := [some (.ref 3), some (.int x1), some (.int (nI 0)), some (.int (nI 0))]) (st2 := []) (M2 := M) (Ps := []) (by decide +kernel) rfl rfl trivial ?_
  refine lp_v_roadsAt_3_4 z d M Q x1 nr hnr hr ?_
  show G z mX7_roadsAt (d + 1) 0 0 31 [none, none, some (.int (v_roadsAt_4 (M.1 4) (M.1 5) x1 nr)), none] [] M Q
  refine G.sl [(.iload_n 2, 1, 2, 0, 0, 0)] [] (pc2 := 32) (ls2 := [none, none, some (.int (v_roadsAt_4 (M.1 4) (M.1 5) x1 nr)), none]) (st2 := [.int (v_roadsAt_4 (M.1 4) (M.1 5) x1 nr)]) (M2 := M) (Ps := []) (by decide +kernel) rfl rfl trivial ?_
  exact G.reti (by decide +kernel) rfl rfl (Nat.le_of_ble_eq_true rfl) (Nat.le_of_ble_eq_true rfl) ((by rw [hQ]; simp only [v_roadsAt, mrow_self]))
set_option maxHeartbeats 4000000 in
set_option maxRecDepth 3000 in
theorem c_e_place_0 (z : Zp) (d : Nat) (M : Mem) (x1 : Int32) (x2 : Int32) (np : Nat) (hnp : np ≤ 8) (hp : M.1 3 0 = nI np) (nr : Nat) (hnr : nr ≤ 12) (hr : M.1 3 1 = nI nr) (nt : Nat) (hnt : nt ≤ 10) (ht : M.1 3 2 = nI nt) (nf : Nat) (hnf : nf ≤ 6) (hf : M.1 3 3 = nI nf) : GM z mX11_place (d + 8) [.ref 0, .int x1, .int x2] M (fun rs => rs = e_place M np nr nt nf x1 x2) := by
  refine GM.of oX11_place.1 (Nat.le_of_ble_eq_true rfl) ?_
  show G z mX11_place (d + 8) 0 0 0 [some (.ref 0), some (.int x1), some (.int x2)] [] M _
  obtain ⟨Q, hQ⟩ : ∃ Q : Rs → Prop, Q = (fun rs => rs = e_place M np nr nt nf x1 x2) := ⟨_, rfl⟩
  rw [← hQ]
  refine G.sl [(.aload_n 0, 1, 0, 0, 0, 0), (.iload_n 1, 1, 1, 0, 0, 0)] [] (pc2 := 2) (ls2 := [some (.ref 0), some (.int x1), some (.int x2)]) (st2 := [.int x1, .ref 0]) (M2 := M) (Ps := []) (by decide +kernel) rfl rfl trivial ?_
  by_cases c1 : ¬ x1 < 0 ∧ x1 < nI np
  · skip
    have t2 : GM z mX11_needPlace (d + 7) [.ref 0, .int x1] M (fun rs => rs = .inl (none, M)) := e_needPlace_g z d _ x1 np hp c1
    refine G.callV (as := [.int x1]) (rest := []) (a := 0) oX11_needPlace lk_EvenFinders_212 (by decide +kernel) rfl rfl ⟨rfl, rfl⟩ (Nat.le_of_ble_eq_true rfl) rfl ⟨Nat.le_of_ble_eq_true rfl, Nat.le_of_ble_eq_true rfl⟩ t2 (fun v9 N9 h3 => ?_) (fun E9 N9 h3 => by cases h3)
    cases h3
    show G z mX11_place (d + 8) 1 6 5 [some (.ref 0), some (.int x1), some (.int x2)] [] M Q
    refine G.sl [(.aload_n 0, 1, 0, 0, 0, 0), (.iload_n 2, 1, 2, 0, 0, 0), (.iconst 0, 1, 0, 0, 0, nI 0), (.iconst 3, 1, 0, 0, 0, nI 3)] [] (pc2 := 9) (ls2 := [some (.ref 0), some (.int x1), some (.int x2)]) (st2 := [.int (nI 3), .int (nI 0), .int x2, .ref 0]) (M2 := M) (Ps := []) (by decide +kernel) rfl rfl trivial ?_
    by_cases c4 : ¬ x2 < (nI 0) ∧ x2 ≤ (nI 3)
    · skip
      have t5 : GM z mX11_needWithin (d + 7) [.ref 0, .int x2, .int (nI 0), .int (nI 3)] M (fun rs => rs = .inl (none, M)) := e_needWithin_g z (d + 1) _ x2 (nI 0) (nI 3) c4
      refine G.callV (as := [.int x2, .int (nI 0), .int (nI 3)]) (rest := []) (a := 0) oX11_needWithin lk_EvenFinders_182 (by decide +kernel) rfl rfl ⟨rfl, rfl⟩ (Nat.le_of_ble_eq_true rfl) rfl ⟨Nat.le_of_ble_eq_true rfl, Nat.le_of_ble_eq_true rfl⟩ t5 (fun v9 N9 h6 => ?_) (fun E9 N9 h6 => by cases h6)
      cases h6
      show G z mX11_place (d + 8) 2 12 12 [some (.ref 0), some (.int x1), some (.int x2)] [] M Q
      refine G.sl [(.iload_n 2, 1, 2, 0, 0, 0)] [] (pc2 := 13) (ls2 := [some (.ref 0), some (.int x1), some (.int x2)]) (st2 := [.int x2]) (M2 := M) (Ps := []) (by decide +kernel) rfl rfl trivial ?_
      by_cases c7 : x2 = nI 0
      · skip
        refine G.tabIn (dflt := 61) (lo := 0) (hi := 2) (offs := #[27, 36, 52]) (len := 27) (off := 27) (tgt := 40) (by decide +kernel) (by rw [c7]; decide) (by rw [c7]; decide) (by rw [c7]; rfl) rfl ?_
        refine G.sl [(.aload_n 0, 1, 0, 0, 0, 0), (.getfield 60, 3, 10, 8, 114, 0), (.iload_n 1, 1, 1, 0, 0, 0)] [] (pc2 := 45) (ls2 := [some (.ref 0), some (.int x1), some (.int x2)]) (st2 := [.int x1, .ref 37]) (M2 := M) (Ps := []) (by decide +kernel) rfl rfl trivial ?_
        have t9 : GM z mX1_lyingAt (d + 7) [.ref 37, .int x1] M (fun rs => rs = .inl (some (.int (d_lyingAt (M.1 38) nt x1)), M)) := by
          have q9 := c_d_lyingAt_37 z (d + 7) M x1 nt hnt ht
          try simp only [mput, mrow_same, mrow_hit, mrow_miss, mrow_sw, idr_eq, ne_eq, Nat.reduceEqDiff, not_false_eq_true, Nat.reduceLT, reduceCtorEq] at q9
          exact q9
        refine G.callV (as := [.int x1]) (rest := []) (a := 37) oX1_lyingAt lk_EvenFinders_215 (by decide +kernel) rfl rfl ⟨rfl, rfl⟩ (Nat.le_of_ble_eq_true rfl) rfl ⟨Nat.le_of_ble_eq_true rfl, Nat.le_of_ble_eq_true rfl⟩ t9 (fun v9 N9 h10 => ?_) (fun E9 N9 h10 => by cases h10)
        cases h10
        show G z mX11_place (d + 8) 2 12 48 [some (.ref 0), some (.int x1), some (.int x2)] [.int (d_lyingAt (M.1 38) nt x1)] M Q
        exact G.reti (by decide +kernel) rfl rfl (Nat.le_of_ble_eq_true rfl) (Nat.le_of_ble_eq_true rfl) ((by rw [hQ]; simp only [e_place, if_pos c1, if_pos c4, if_pos c7, mrow_self]))
      · skip
        by_cases c11 : x2 = nI 1
        · skip
          refine G.tabIn (dflt := 61) (lo := 0) (hi := 2) (offs := #[27, 36, 52]) (len := 27) (off := 36) (tgt := 49) (by decide +kernel) (by rw [c11]; decide) (by rw [c11]; decide) (by rw [c11]; rfl) rfl ?_
          refine G.sl [(.aload_n 0, 1, 0, 0, 0, 0), (.getfield 19, 3, 10, 1, 107, 0), (.aload_n 0, 1, 0, 0, 0, 0), (.getfield 60, 3, 10, 8, 114, 0), (.iload_n 1, 1, 1, 0, 0, 0)] [] (pc2 := 58) (ls2 := [some (.ref 0), some (.int x1), some (.int x2)]) (st2 := [.int x1, .ref 37, .ref 3]) (M2 := M) (Ps := []) (by decide +kernel) rfl rfl trivial ?_
          have t13 : GM z mX1_lyingAt (d + 7) [.ref 37, .int x1] M (fun rs => rs = .inl (some (.int (d_lyingAt (M.1 38) nt x1)), M)) := by
            have q9 := c_d_lyingAt_37 z (d + 7) M x1 nt hnt ht
            try simp only [mput, mrow_same, mrow_hit, mrow_miss, mrow_sw, idr_eq, ne_eq, Nat.reduceEqDiff, not_false_eq_true, Nat.reduceLT, reduceCtorEq] at q9
            exact q9
          refine G.callV (as := [.int x1]) (rest := [.ref 3]) (a := 37) oX1_lyingAt lk_EvenFinders_215 (by decide +kernel) rfl rfl ⟨rfl, rfl⟩ (Nat.le_of_ble_eq_true rfl) rfl ⟨Nat.le_of_ble_eq_true rfl, Nat.le_of_ble_eq_true rfl⟩ t13 (fun v9 N9 h14 => ?_) (fun E9 N9 h14 => by cases h14)
          cases h14
          show G z mX11_place (d + 8) 2 12 61 [some (.ref 0), some (.int x1), some (.int x2)] [.int (d_lyingAt (M.1 38) nt x1), .ref 3] M Q
          have t16 : GM z mX7_worthOf (d + 7) [.ref 3, .int (d_lyingAt (M.1 38) nt x1)] M (fun rs => rs = .inl (some (.int (v_worthOf (M.1 7) nt (d_lyingAt (M.1 38) nt x1))), M)) := by
            have q9 := c_v_worthOf_3 z (d + 7) M (d_lyingAt (M.1 38) nt x1) nt hnt ht
            try simp only [mput, mrow_same, mrow_hit, mrow_miss, mrow_sw, idr_eq, ne_eq, Nat.reduceEqDiff, not_false_eq_true, Nat.reduceLT, reduceCtorEq] at q9
            exact q9
          refine G.callV (as := [.int (d_lyingAt (M.1 38) nt x1)]) (rest := []) (a := 3) oX7_worthOf lk_EvenFinders_219 (by decide +kernel) rfl rfl ⟨rfl, rfl⟩ (Nat.le_of_ble_eq_true rfl) rfl ⟨Nat.le_of_ble_eq_true rfl, Nat.le_of_ble_eq_true rfl⟩ t16 (fun v9 N9 h17 => ?_) (fun E9 N9 h17 => by cases h17)
          cases h17
          show G z mX11_place (d + 8) 2 12 64 [some (.ref 0), some (.int x1), some (.int x2)] [.int (v_worthOf (M.1 7) nt (d_lyingAt (M.1 38) nt x1))] M Q
          exact G.reti (by decide +kernel) rfl rfl (Nat.le_of_ble_eq_true rfl) (Nat.le_of_ble_eq_true rfl) ((by rw [hQ]; simp only [e_place, if_pos c1, if_pos c4, if_neg c7, if_pos c11, mrow_self]))
        · skip
          by_cases c18 : x2 = nI 2
          · skip
            refine G.tabIn (dflt := 61) (lo := 0) (hi := 2) (offs := #[27, 36, 52]) (len := 27) (off := 52) (tgt := 65) (by decide +kernel) (by rw [c18]; decide) (by rw [c18]; decide) (by rw [c18]; rfl) rfl ?_
            refine G.sl [(.aload_n 0, 1, 0, 0, 0, 0), (.getfield 60, 3, 10, 8, 114, 0), (.iload_n 1, 1, 1, 0, 0, 0)] [] (pc2 := 70) (ls2 := [some (.ref 0), some (.int x1), some (.int x2)]) (st2 := [.int x1, .ref 37]) (M2 := M) (Ps := []) (by decide +kernel) rfl rfl trivial ?_
            have t20 : GM z mX1_findersAt (d + 7) [.ref 37, .int x1] M (fun rs => rs = .inl (some (.int (d_findersAt (M.1 38) nf x1)), M)) := by
              have q9 := c_d_findersAt_37 z (d + 7) M x1 nf hnf hf
              try simp only [mput, mrow_same, mrow_hit, mrow_miss, mrow_sw, idr_eq, ne_eq, Nat.reduceEqDiff, not_false_eq_true, Nat.reduceLT, reduceCtorEq] at q9
              exact q9
            refine G.callV (as := [.int x1]) (rest := []) (a := 37) oX1_findersAt lk_EvenFinders_222 (by decide +kernel) rfl rfl ⟨rfl, rfl⟩ (Nat.le_of_ble_eq_true rfl) rfl ⟨Nat.le_of_ble_eq_true rfl, Nat.le_of_ble_eq_true rfl⟩ t20 (fun v9 N9 h21 => ?_) (fun E9 N9 h21 => by cases h21)
            cases h21
            show G z mX11_place (d + 8) 2 12 73 [some (.ref 0), some (.int x1), some (.int x2)] [.int (d_findersAt (M.1 38) nf x1)] M Q
            exact G.reti (by decide +kernel) rfl rfl (Nat.le_of_ble_eq_true rfl) (Nat.le_of_ble_eq_true rfl) ((by rw [hQ]; simp only [e_place, if_pos c1, if_pos c4, if_neg c7, if_neg c11, if_pos c18, mrow_self]))
          · skip
            refine G.tabOut (dflt := 61) (lo := 0) (hi := 2) (offs := #[27, 36, 52]) (len := 27) (tgt := 74) (by decide +kernel) (by have q0 := toInt_ne c7; simp only [toInt_nI0] at q0; have q1 := toInt_ne c11; simp only [toInt_nI1] at q1; have q2 := toInt_ne c18; simp only [toInt_nI2] at q2; omega) rfl ?_
            refine G.sl [(.aload_n 0, 1, 0, 0, 0, 0), (.getfield 19, 3, 10, 1, 107, 0), (.iload_n 1, 1, 1, 0, 0, 0)] [] (pc2 := 79) (ls2 := [some (.ref 0), some (.int x1), some (.int x2)]) (st2 := [.int x1, .ref 3]) (M2 := M) (Ps := []) (by decide +kernel) rfl rfl trivial ?_
            have t23 : GM z mX7_roadsAt (d + 7) [.ref 3, .int x1] M (fun rs => rs = .inl (some (.int (v_roadsAt (M.1 4) (M.1 5) nr x1)), M)) := by
              have q9 := c_v_roadsAt_3 z (d + 6) M x1 nr hnr hr
              try simp only [mput, mrow_same, mrow_hit, mrow_miss, mrow_sw, idr_eq, ne_eq, Nat.reduceEqDiff, not_false_eq_true, Nat.reduceLT, reduceCtorEq] at q9
              exact q9
            refine G.callV (as := [.int x1]) (rest := []) (a := 3) oX7_roadsAt lk_EvenFinders_225 (by decide +kernel) rfl rfl ⟨rfl, rfl⟩ (Nat.le_of_ble_eq_true rfl) rfl ⟨Nat.le_of_ble_eq_true rfl, Nat.le_of_ble_eq_true rfl⟩ t23 (fun v9 N9 h24 => ?_) (fun E9 N9 h24 => by cases h24)
            cases h24
            show G z mX11_place (d + 8) 2 12 82 [some (.ref 0), some (.int x1), some (.int x2)] [.int (v_roadsAt (M.1 4) (M.1 5) nr x1)] M Q
            exact G.reti (by decide +kernel) rfl rfl (Nat.le_of_ble_eq_true rfl) (Nat.le_of_ble_eq_true rfl) ((by rw [hQ]; simp only [e_place, if_pos c1, if_pos c4, if_neg c7, if_neg c11, if_neg c18, mrow_self]))
    · skip
      have t25 : GM z mX11_needWithin (d + 7) [.ref 0, .int x2, .int (nI 0), .int (nI 3)] M (fun rs => rs = .inr ("java/lang/IllegalArgumentException", mrow M 0 (upd (M.1 0) 16 ((M.1 0 16) + nI 1)))) := e_needWithin_b z (d + 1) _ x2 (nI 0) (nI 3) c4
      refine G.callV (as := [.int x2, .int (nI 0), .int (nI 3)]) (rest := []) (a := 0) oX11_needWithin lk_EvenFinders_182 (by decide +kernel) rfl rfl ⟨rfl, rfl⟩ (Nat.le_of_ble_eq_true rfl) rfl ⟨Nat.le_of_ble_eq_true rfl, Nat.le_of_ble_eq_true rfl⟩ t25 (fun v9 N9 h9 => by cases h9) (fun E9 N9 h9 => ?_)
      cases h9
      rw [hQ]
      simp only [e_place, if_pos c1, if_neg c4]
  · skip
    have t26 : GM z mX11_needPlace (d + 7) [.ref 0, .int x1] M (fun rs => rs = .inr ("java/util/NoSuchElementException", mrow M 0 (upd (M.1 0) 15 ((M.1 0 15) + nI 1)))) := e_needPlace_b z d _ x1 np hp c1
    refine G.callV (as := [.int x1]) (rest := []) (a := 0) oX11_needPlace lk_EvenFinders_212 (by decide +kernel) rfl rfl ⟨rfl, rfl⟩ (Nat.le_of_ble_eq_true rfl) rfl ⟨Nat.le_of_ble_eq_true rfl, Nat.le_of_ble_eq_true rfl⟩ t26 (fun v9 N9 h9 => by cases h9) (fun E9 N9 h9 => ?_)
    cases h9
    rw [hQ]
    simp only [e_place, if_neg c1]
set_option maxHeartbeats 4000000 in
set_option maxRecDepth 3000 in
theorem c_e_road_0 (z : Zp) (d : Nat) (M : Mem) (x1 : Int32) (x2 : Int32) (nr : Nat) (hnr : nr ≤ 12) (hr : M.1 3 1 = nI nr) (hk : e_road_ok M nr x1 x2) : GM z mX11_road (d + 7) [.ref 0, .int x1, .int x2] M (fun rs => rs = e_road M nr x1 x2) := by
  simp only [e_road_ok] at hk
  refine GM.of oX11_road.1 (Nat.le_of_ble_eq_true rfl) ?_
  show G z mX11_road (d + 7) 0 0 0 [some (.ref 0), some (.int x1), some (.int x2)] [] M _
  obtain ⟨Q, hQ⟩ : ∃ Q : Rs → Prop, Q = (fun rs => rs = e_road M nr x1 x2) := ⟨_, rfl⟩
  rw [← hQ]
  refine G.sl [(.aload_n 0, 1, 0, 0, 0, 0), (.iload_n 1, 1, 1, 0, 0, 0), (.aload_n 0, 1, 0, 0, 0, 0), (.getfield 19, 3, 10, 1, 107, 0), (.getfield 186, 3, 6, 1, 21, 0)] [] (pc2 := 9) (ls2 := [some (.ref 0), some (.int x1), some (.int x2)]) (st2 := [.int (M.1 3 1), .int x1, .ref 0]) (M2 := M) (Ps := []) (by decide +kernel) rfl rfl trivial ?_
  rw [hr]
  by_cases c1 : ¬ x1 < 0 ∧ x1 < (nI nr)
  · skip
    rw [if_pos c1] at hk
    have t2 : GM z mX11_need (d + 6) [.ref 0, .int x1, .int (nI nr)] M (fun rs => rs = .inl (none, M)) := e_need_g z d _ x1 (nI nr) c1
    refine G.callV (as := [.int x1, .int (nI nr)]) (rest := []) (a := 0) oX11_need lk_EvenFinders_228 (by decide +kernel) rfl rfl ⟨rfl, rfl⟩ (Nat.le_of_ble_eq_true rfl) rfl ⟨Nat.le_of_ble_eq_true rfl, Nat.le_of_ble_eq_true rfl⟩ t2 (fun v9 N9 h3 => ?_) (fun E9 N9 h3 => by cases h3)
    cases h3
    show G z mX11_road (d + 7) 1 6 12 [some (.ref 0), some (.int x1), some (.int x2)] [] M Q
    refine G.sl [(.aload_n 0, 1, 0, 0, 0, 0), (.iload_n 2, 1, 2, 0, 0, 0), (.iconst 0, 1, 0, 0, 0, nI 0), (.iconst 2, 1, 0, 0, 0, nI 2)] [] (pc2 := 16) (ls2 := [some (.ref 0), some (.int x1), some (.int x2)]) (st2 := [.int (nI 2), .int (nI 0), .int x2, .ref 0]) (M2 := M) (Ps := []) (by decide +kernel) rfl rfl trivial ?_
    by_cases c4 : ¬ x2 < (nI 0) ∧ x2 ≤ (nI 2)
    · skip
      rw [if_pos c4] at hk
      have t5 : GM z mX11_needWithin (d + 6) [.ref 0, .int x2, .int (nI 0), .int (nI 2)] M (fun rs => rs = .inl (none, M)) := e_needWithin_g z d _ x2 (nI 0) (nI 2) c4
      refine G.callV (as := [.int x2, .int (nI 0), .int (nI 2)]) (rest := []) (a := 0) oX11_needWithin lk_EvenFinders_182 (by decide +kernel) rfl rfl ⟨rfl, rfl⟩ (Nat.le_of_ble_eq_true rfl) rfl ⟨Nat.le_of_ble_eq_true rfl, Nat.le_of_ble_eq_true rfl⟩ t5 (fun v9 N9 h6 => ?_) (fun E9 N9 h6 => by cases h6)
      cases h6
      show G z mX11_road (d + 7) 2 12 19 [some (.ref 0), some (.int x1), some (.int x2)] [] M Q
      refine G.sl [(.iload_n 2, 1, 2, 0, 0, 0)] [] (pc2 := 20) (ls2 := [some (.ref 0), some (.int x1), some (.int x2)]) (st2 := [.int x2]) (M2 := M) (Ps := []) (by decide +kernel) rfl rfl trivial ?_
      by_cases c7 : x2 = nI 0
      · skip
        rw [if_pos c7] at hk
        refine G.look (dflt := 48) (ps := #[(0, 28), (1, 38)]) (len := 28) (off := 28) (tgt := 48) (by decide +kernel) (by decide +kernel) (by rw [c7]; decide +kernel) rfl ?_
        obtain ⟨k8, k9, hk⟩ := hk
        refine G.sl [(.aload_n 0, 1, 0, 0, 0, 0), (.getfield 19, 3, 10, 1, 107, 0), (.getfield 231, 3, 6, 4, 36, 0), (.iload_n 1, 1, 1, 0, 0, 0), (.iaload, 1, 0, 0, 0, 0)] [ix x1] (pc2 := 57) (ls2 := [some (.ref 0), some (.int x1), some (.int x2)]) (st2 := [.int (M.1 4 (ix x1))]) (M2 := M) (Ps := [x1 = nI (ix x1) ∧ (ix x1) < 12]) (by decide +kernel) rfl rfl ⟨⟨(ixE k8), k9⟩, trivial⟩ ?_
        exact G.reti (by decide +kernel) rfl rfl (Nat.le_of_ble_eq_true rfl) (Nat.le_of_ble_eq_true rfl) ((by rw [hQ]; simp only [e_road, if_pos c1, if_pos c4, if_pos c7, mrow_self]))
      · skip
        rw [if_neg c7] at hk
        by_cases c10 : x2 = nI 1
        · skip
          rw [if_pos c10] at hk
          refine G.look (dflt := 48) (ps := #[(0, 28), (1, 38)]) (len := 28) (off := 38) (tgt := 58) (by decide +kernel) (by decide +kernel) (by rw [c10]; decide +kernel) rfl ?_
          obtain ⟨k11, k12, hk⟩ := hk
          refine G.sl [(.aload_n 0, 1, 0, 0, 0, 0), (.getfield 19, 3, 10, 1, 107, 0), (.getfield 234, 3, 6, 5, 38, 0), (.iload_n 1, 1, 1, 0, 0, 0), (.iaload, 1, 0, 0, 0, 0)] [ix x1] (pc2 := 67) (ls2 := [some (.ref 0), some (.int x1), some (.int x2)]) (st2 := [.int (M.1 5 (ix x1))]) (M2 := M) (Ps := [x1 = nI (ix x1) ∧ (ix x1) < 12]) (by decide +kernel) rfl rfl ⟨⟨(ixE k11), k12⟩, trivial⟩ ?_
          exact G.reti (by decide +kernel) rfl rfl (Nat.le_of_ble_eq_true rfl) (Nat.le_of_ble_eq_true rfl) ((by rw [hQ]; simp only [e_road, if_pos c1, if_pos c4, if_neg c7, if_pos c10, mrow_self]))
        · skip
          rw [if_neg c10] at hk
          refine G.look (dflt := 48) (ps := #[(0, 28), (1, 38)]) (len := 28) (off := 48) (tgt := 68) (by decide +kernel) (by decide +kernel) (by show Op.lookupswitch.offset [(0, 28), (1, 38)] 48 _ = _; rw [lv_osw (a := 0) c7 (by decide)]; rw [lv_osw (a := 1) c10 (by decide)]; rfl) rfl ?_
          obtain ⟨k13, k14, hk⟩ := hk
          refine G.sl [(.aload_n 0, 1, 0, 0, 0, 0), (.getfield 19, 3, 10, 1, 107, 0), (.getfield 237, 3, 6, 6, 41, 0), (.iload_n 1, 1, 1, 0, 0, 0), (.iaload, 1, 0, 0, 0, 0)] [ix x1] (pc2 := 77) (ls2 := [some (.ref 0), some (.int x1), some (.int x2)]) (st2 := [.int (M.1 6 (ix x1))]) (M2 := M) (Ps := [x1 = nI (ix x1) ∧ (ix x1) < 12]) (by decide +kernel) rfl rfl ⟨⟨(ixE k13), k14⟩, trivial⟩ ?_
          exact G.reti (by decide +kernel) rfl rfl (Nat.le_of_ble_eq_true rfl) (Nat.le_of_ble_eq_true rfl) ((by rw [hQ]; simp only [e_road, if_pos c1, if_pos c4, if_neg c7, if_neg c10, mrow_self]))
    · skip
      rw [if_neg c4] at hk
      have t15 : GM z mX11_needWithin (d + 6) [.ref 0, .int x2, .int (nI 0), .int (nI 2)] M (fun rs => rs = .inr ("java/lang/IllegalArgumentException", mrow M 0 (upd (M.1 0) 16 ((M.1 0 16) + nI 1)))) := e_needWithin_b z d _ x2 (nI 0) (nI 2) c4
      refine G.callV (as := [.int x2, .int (nI 0), .int (nI 2)]) (rest := []) (a := 0) oX11_needWithin lk_EvenFinders_182 (by decide +kernel) rfl rfl ⟨rfl, rfl⟩ (Nat.le_of_ble_eq_true rfl) rfl ⟨Nat.le_of_ble_eq_true rfl, Nat.le_of_ble_eq_true rfl⟩ t15 (fun v9 N9 h9 => by cases h9) (fun E9 N9 h9 => ?_)
      cases h9
      rw [hQ]
      simp only [e_road, if_pos c1, if_neg c4]
  · skip
    rw [if_neg c1] at hk
    have t16 : GM z mX11_need (d + 6) [.ref 0, .int x1, .int (nI nr)] M (fun rs => rs = .inr ("java/util/NoSuchElementException", mrow M 0 (upd (M.1 0) 15 ((M.1 0 15) + nI 1)))) := e_need_b z d _ x1 (nI nr) c1
    refine G.callV (as := [.int x1, .int (nI nr)]) (rest := []) (a := 0) oX11_need lk_EvenFinders_228 (by decide +kernel) rfl rfl ⟨rfl, rfl⟩ (Nat.le_of_ble_eq_true rfl) rfl ⟨Nat.le_of_ble_eq_true rfl, Nat.le_of_ble_eq_true rfl⟩ t16 (fun v9 N9 h9 => by cases h9) (fun E9 N9 h9 => ?_)
    cases h9
    rw [hQ]
    simp only [e_road, if_neg c1]
set_option maxHeartbeats 4000000 in
set_option maxRecDepth 3000 in
theorem c_e_thing_0 (z : Zp) (d : Nat) (M : Mem) (x1 : Int32) (x2 : Int32) (nt : Nat) (hnt : nt ≤ 10) (ht : M.1 3 2 = nI nt) (hk : e_thing_ok M nt x1 x2) : GM z mX11_thing (d + 8) [.ref 0, .int x1, .int x2] M (fun rs => rs = e_thing M nt x1 x2) := by
  simp only [e_thing_ok] at hk
  refine GM.of oX11_thing.1 (Nat.le_of_ble_eq_true rfl) ?_
  show G z mX11_thing (d + 8) 0 0 0 [some (.ref 0), some (.int x1), some (.int x2)] [] M _
  obtain ⟨Q, hQ⟩ : ∃ Q : Rs → Prop, Q = (fun rs => rs = e_thing M nt x1 x2) := ⟨_, rfl⟩
  rw [← hQ]
  refine G.sl [(.aload_n 0, 1, 0, 0, 0, 0), (.iload_n 1, 1, 1, 0, 0, 0)] [] (pc2 := 2) (ls2 := [some (.ref 0), some (.int x1), some (.int x2)]) (st2 := [.int x1, .ref 0]) (M2 := M) (Ps := []) (by decide +kernel) rfl rfl trivial ?_
  by_cases c1 : ¬ x1 < 0 ∧ x1 < nI nt
  · skip
    rw [if_pos c1] at hk
    have t2 : GM z mX11_needThing (d + 7) [.ref 0, .int x1] M (fun rs => rs = .inl (none, M)) := e_needThing_g z d _ x1 nt ht c1
    refine G.callV (as := [.int x1]) (rest := []) (a := 0) oX11_needThing lk_EvenFinders_240 (by decide +kernel) rfl rfl ⟨rfl, rfl⟩ (Nat.le_of_ble_eq_true rfl) rfl ⟨Nat.le_of_ble_eq_true rfl, Nat.le_of_ble_eq_true rfl⟩ t2 (fun v9 N9 h3 => ?_) (fun E9 N9 h3 => by cases h3)
    cases h3
    show G z mX11_thing (d + 8) 1 6 5 [some (.ref 0), some (.int x1), some (.int x2)] [] M Q
    refine G.sl [(.aload_n 0, 1, 0, 0, 0, 0), (.iload_n 2, 1, 2, 0, 0, 0), (.iconst 0, 1, 0, 0, 0, nI 0), (.iconst 2, 1, 0, 0, 0, nI 2)] [] (pc2 := 9) (ls2 := [some (.ref 0), some (.int x1), some (.int x2)]) (st2 := [.int (nI 2), .int (nI 0), .int x2, .ref 0]) (M2 := M) (Ps := []) (by decide +kernel) rfl rfl trivial ?_
    by_cases c4 : ¬ x2 < (nI 0) ∧ x2 ≤ (nI 2)
    · skip
      rw [if_pos c4] at hk
      have t5 : GM z mX11_needWithin (d + 7) [.ref 0, .int x2, .int (nI 0), .int (nI 2)] M (fun rs => rs = .inl (none, M)) := e_needWithin_g z (d + 1) _ x2 (nI 0) (nI 2) c4
      refine G.callV (as := [.int x2, .int (nI 0), .int (nI 2)]) (rest := []) (a := 0) oX11_needWithin lk_EvenFinders_182 (by decide +kernel) rfl rfl ⟨rfl, rfl⟩ (Nat.le_of_ble_eq_true rfl) rfl ⟨Nat.le_of_ble_eq_true rfl, Nat.le_of_ble_eq_true rfl⟩ t5 (fun v9 N9 h6 => ?_) (fun E9 N9 h6 => by cases h6)
      cases h6
      show G z mX11_thing (d + 8) 2 12 12 [some (.ref 0), some (.int x1), some (.int x2)] [] M Q
      refine G.sl [(.iload_n 2, 1, 2, 0, 0, 0)] [] (pc2 := 13) (ls2 := [some (.ref 0), some (.int x1), some (.int x2)]) (st2 := [.int x2]) (M2 := M) (Ps := []) (by decide +kernel) rfl rfl trivial ?_
      by_cases c7 : x2 = nI 0
      · skip
        rw [if_pos c7] at hk
        refine G.look (dflt := 46) (ps := #[(0, 27), (1, 37)]) (len := 27) (off := 27) (tgt := 40) (by decide +kernel) (by decide +kernel) (by rw [c7]; decide +kernel) rfl ?_
        obtain ⟨k8, k9, hk⟩ := hk
        refine G.sl [(.aload_n 0, 1, 0, 0, 0, 0), (.getfield 19, 3, 10, 1, 107, 0), (.getfield 243, 3, 6, 7, 45, 0), (.iload_n 1, 1, 1, 0, 0, 0), (.iaload, 1, 0, 0, 0, 0)] [ix x1] (pc2 := 49) (ls2 := [some (.ref 0), some (.int x1), some (.int x2)]) (st2 := [.int (M.1 7 (ix x1))]) (M2 := M) (Ps := [x1 = nI (ix x1) ∧ (ix x1) < 10]) (by decide +kernel) rfl rfl ⟨⟨(ixE k8), k9⟩, trivial⟩ ?_
        exact G.reti (by decide +kernel) rfl rfl (Nat.le_of_ble_eq_true rfl) (Nat.le_of_ble_eq_true rfl) ((by rw [hQ]; simp only [e_thing, if_pos c1, if_pos c4, if_pos c7, mrow_self]))
      · skip
        rw [if_neg c7] at hk
        by_cases c10 : x2 = nI 1
        · skip
          rw [if_pos c10] at hk
          refine G.look (dflt := 46) (ps := #[(0, 27), (1, 37)]) (len := 27) (off := 37) (tgt := 50) (by decide +kernel) (by decide +kernel) (by rw [c10]; decide +kernel) rfl ?_
          refine G.sl [(.aload_n 0, 1, 0, 0, 0, 0), (.getfield 60, 3, 10, 8, 114, 0), (.iload_n 1, 1, 1, 0, 0, 0)] [] (pc2 := 55) (ls2 := [some (.ref 0), some (.int x1), some (.int x2)]) (st2 := [.int x1, .ref 37]) (M2 := M) (Ps := []) (by decide +kernel) rfl rfl trivial ?_
          obtain ⟨k11, k12, hk⟩ := hk
          obtain ⟨k13, hk⟩ := hk
          refine G.eq (st' := [.int (nI (ix x1)), .ref 37]) ?_ rfl (by rw [← (show x1 = nI (ix x1) from (ixE k11))]) rfl
          have t14 : GM z mX1_placeOf (d + 7) [.ref 37, .int (nI (ix x1))] M (fun rs => rs = .inl (some (.int (d_placeOf (M.1 38) (ix x1))), M)) := by
            have q9 := c_d_placeOf_37 z (d + 7) M (ix x1) k12 k13
            try simp only [mput, mrow_same, mrow_hit, mrow_miss, mrow_sw, idr_eq, ne_eq, Nat.reduceEqDiff, not_false_eq_true, Nat.reduceLT, reduceCtorEq] at q9
            exact q9
          refine G.callV (as := [.int (nI (ix x1))]) (rest := []) (a := 37) oX1_placeOf lk_EvenFinders_246 (by decide +kernel) rfl rfl ⟨rfl, rfl⟩ (Nat.le_of_ble_eq_true rfl) rfl ⟨Nat.le_of_ble_eq_true rfl, Nat.le_of_ble_eq_true rfl⟩ t14 (fun v9 N9 h15 => ?_) (fun E9 N9 h15 => by cases h15)
          cases h15
          show G z mX11_thing (d + 8) 2 12 58 [some (.ref 0), some (.int x1), some (.int x2)] [.int (d_placeOf (M.1 38) (ix x1))] M Q
          exact G.reti (by decide +kernel) rfl rfl (Nat.le_of_ble_eq_true rfl) (Nat.le_of_ble_eq_true rfl) ((by rw [hQ]; simp only [e_thing, if_pos c1, if_pos c4, if_neg c7, if_pos c10, mrow_self]))
        · skip
          rw [if_neg c10] at hk
          refine G.look (dflt := 46) (ps := #[(0, 27), (1, 37)]) (len := 27) (off := 46) (tgt := 59) (by decide +kernel) (by decide +kernel) (by show Op.lookupswitch.offset [(0, 27), (1, 37)] 46 _ = _; rw [lv_osw (a := 0) c7 (by decide)]; rw [lv_osw (a := 1) c10 (by decide)]; rfl) rfl ?_
          obtain ⟨k16, k17, hk⟩ := hk
          refine G.sl [(.aload_n 0, 1, 0, 0, 0, 0), (.getfield 60, 3, 10, 8, 114, 0), (.getfield 192, 3, 1, 0, 77, 0), (.bipush 41, 2, 0, 0, 0, nI 41), (.iload_n 1, 1, 1, 0, 0, 0), (.iadd, 1, 0, 0, 0, 0), (.iaload, 1, 0, 0, 0, 0)] [41 + (ix x1)] (pc2 := 71) (ls2 := [some (.ref 0), some (.int x1), some (.int x2)]) (st2 := [.int (M.1 38 (41 + (ix x1)))]) (M2 := M) (Ps := [((nI 41) + x1) = nI (41 + (ix x1)) ∧ (41 + (ix x1)) < 51]) (by decide +kernel) rfl rfl ⟨⟨(nAdd rfl (ixE k16)), k17⟩, trivial⟩ ?_
          exact G.reti (by decide +kernel) rfl rfl (Nat.le_of_ble_eq_true rfl) (Nat.le_of_ble_eq_true rfl) ((by rw [hQ]; simp only [e_thing, if_pos c1, if_pos c4, if_neg c7, if_neg c10, mrow_self]))
    · skip
      rw [if_neg c4] at hk
      have t18 : GM z mX11_needWithin (d + 7) [.ref 0, .int x2, .int (nI 0), .int (nI 2)] M (fun rs => rs = .inr ("java/lang/IllegalArgumentException", mrow M 0 (upd (M.1 0) 16 ((M.1 0 16) + nI 1)))) := e_needWithin_b z (d + 1) _ x2 (nI 0) (nI 2) c4
      refine G.callV (as := [.int x2, .int (nI 0), .int (nI 2)]) (rest := []) (a := 0) oX11_needWithin lk_EvenFinders_182 (by decide +kernel) rfl rfl ⟨rfl, rfl⟩ (Nat.le_of_ble_eq_true rfl) rfl ⟨Nat.le_of_ble_eq_true rfl, Nat.le_of_ble_eq_true rfl⟩ t18 (fun v9 N9 h9 => by cases h9) (fun E9 N9 h9 => ?_)
      cases h9
      rw [hQ]
      simp only [e_thing, if_pos c1, if_neg c4]
  · skip
    rw [if_neg c1] at hk
    have t19 : GM z mX11_needThing (d + 7) [.ref 0, .int x1] M (fun rs => rs = .inr ("java/util/NoSuchElementException", mrow M 0 (upd (M.1 0) 15 ((M.1 0 15) + nI 1)))) := e_needThing_b z d _ x1 nt ht c1
    refine G.callV (as := [.int x1]) (rest := []) (a := 0) oX11_needThing lk_EvenFinders_240 (by decide +kernel) rfl rfl ⟨rfl, rfl⟩ (Nat.le_of_ble_eq_true rfl) rfl ⟨Nat.le_of_ble_eq_true rfl, Nat.le_of_ble_eq_true rfl⟩ t19 (fun v9 N9 h9 => by cases h9) (fun E9 N9 h9 => ?_)
    cases h9
    rw [hQ]
    simp only [e_thing, if_neg c1]
set_option maxHeartbeats 4000000 in
set_option maxRecDepth 3000 in
theorem c_e_finder_0 (z : Zp) (d : Nat) (M : Mem) (x1 : Int32) (x2 : Int32) (nt : Nat) (hnt : nt ≤ 10) (ht : M.1 3 2 = nI nt) (nf : Nat) (hnf : nf ≤ 6) (hf : M.1 3 3 = nI nf) (hk : e_finder_ok M nt nf x1 x2) : GM z mX11_finder (d + 8) [.ref 0, .int x1, .int x2] M (fun rs => rs = e_finder M nt nf x1 x2) := by
  simp only [e_finder_ok] at hk
  refine GM.of oX11_finder.1 (Nat.le_of_ble_eq_true rfl) ?_
  show G z mX11_finder (d + 8) 0 0 0 [some (.ref 0), some (.int x1), some (.int x2)] [] M _
  obtain ⟨Q, hQ⟩ : ∃ Q : Rs → Prop, Q = (fun rs => rs = e_finder M nt nf x1 x2) := ⟨_, rfl⟩
  rw [← hQ]
  refine G.sl [(.aload_n 0, 1, 0, 0, 0, 0), (.iload_n 1, 1, 1, 0, 0, 0)] [] (pc2 := 2) (ls2 := [some (.ref 0), some (.int x1), some (.int x2)]) (st2 := [.int x1, .ref 0]) (M2 := M) (Ps := []) (by decide +kernel) rfl rfl trivial ?_
  by_cases c1 : ¬ x1 < 0 ∧ x1 < nI nf
  · skip
    rw [if_pos c1] at hk
    have t2 : GM z mX11_needFinder (d + 7) [.ref 0, .int x1] M (fun rs => rs = .inl (none, M)) := e_needFinder_g z d _ x1 nf hf c1
    refine G.callV (as := [.int x1]) (rest := []) (a := 0) oX11_needFinder lk_EvenFinders_249 (by decide +kernel) rfl rfl ⟨rfl, rfl⟩ (Nat.le_of_ble_eq_true rfl) rfl ⟨Nat.le_of_ble_eq_true rfl, Nat.le_of_ble_eq_true rfl⟩ t2 (fun v9 N9 h3 => ?_) (fun E9 N9 h3 => by cases h3)
    cases h3
    show G z mX11_finder (d + 8) 1 6 5 [some (.ref 0), some (.int x1), some (.int x2)] [] M Q
    refine G.sl [(.aload_n 0, 1, 0, 0, 0, 0), (.iload_n 2, 1, 2, 0, 0, 0), (.iconst 0, 1, 0, 0, 0, nI 0), (.bipush 6, 2, 0, 0, 0, nI 6)] [] (pc2 := 10) (ls2 := [some (.ref 0), some (.int x1), some (.int x2)]) (st2 := [.int (nI 6), .int (nI 0), .int x2, .ref 0]) (M2 := M) (Ps := []) (by decide +kernel) rfl rfl trivial ?_
    by_cases c4 : ¬ x2 < (nI 0) ∧ x2 ≤ (nI 6)
    · skip
      rw [if_pos c4] at hk
      have t5 : GM z mX11_needWithin (d + 7) [.ref 0, .int x2, .int (nI 0), .int (nI 6)] M (fun rs => rs = .inl (none, M)) := e_needWithin_g z (d + 1) _ x2 (nI 0) (nI 6) c4
      refine G.callV (as := [.int x2, .int (nI 0), .int (nI 6)]) (rest := []) (a := 0) oX11_needWithin lk_EvenFinders_182 (by decide +kernel) rfl rfl ⟨rfl, rfl⟩ (Nat.le_of_ble_eq_true rfl) rfl ⟨Nat.le_of_ble_eq_true rfl, Nat.le_of_ble_eq_true rfl⟩ t5 (fun v9 N9 h6 => ?_) (fun E9 N9 h6 => by cases h6)
      cases h6
      show G z mX11_finder (d + 8) 2 12 13 [some (.ref 0), some (.int x1), some (.int x2)] [] M Q
      refine G.sl [(.iload_n 2, 1, 2, 0, 0, 0)] [] (pc2 := 14) (ls2 := [some (.ref 0), some (.int x1), some (.int x2)]) (st2 := [.int x2]) (M2 := M) (Ps := []) (by decide +kernel) rfl rfl trivial ?_
      by_cases c7 : x2 = nI 0
      · skip
        rw [if_pos c7] at hk
        refine G.tabIn (dflt := 114) (lo := 0) (hi := 5) (offs := #[38, 50, 63, 72, 88, 101]) (len := 38) (off := 38) (tgt := 52) (by decide +kernel) (by rw [c7]; decide) (by rw [c7]; decide) (by rw [c7]; rfl) rfl ?_
        obtain ⟨k8, k9, hk⟩ := hk
        refine G.sl [(.aload_n 0, 1, 0, 0, 0, 0), (.getfield 60, 3, 10, 8, 114, 0), (.getfield 192, 3, 1, 0, 77, 0), (.iconst 1, 1, 0, 0, 0, nI 1), (.iload_n 1, 1, 1, 0, 0, 0), (.iadd, 1, 0, 0, 0, 0), (.iaload, 1, 0, 0, 0, 0)] [1 + (ix x1)] (pc2 := 63) (ls2 := [some (.ref 0), some (.int x1), some (.int x2)]) (st2 := [.int (M.1 38 (1 + (ix x1)))]) (M2 := M) (Ps := [((nI 1) + x1) = nI (1 + (ix x1)) ∧ (1 + (ix x1)) < 51]) (by decide +kernel) rfl rfl ⟨⟨(nAdd rfl (ixE k8)), k9⟩, trivial⟩ ?_
        exact G.reti (by decide +kernel) rfl rfl (Nat.le_of_ble_eq_true rfl) (Nat.le_of_ble_eq_true rfl) ((by rw [hQ]; simp only [e_finder, if_pos c1, if_pos c4, if_pos c7, mrow_self]))
      · skip
        rw [if_neg c7] at hk
        by_cases c10 : x2 = nI 1
        · skip
          rw [if_pos c10] at hk
          refine G.tabIn (dflt := 114) (lo := 0) (hi := 5) (offs := #[38, 50, 63, 72, 88, 101]) (len := 38) (off := 50) (tgt := 64) (by decide +kernel) (by rw [c10]; decide) (by rw [c10]; decide) (by rw [c10]; rfl) rfl ?_
          obtain ⟨k11, k12, hk⟩ := hk
          refine G.sl [(.aload_n 0, 1, 0, 0, 0, 0), (.getfield 60, 3, 10, 8, 114, 0), (.getfield 192, 3, 1, 0, 77, 0), (.bipush 7, 2, 0, 0, 0, nI 7), (.iload_n 1, 1, 1, 0, 0, 0), (.iadd, 1, 0, 0, 0, 0), (.iaload, 1, 0, 0, 0, 0)] [7 + (ix x1)] (pc2 := 76) (ls2 := [some (.ref 0), some (.int x1), some (.int x2)]) (st2 := [.int (M.1 38 (7 + (ix x1)))]) (M2 := M) (Ps := [((nI 7) + x1) = nI (7 + (ix x1)) ∧ (7 + (ix x1)) < 51]) (by decide +kernel) rfl rfl ⟨⟨(nAdd rfl (ixE k11)), k12⟩, trivial⟩ ?_
          exact G.reti (by decide +kernel) rfl rfl (Nat.le_of_ble_eq_true rfl) (Nat.le_of_ble_eq_true rfl) ((by rw [hQ]; simp only [e_finder, if_pos c1, if_pos c4, if_neg c7, if_pos c10, mrow_self]))
        · skip
          rw [if_neg c10] at hk
          by_cases c13 : x2 = nI 2
          · skip
            rw [if_pos c13] at hk
            refine G.tabIn (dflt := 114) (lo := 0) (hi := 5) (offs := #[38, 50, 63, 72, 88, 101]) (len := 38) (off := 63) (tgt := 77) (by decide +kernel) (by rw [c13]; decide) (by rw [c13]; decide) (by rw [c13]; rfl) rfl ?_
            refine G.sl [(.aload_n 0, 1, 0, 0, 0, 0), (.getfield 60, 3, 10, 8, 114, 0), (.iload_n 1, 1, 1, 0, 0, 0)] [] (pc2 := 82) (ls2 := [some (.ref 0), some (.int x1), some (.int x2)]) (st2 := [.int x1, .ref 37]) (M2 := M) (Ps := []) (by decide +kernel) rfl rfl trivial ?_
            have t15 : GM z mX1_heldBy (d + 7) [.ref 37, .int x1] M (fun rs => rs = .inl (some (.int (d_heldBy (M.1 38) nt x1)), M)) := by
              have q9 := c_d_heldBy_37 z (d + 7) M x1 nt hnt ht
              try simp only [mput, mrow_same, mrow_hit, mrow_miss, mrow_sw, idr_eq, ne_eq, Nat.reduceEqDiff, not_false_eq_true, Nat.reduceLT, reduceCtorEq] at q9
              exact q9
            refine G.callV (as := [.int x1]) (rest := []) (a := 37) oX1_heldBy lk_EvenFinders_252 (by decide +kernel) rfl rfl ⟨rfl, rfl⟩ (Nat.le_of_ble_eq_true rfl) rfl ⟨Nat.le_of_ble_eq_true rfl, Nat.le_of_ble_eq_true rfl⟩ t15 (fun v9 N9 h16 => ?_) (fun E9 N9 h16 => by cases h16)
            cases h16
            show G z mX11_finder (d + 8) 2 12 85 [some (.ref 0), some (.int x1), some (.int x2)] [.int (d_heldBy (M.1 38) nt x1)] M Q
            exact G.reti (by decide +kernel) rfl rfl (Nat.le_of_ble_eq_true rfl) (Nat.le_of_ble_eq_true rfl) ((by rw [hQ]; simp only [e_finder, if_pos c1, if_pos c4, if_neg c7, if_neg c10, if_pos c13, mrow_self]))
          · skip
            rw [if_neg c13] at hk
            by_cases c17 : x2 = nI 3
            · skip
              rw [if_pos c17] at hk
              refine G.tabIn (dflt := 114) (lo := 0) (hi := 5) (offs := #[38, 50, 63, 72, 88, 101]) (len := 38) (off := 72) (tgt := 86) (by decide +kernel) (by rw [c17]; decide) (by rw [c17]; decide) (by rw [c17]; rfl) rfl ?_
              refine G.sl [(.aload_n 0, 1, 0, 0, 0, 0), (.getfield 19, 3, 10, 1, 107, 0), (.aload_n 0, 1, 0, 0, 0, 0), (.getfield 60, 3, 10, 8, 114, 0), (.iload_n 1, 1, 1, 0, 0, 0)] [] (pc2 := 95) (ls2 := [some (.ref 0), some (.int x1), some (.int x2)]) (st2 := [.int x1, .ref 37, .ref 3]) (M2 := M) (Ps := []) (by decide +kernel) rfl rfl trivial ?_
              have t19 : GM z mX1_heldBy (d + 7) [.ref 37, .int x1] M (fun rs => rs = .inl (some (.int (d_heldBy (M.1 38) nt x1)), M)) := by
                have q9 := c_d_heldBy_37 z (d + 7) M x1 nt hnt ht
                try simp only [mput, mrow_same, mrow_hit, mrow_miss, mrow_sw, idr_eq, ne_eq, Nat.reduceEqDiff, not_false_eq_true, Nat.reduceLT, reduceCtorEq] at q9
                exact q9
              refine G.callV (as := [.int x1]) (rest := [.ref 3]) (a := 37) oX1_heldBy lk_EvenFinders_252 (by decide +kernel) rfl rfl ⟨rfl, rfl⟩ (Nat.le_of_ble_eq_true rfl) rfl ⟨Nat.le_of_ble_eq_true rfl, Nat.le_of_ble_eq_true rfl⟩ t19 (fun v9 N9 h20 => ?_) (fun E9 N9 h20 => by cases h20)
              cases h20
              show G z mX11_finder (d + 8) 2 12 98 [some (.ref 0), some (.int x1), some (.int x2)] [.int (d_heldBy (M.1 38) nt x1), .ref 3] M Q
              have t22 : GM z mX7_worthOf (d + 7) [.ref 3, .int (d_heldBy (M.1 38) nt x1)] M (fun rs => rs = .inl (some (.int (v_worthOf (M.1 7) nt (d_heldBy (M.1 38) nt x1))), M)) := by
                have q9 := c_v_worthOf_3 z (d + 7) M (d_heldBy (M.1 38) nt x1) nt hnt ht
                try simp only [mput, mrow_same, mrow_hit, mrow_miss, mrow_sw, idr_eq, ne_eq, Nat.reduceEqDiff, not_false_eq_true, Nat.reduceLT, reduceCtorEq] at q9
                exact q9
              refine G.callV (as := [.int (d_heldBy (M.1 38) nt x1)]) (rest := []) (a := 3) oX7_worthOf lk_EvenFinders_219 (by decide +kernel) rfl rfl ⟨rfl, rfl⟩ (Nat.le_of_ble_eq_true rfl) rfl ⟨Nat.le_of_ble_eq_true rfl, Nat.le_of_ble_eq_true rfl⟩ t22 (fun v9 N9 h23 => ?_) (fun E9 N9 h23 => by cases h23)
              cases h23
              show G z mX11_finder (d + 8) 2 12 101 [some (.ref 0), some (.int x1), some (.int x2)] [.int (v_worthOf (M.1 7) nt (d_heldBy (M.1 38) nt x1))] M Q
              exact G.reti (by decide +kernel) rfl rfl (Nat.le_of_ble_eq_true rfl) (Nat.le_of_ble_eq_true rfl) ((by rw [hQ]; simp only [e_finder, if_pos c1, if_pos c4, if_neg c7, if_neg c10, if_neg c13, if_pos c17, mrow_self]))
            · skip
              rw [if_neg c17] at hk
              by_cases c24 : x2 = nI 4
              · skip
                rw [if_pos c24] at hk
                refine G.tabIn (dflt := 114) (lo := 0) (hi := 5) (offs := #[38, 50, 63, 72, 88, 101]) (len := 38) (off := 88) (tgt := 102) (by decide +kernel) (by rw [c24]; decide) (by rw [c24]; decide) (by rw [c24]; rfl) rfl ?_
                obtain ⟨k25, k26, hk⟩ := hk
                refine G.sl [(.aload_n 0, 1, 0, 0, 0, 0), (.getfield 60, 3, 10, 8, 114, 0), (.getfield 192, 3, 1, 0, 77, 0), (.bipush 13, 2, 0, 0, 0, nI 13), (.iload_n 1, 1, 1, 0, 0, 0), (.iadd, 1, 0, 0, 0, 0), (.iaload, 1, 0, 0, 0, 0)] [13 + (ix x1)] (pc2 := 114) (ls2 := [some (.ref 0), some (.int x1), some (.int x2)]) (st2 := [.int (M.1 38 (13 + (ix x1)))]) (M2 := M) (Ps := [((nI 13) + x1) = nI (13 + (ix x1)) ∧ (13 + (ix x1)) < 51]) (by decide +kernel) rfl rfl ⟨⟨(nAdd rfl (ixE k25)), k26⟩, trivial⟩ ?_
                exact G.reti (by decide +kernel) rfl rfl (Nat.le_of_ble_eq_true rfl) (Nat.le_of_ble_eq_true rfl) ((by rw [hQ]; simp only [e_finder, if_pos c1, if_pos c4, if_neg c7, if_neg c10, if_neg c13, if_neg c17, if_pos c24, mrow_self]))
              · skip
                rw [if_neg c24] at hk
                by_cases c27 : x2 = nI 5
                · skip
                  rw [if_pos c27] at hk
                  refine G.tabIn (dflt := 114) (lo := 0) (hi := 5) (offs := #[38, 50, 63, 72, 88, 101]) (len := 38) (off := 101) (tgt := 115) (by decide +kernel) (by rw [c27]; decide) (by rw [c27]; decide) (by rw [c27]; rfl) rfl ?_
                  obtain ⟨k28, k29, hk⟩ := hk
                  refine G.sl [(.aload_n 0, 1, 0, 0, 0, 0), (.getfield 60, 3, 10, 8, 114, 0), (.getfield 192, 3, 1, 0, 77, 0), (.bipush 19, 2, 0, 0, 0, nI 19), (.iload_n 1, 1, 1, 0, 0, 0), (.iadd, 1, 0, 0, 0, 0), (.iaload, 1, 0, 0, 0, 0)] [19 + (ix x1)] (pc2 := 127) (ls2 := [some (.ref 0), some (.int x1), some (.int x2)]) (st2 := [.int (M.1 38 (19 + (ix x1)))]) (M2 := M) (Ps := [((nI 19) + x1) = nI (19 + (ix x1)) ∧ (19 + (ix x1)) < 51]) (by decide +kernel) rfl rfl ⟨⟨(nAdd rfl (ixE k28)), k29⟩, trivial⟩ ?_
                  exact G.reti (by decide +kernel) rfl rfl (Nat.le_of_ble_eq_true rfl) (Nat.le_of_ble_eq_true rfl) ((by rw [hQ]; simp only [e_finder, if_pos c1, if_pos c4, if_neg c7, if_neg c10, if_neg c13, if_neg c17, if_neg c24, if_pos c27, mrow_self]))
                · skip
                  rw [if_neg c27] at hk
                  refine G.tabOut (dflt := 114) (lo := 0) (hi := 5) (offs := #[38, 50, 63, 72, 88, 101]) (len := 38) (tgt := 128) (by decide +kernel) (by have q0 := toInt_ne c7; simp only [toInt_nI0] at q0; have q1 := toInt_ne c10; simp only [toInt_nI1] at q1; have q2 := toInt_ne c13; simp only [toInt_nI2] at q2; have q3 := toInt_ne c17; simp only [toInt_nI3] at q3; have q4 := toInt_ne c24; simp only [toInt_nI4] at q4; have q5 := toInt_ne c27; simp only [toInt_nI5] at q5; omega) rfl ?_
                  obtain ⟨k30, k31, hk⟩ := hk
                  refine G.sl [(.aload_n 0, 1, 0, 0, 0, 0), (.getfield 60, 3, 10, 8, 114, 0), (.getfield 192, 3, 1, 0, 77, 0), (.bipush 25, 2, 0, 0, 0, nI 25), (.iload_n 1, 1, 1, 0, 0, 0), (.iadd, 1, 0, 0, 0, 0), (.iaload, 1, 0, 0, 0, 0)] [25 + (ix x1)] (pc2 := 140) (ls2 := [some (.ref 0), some (.int x1), some (.int x2)]) (st2 := [.int (M.1 38 (25 + (ix x1)))]) (M2 := M) (Ps := [((nI 25) + x1) = nI (25 + (ix x1)) ∧ (25 + (ix x1)) < 51]) (by decide +kernel) rfl rfl ⟨⟨(nAdd rfl (ixE k30)), k31⟩, trivial⟩ ?_
                  exact G.reti (by decide +kernel) rfl rfl (Nat.le_of_ble_eq_true rfl) (Nat.le_of_ble_eq_true rfl) ((by rw [hQ]; simp only [e_finder, if_pos c1, if_pos c4, if_neg c7, if_neg c10, if_neg c13, if_neg c17, if_neg c24, if_neg c27, mrow_self]))
    · skip
      rw [if_neg c4] at hk
      have t32 : GM z mX11_needWithin (d + 7) [.ref 0, .int x2, .int (nI 0), .int (nI 6)] M (fun rs => rs = .inr ("java/lang/IllegalArgumentException", mrow M 0 (upd (M.1 0) 16 ((M.1 0 16) + nI 1)))) := e_needWithin_b z (d + 1) _ x2 (nI 0) (nI 6) c4
      refine G.callV (as := [.int x2, .int (nI 0), .int (nI 6)]) (rest := []) (a := 0) oX11_needWithin lk_EvenFinders_182 (by decide +kernel) rfl rfl ⟨rfl, rfl⟩ (Nat.le_of_ble_eq_true rfl) rfl ⟨Nat.le_of_ble_eq_true rfl, Nat.le_of_ble_eq_true rfl⟩ t32 (fun v9 N9 h9 => by cases h9) (fun E9 N9 h9 => ?_)
      cases h9
      rw [hQ]
      simp only [e_finder, if_pos c1, if_neg c4]
  · skip
    rw [if_neg c1] at hk
    have t33 : GM z mX11_needFinder (d + 7) [.ref 0, .int x1] M (fun rs => rs = .inr ("java/util/NoSuchElementException", mrow M 0 (upd (M.1 0) 15 ((M.1 0 15) + nI 1)))) := e_needFinder_b z d _ x1 nf hf c1
    refine G.callV (as := [.int x1]) (rest := []) (a := 0) oX11_needFinder lk_EvenFinders_249 (by decide +kernel) rfl rfl ⟨rfl, rfl⟩ (Nat.le_of_ble_eq_true rfl) rfl ⟨Nat.le_of_ble_eq_true rfl, Nat.le_of_ble_eq_true rfl⟩ t33 (fun v9 N9 h9 => by cases h9) (fun E9 N9 h9 => ?_)
    cases h9
    rw [hQ]
    simp only [e_finder, if_neg c1]
set_option maxHeartbeats 4000000 in
set_option maxRecDepth 3000 in
theorem c_e_duty_0 (z : Zp) (d : Nat) (M : Mem) (x1 : Int32) (x2 : Int32) (nt : Nat) (hnt : nt ≤ 10) (ht : M.1 3 2 = nI nt) (nf : Nat) (hnf : nf ≤ 6) (hf : M.1 3 3 = nI nf) (hk : e_duty_ok M nt nf x1 x2) : GM z mX11_duty (d + 8) [.ref 0, .int x1, .int x2] M (fun rs => rs = e_duty M nt nf x1 x2) := by
  simp only [e_duty_ok] at hk
  refine GM.of oX11_duty.1 (Nat.le_of_ble_eq_true rfl) ?_
  show G z mX11_duty (d + 8) 0 0 0 [some (.ref 0), some (.int x1), some (.int x2)] [] M _
  obtain ⟨Q, hQ⟩ : ∃ Q : Rs → Prop, Q = (fun rs => rs = e_duty M nt nf x1 x2) := ⟨_, rfl⟩
  rw [← hQ]
  refine G.sl [(.aload_n 0, 1, 0, 0, 0, 0), (.iload_n 1, 1, 1, 0, 0, 0)] [] (pc2 := 2) (ls2 := [some (.ref 0), some (.int x1), some (.int x2)]) (st2 := [.int x1, .ref 0]) (M2 := M) (Ps := []) (by decide +kernel) rfl rfl trivial ?_
  by_cases c1 : ¬ x1 < 0 ∧ x1 < nI nf
  · skip
    rw [if_pos c1] at hk
    have t2 : GM z mX11_needFinder (d + 7) [.ref 0, .int x1] M (fun rs => rs = .inl (none, M)) := e_needFinder_g z d _ x1 nf hf c1
    refine G.callV (as := [.int x1]) (rest := []) (a := 0) oX11_needFinder lk_EvenFinders_249 (by decide +kernel) rfl rfl ⟨rfl, rfl⟩ (Nat.le_of_ble_eq_true rfl) rfl ⟨Nat.le_of_ble_eq_true rfl, Nat.le_of_ble_eq_true rfl⟩ t2 (fun v9 N9 h3 => ?_) (fun E9 N9 h3 => by cases h3)
    cases h3
    show G z mX11_duty (d + 8) 1 6 5 [some (.ref 0), some (.int x1), some (.int x2)] [] M Q
    refine G.sl [(.aload_n 0, 1, 0, 0, 0, 0), (.iload_n 2, 1, 2, 0, 0, 0)] [] (pc2 := 7) (ls2 := [some (.ref 0), some (.int x1), some (.int x2)]) (st2 := [.int x2, .ref 0]) (M2 := M) (Ps := []) (by decide +kernel) rfl rfl trivial ?_
    by_cases c4 : ¬ x2 < 0 ∧ x2 < nI nt
    · skip
      rw [if_pos c4] at hk
      have t5 : GM z mX11_needThing (d + 7) [.ref 0, .int x2] M (fun rs => rs = .inl (none, M)) := e_needThing_g z d _ x2 nt ht c4
      refine G.callV (as := [.int x2]) (rest := []) (a := 0) oX11_needThing lk_EvenFinders_240 (by decide +kernel) rfl rfl ⟨rfl, rfl⟩ (Nat.le_of_ble_eq_true rfl) rfl ⟨Nat.le_of_ble_eq_true rfl, Nat.le_of_ble_eq_true rfl⟩ t5 (fun v9 N9 h6 => ?_) (fun E9 N9 h6 => by cases h6)
      cases h6
      show G z mX11_duty (d + 8) 2 12 10 [some (.ref 0), some (.int x1), some (.int x2)] [] M Q
      refine G.sl [(.aload_n 0, 1, 0, 0, 0, 0), (.getfield 60, 3, 10, 8, 114, 0), (.iload_n 1, 1, 1, 0, 0, 0), (.iload_n 2, 1, 2, 0, 0, 0)] [] (pc2 := 16) (ls2 := [some (.ref 0), some (.int x1), some (.int x2)]) (st2 := [.int x2, .int x1, .ref 37]) (M2 := M) (Ps := []) (by decide +kernel) rfl rfl trivial ?_
      obtain ⟨k7, k8, k9, k10, hk⟩ := hk
      obtain ⟨k11, hk⟩ := hk
      refine G.eq (st' := [.int (nI (ix x2)), .int (nI (ix x1)), .ref 37]) ?_ rfl (by rw [← (show x1 = nI (ix x1) from (ixE k7)), ← (show x2 = nI (ix x2) from (ixE k9))]) rfl
      rcases g12 : d_dutyOf (M.1 7) (M.1 21) (M.1 22) (M.1 23) (M.1 24) (M.1 38) nt (ix x1) (ix x2) with ⟨v13, r14, r15⟩
      have t16 : GM z mX1_dutyOf (d + 7) [.ref 37, .int (nI (ix x1)), .int (nI (ix x2))] M (fun rs => rs = .inl (some (.int v13), mrow (mrow M 22 r14) 24 r15)) := by
        have q9 := c_d_dutyOf_37 z (d + 5) M (ix x1) (ix x2) nt hnt ht k8 k10 k11
        try simp only [mput, mrow_same, mrow_hit, mrow_miss, mrow_sw, idr_eq, ne_eq, Nat.reduceEqDiff, not_false_eq_true, Nat.reduceLT, reduceCtorEq, g12] at q9
        exact q9
      refine G.callV (as := [.int (nI (ix x1)), .int (nI (ix x2))]) (rest := []) (a := 37) oX1_dutyOf lk_EvenFinders_255 (by decide +kernel) rfl rfl ⟨rfl, rfl⟩ (Nat.le_of_ble_eq_true rfl) rfl ⟨Nat.le_of_ble_eq_true rfl, Nat.le_of_ble_eq_true rfl⟩ t16 (fun v9 N9 h17 => ?_) (fun E9 N9 h17 => by cases h17)
      cases h17
      show G z mX11_duty (d + 8) 2 12 19 [some (.ref 0), some (.int x1), some (.int x2)] [.int v13] (mrow (mrow M 22 r14) 24 r15) Q
      exact G.reti (by decide +kernel) rfl rfl (Nat.le_of_ble_eq_true rfl) (Nat.le_of_ble_eq_true rfl) ((by rw [hQ]; simp only [e_duty, if_pos c1, if_pos c4, g12, mrow_self]))
    · skip
      rw [if_neg c4] at hk
      have t18 : GM z mX11_needThing (d + 7) [.ref 0, .int x2] M (fun rs => rs = .inr ("java/util/NoSuchElementException", mrow M 0 (upd (M.1 0) 15 ((M.1 0 15) + nI 1)))) := e_needThing_b z d _ x2 nt ht c4
      refine G.callV (as := [.int x2]) (rest := []) (a := 0) oX11_needThing lk_EvenFinders_240 (by decide +kernel) rfl rfl ⟨rfl, rfl⟩ (Nat.le_of_ble_eq_true rfl) rfl ⟨Nat.le_of_ble_eq_true rfl, Nat.le_of_ble_eq_true rfl⟩ t18 (fun v9 N9 h9 => by cases h9) (fun E9 N9 h9 => ?_)
      cases h9
      rw [hQ]
      simp only [e_duty, if_pos c1, if_neg c4]
  · skip
    rw [if_neg c1] at hk
    have t19 : GM z mX11_needFinder (d + 7) [.ref 0, .int x1] M (fun rs => rs = .inr ("java/util/NoSuchElementException", mrow M 0 (upd (M.1 0) 15 ((M.1 0 15) + nI 1)))) := e_needFinder_b z d _ x1 nf hf c1
    refine G.callV (as := [.int x1]) (rest := []) (a := 0) oX11_needFinder lk_EvenFinders_249 (by decide +kernel) rfl rfl ⟨rfl, rfl⟩ (Nat.le_of_ble_eq_true rfl) rfl ⟨Nat.le_of_ble_eq_true rfl, Nat.le_of_ble_eq_true rfl⟩ t19 (fun v9 N9 h9 => by cases h9) (fun E9 N9 h9 => ?_)
    cases h9
    rw [hQ]
    simp only [e_duty, if_neg c1]
set_option maxHeartbeats 4000000 in
set_option maxRecDepth 3000 in
theorem c_e_would_0 (z : Zp) (d : Nat) (M : Mem) (x1 : Int32) (x2 : Int32) (x3 : Int32) (x4 : Int32) (x5 : Int32) (x6 : Int32) (x7 : Int32) (x8 : Int32) (hk : e_would_ok M x1 x2 x3 x4 x5 x6 x7 x8) : GM z mX11_would (d + 7) [.ref 0, .int x1, .int x2, .int x3, .int x4, .int x5, .int x6, .int x7, .int x8] M (fun rs => rs = e_would M x1 x2 x3 x4 x5 x6 x7 x8) := by
  simp only [e_would_ok] at hk
  refine GM.of oX11_would.1 (Nat.le_of_ble_eq_true rfl) ?_
  show G z mX11_would (d + 7) 0 0 0 [some (.ref 0), some (.int x1), some (.int x2), some (.int x3), some (.int x4), some (.int x5), some (.int x6), some (.int x7), some (.int x8)] [] M _
  obtain ⟨Q, hQ⟩ : ∃ Q : Rs → Prop, Q = (fun rs => rs = e_would M x1 x2 x3 x4 x5 x6 x7 x8) := ⟨_, rfl⟩
  rw [← hQ]
  refine G.sl [(.aload_n 0, 1, 0, 0, 0, 0), (.iload_n 1, 1, 1, 0, 0, 0), (.iconst 1, 1, 0, 0, 0, nI 1), (.bipush 60, 2, 0, 0, 0, nI 60)] [] (pc2 := 5) (ls2 := [some (.ref 0), some (.int x1), some (.int x2), some (.int x3), some (.int x4), some (.int x5), some (.int x6), some (.int x7), some (.int x8)]) (st2 := [.int (nI 60), .int (nI 1), .int x1, .ref 0]) (M2 := M) (Ps := []) (by decide +kernel) rfl rfl trivial ?_
  by_cases c1 : ¬ x1 < (nI 1) ∧ x1 ≤ (nI 60)
  · skip
    rw [if_pos c1] at hk
    have t2 : GM z mX11_needWithin (d + 6) [.ref 0, .int x1, .int (nI 1), .int (nI 60)] M (fun rs => rs = .inl (none, M)) := e_needWithin_g z d _ x1 (nI 1) (nI 60) c1
    refine G.callV (as := [.int x1, .int (nI 1), .int (nI 60)]) (rest := []) (a := 0) oX11_needWithin lk_EvenFinders_182 (by decide +kernel) rfl rfl ⟨rfl, rfl⟩ (Nat.le_of_ble_eq_true rfl) rfl ⟨Nat.le_of_ble_eq_true rfl, Nat.le_of_ble_eq_true rfl⟩ t2 (fun v9 N9 h3 => ?_) (fun E9 N9 h3 => by cases h3)
    cases h3
    show G z mX11_would (d + 7) 1 6 8 [some (.ref 0), some (.int x1), some (.int x2), some (.int x3), some (.int x4), some (.int x5), some (.int x6), some (.int x7), some (.int x8)] [] M Q
    refine G.sl [(.aload_n 0, 1, 0, 0, 0, 0), (.iload_n 2, 1, 2, 0, 0, 0), (.bipush (-99), 2, 0, 0, 0, (-99)), (.sipush 999, 3, 0, 0, 0, nI 999)] [] (pc2 := 15) (ls2 := [some (.ref 0), some (.int x1), some (.int x2), some (.int x3), some (.int x4), some (.int x5), some (.int x6), some (.int x7), some (.int x8)]) (st2 := [.int (nI 999), .int ((-99)), .int x2, .ref 0]) (M2 := M) (Ps := []) (by decide +kernel) rfl rfl trivial ?_
    by_cases c4 : ¬ x2 < ((-99)) ∧ x2 ≤ (nI 999)
    · skip
      rw [if_pos c4] at hk
      have t5 : GM z mX11_needWithin (d + 6) [.ref 0, .int x2, .int ((-99)), .int (nI 999)] M (fun rs => rs = .inl (none, M)) := e_needWithin_g z d _ x2 ((-99)) (nI 999) c4
      refine G.callV (as := [.int x2, .int ((-99)), .int (nI 999)]) (rest := []) (a := 0) oX11_needWithin lk_EvenFinders_182 (by decide +kernel) rfl rfl ⟨rfl, rfl⟩ (Nat.le_of_ble_eq_true rfl) rfl ⟨Nat.le_of_ble_eq_true rfl, Nat.le_of_ble_eq_true rfl⟩ t5 (fun v9 N9 h6 => ?_) (fun E9 N9 h6 => by cases h6)
      cases h6
      show G z mX11_would (d + 7) 2 12 18 [some (.ref 0), some (.int x1), some (.int x2), some (.int x3), some (.int x4), some (.int x5), some (.int x6), some (.int x7), some (.int x8)] [] M Q
      refine G.sl [(.aload_n 0, 1, 0, 0, 0, 0), (.iload_n 3, 1, 3, 0, 0, 0), (.iconst 0, 1, 0, 0, 0, nI 0), (.bipush 10, 2, 0, 0, 0, nI 10)] [] (pc2 := 23) (ls2 := [some (.ref 0), some (.int x1), some (.int x2), some (.int x3), some (.int x4), some (.int x5), some (.int x6), some (.int x7), some (.int x8)]) (st2 := [.int (nI 10), .int (nI 0), .int x3, .ref 0]) (M2 := M) (Ps := []) (by decide +kernel) rfl rfl trivial ?_
      by_cases c7 : ¬ x3 < (nI 0) ∧ x3 ≤ (nI 10)
      · skip
        rw [if_pos c7] at hk
        have t8 : GM z mX11_needWithin (d + 6) [.ref 0, .int x3, .int (nI 0), .int (nI 10)] M (fun rs => rs = .inl (none, M)) := e_needWithin_g z d _ x3 (nI 0) (nI 10) c7
        refine G.callV (as := [.int x3, .int (nI 0), .int (nI 10)]) (rest := []) (a := 0) oX11_needWithin lk_EvenFinders_182 (by decide +kernel) rfl rfl ⟨rfl, rfl⟩ (Nat.le_of_ble_eq_true rfl) rfl ⟨Nat.le_of_ble_eq_true rfl, Nat.le_of_ble_eq_true rfl⟩ t8 (fun v9 N9 h9 => ?_) (fun E9 N9 h9 => by cases h9)
        cases h9
        show G z mX11_would (d + 7) 3 18 26 [some (.ref 0), some (.int x1), some (.int x2), some (.int x3), some (.int x4), some (.int x5), some (.int x6), some (.int x7), some (.int x8)] [] M Q
        refine G.sl [(.aload_n 0, 1, 0, 0, 0, 0), (.iload 4, 2, 4, 0, 0, 0), (.iconst 0, 1, 0, 0, 0, nI 0), (.sipush 999, 3, 0, 0, 0, nI 999)] [] (pc2 := 33) (ls2 := [some (.ref 0), some (.int x1), some (.int x2), some (.int x3), some (.int x4), some (.int x5), some (.int x6), some (.int x7), some (.int x8)]) (st2 := [.int (nI 999), .int (nI 0), .int x4, .ref 0]) (M2 := M) (Ps := []) (by decide +kernel) rfl rfl trivial ?_
        by_cases c10 : ¬ x4 < (nI 0) ∧ x4 ≤ (nI 999)
        · skip
          rw [if_pos c10] at hk
          have t11 : GM z mX11_needWithin (d + 6) [.ref 0, .int x4, .int (nI 0), .int (nI 999)] M (fun rs => rs = .inl (none, M)) := e_needWithin_g z d _ x4 (nI 0) (nI 999) c10
          refine G.callV (as := [.int x4, .int (nI 0), .int (nI 999)]) (rest := []) (a := 0) oX11_needWithin lk_EvenFinders_182 (by decide +kernel) rfl rfl ⟨rfl, rfl⟩ (Nat.le_of_ble_eq_true rfl) rfl ⟨Nat.le_of_ble_eq_true rfl, Nat.le_of_ble_eq_true rfl⟩ t11 (fun v9 N9 h12 => ?_) (fun E9 N9 h12 => by cases h12)
          cases h12
          show G z mX11_would (d + 7) 4 24 36 [some (.ref 0), some (.int x1), some (.int x2), some (.int x3), some (.int x4), some (.int x5), some (.int x6), some (.int x7), some (.int x8)] [] M Q
          refine G.sl [(.aload_n 0, 1, 0, 0, 0, 0), (.iload 5, 2, 5, 0, 0, 0), (.iconst 0, 1, 0, 0, 0, nI 0), (.bipush 10, 2, 0, 0, 0, nI 10)] [] (pc2 := 42) (ls2 := [some (.ref 0), some (.int x1), some (.int x2), some (.int x3), some (.int x4), some (.int x5), some (.int x6), some (.int x7), some (.int x8)]) (st2 := [.int (nI 10), .int (nI 0), .int x5, .ref 0]) (M2 := M) (Ps := []) (by decide +kernel) rfl rfl trivial ?_
          by_cases c13 : ¬ x5 < (nI 0) ∧ x5 ≤ (nI 10)
          · skip
            rw [if_pos c13] at hk
            have t14 : GM z mX11_needWithin (d + 6) [.ref 0, .int x5, .int (nI 0), .int (nI 10)] M (fun rs => rs = .inl (none, M)) := e_needWithin_g z d _ x5 (nI 0) (nI 10) c13
            refine G.callV (as := [.int x5, .int (nI 0), .int (nI 10)]) (rest := []) (a := 0) oX11_needWithin lk_EvenFinders_182 (by decide +kernel) rfl rfl ⟨rfl, rfl⟩ (Nat.le_of_ble_eq_true rfl) rfl ⟨Nat.le_of_ble_eq_true rfl, Nat.le_of_ble_eq_true rfl⟩ t14 (fun v9 N9 h15 => ?_) (fun E9 N9 h15 => by cases h15)
            cases h15
            show G z mX11_would (d + 7) 5 30 45 [some (.ref 0), some (.int x1), some (.int x2), some (.int x3), some (.int x4), some (.int x5), some (.int x6), some (.int x7), some (.int x8)] [] M Q
            refine G.sl [(.aload_n 0, 1, 0, 0, 0, 0), (.iload 6, 2, 6, 0, 0, 0), (.iconst 0, 1, 0, 0, 0, nI 0), (.sipush 400, 3, 0, 0, 0, nI 400)] [] (pc2 := 52) (ls2 := [some (.ref 0), some (.int x1), some (.int x2), some (.int x3), some (.int x4), some (.int x5), some (.int x6), some (.int x7), some (.int x8)]) (st2 := [.int (nI 400), .int (nI 0), .int x6, .ref 0]) (M2 := M) (Ps := []) (by decide +kernel) rfl rfl trivial ?_
            by_cases c16 : ¬ x6 < (nI 0) ∧ x6 ≤ (nI 400)
            · skip
              rw [if_pos c16] at hk
              have t17 : GM z mX11_needWithin (d + 6) [.ref 0, .int x6, .int (nI 0), .int (nI 400)] M (fun rs => rs = .inl (none, M)) := e_needWithin_g z d _ x6 (nI 0) (nI 400) c16
              refine G.callV (as := [.int x6, .int (nI 0), .int (nI 400)]) (rest := []) (a := 0) oX11_needWithin lk_EvenFinders_182 (by decide +kernel) rfl rfl ⟨rfl, rfl⟩ (Nat.le_of_ble_eq_true rfl) rfl ⟨Nat.le_of_ble_eq_true rfl, Nat.le_of_ble_eq_true rfl⟩ t17 (fun v9 N9 h18 => ?_) (fun E9 N9 h18 => by cases h18)
              cases h18
              show G z mX11_would (d + 7) 6 36 55 [some (.ref 0), some (.int x1), some (.int x2), some (.int x3), some (.int x4), some (.int x5), some (.int x6), some (.int x7), some (.int x8)] [] M Q
              refine G.sl [(.aload_n 0, 1, 0, 0, 0, 0), (.iload 7, 2, 7, 0, 0, 0), (.iconst 0, 1, 0, 0, 0, nI 0), (.sipush 999, 3, 0, 0, 0, nI 999)] [] (pc2 := 62) (ls2 := [some (.ref 0), some (.int x1), some (.int x2), some (.int x3), some (.int x4), some (.int x5), some (.int x6), some (.int x7), some (.int x8)]) (st2 := [.int (nI 999), .int (nI 0), .int x7, .ref 0]) (M2 := M) (Ps := []) (by decide +kernel) rfl rfl trivial ?_
              by_cases c19 : ¬ x7 < (nI 0) ∧ x7 ≤ (nI 999)
              · skip
                rw [if_pos c19] at hk
                have t20 : GM z mX11_needWithin (d + 6) [.ref 0, .int x7, .int (nI 0), .int (nI 999)] M (fun rs => rs = .inl (none, M)) := e_needWithin_g z d _ x7 (nI 0) (nI 999) c19
                refine G.callV (as := [.int x7, .int (nI 0), .int (nI 999)]) (rest := []) (a := 0) oX11_needWithin lk_EvenFinders_182 (by decide +kernel) rfl rfl ⟨rfl, rfl⟩ (Nat.le_of_ble_eq_true rfl) rfl ⟨Nat.le_of_ble_eq_true rfl, Nat.le_of_ble_eq_true rfl⟩ t20 (fun v9 N9 h21 => ?_) (fun E9 N9 h21 => by cases h21)
                cases h21
                show G z mX11_would (d + 7) 7 42 65 [some (.ref 0), some (.int x1), some (.int x2), some (.int x3), some (.int x4), some (.int x5), some (.int x6), some (.int x7), some (.int x8)] [] M Q
                refine G.sl [(.aload_n 0, 1, 0, 0, 0, 0), (.iload 8, 2, 8, 0, 0, 0), (.iconst 0, 1, 0, 0, 0, nI 0), (.iconst 5, 1, 0, 0, 0, nI 5)] [] (pc2 := 70) (ls2 := [some (.ref 0), some (.int x1), some (.int x2), some (.int x3), some (.int x4), some (.int x5), some (.int x6), some (.int x7), some (.int x8)]) (st2 := [.int (nI 5), .int (nI 0), .int x8, .ref 0]) (M2 := M) (Ps := []) (by decide +kernel) rfl rfl trivial ?_
                by_cases c22 : ¬ x8 < (nI 0) ∧ x8 ≤ (nI 5)
                · skip
                  rw [if_pos c22] at hk
                  have t23 : GM z mX11_needWithin (d + 6) [.ref 0, .int x8, .int (nI 0), .int (nI 5)] M (fun rs => rs = .inl (none, M)) := e_needWithin_g z d _ x8 (nI 0) (nI 5) c22
                  refine G.callV (as := [.int x8, .int (nI 0), .int (nI 5)]) (rest := []) (a := 0) oX11_needWithin lk_EvenFinders_182 (by decide +kernel) rfl rfl ⟨rfl, rfl⟩ (Nat.le_of_ble_eq_true rfl) rfl ⟨Nat.le_of_ble_eq_true rfl, Nat.le_of_ble_eq_true rfl⟩ t23 (fun v9 N9 h24 => ?_) (fun E9 N9 h24 => by cases h24)
                  cases h24
                  show G z mX11_would (d + 7) 8 48 73 [some (.ref 0), some (.int x1), some (.int x2), some (.int x3), some (.int x4), some (.int x5), some (.int x6), some (.int x7), some (.int x8)] [] M Q
                  refine G.sl [(.aload_n 0, 1, 0, 0, 0, 0), (.getfield 29, 3, 10, 3, 109, 0), (.getfield 259, 3, 3, 0, 55, 0), (.iconst 0, 1, 0, 0, 0, nI 0), (.iload_n 1, 1, 1, 0, 0, 0), (.iastore, 1, 0, 0, 0, 0), (.aload_n 0, 1, 0, 0, 0, 0), (.getfield 29, 3, 10, 3, 109, 0), (.getfield 259, 3, 3, 0, 55, 0), (.iconst 1, 1, 0, 0, 0, nI 1), (.iload_n 2, 1, 2, 0, 0, 0), (.iastore, 1, 0, 0, 0, 0), (.aload_n 0, 1, 0, 0, 0, 0), (.getfield 29, 3, 10, 3, 109, 0), (.getfield 259, 3, 3, 0, 55, 0), (.iconst 2, 1, 0, 0, 0, nI 2), (.iload_n 3, 1, 3, 0, 0, 0), (.iastore, 1, 0, 0, 0, 0), (.aload_n 0, 1, 0, 0, 0, 0), (.getfield 29, 3, 10, 3, 109, 0), (.getfield 259, 3, 3, 0, 55, 0), (.iconst 3, 1, 0, 0, 0, nI 3), (.iload 4, 2, 4, 0, 0, 0), (.iastore, 1, 0, 0, 0, 0), (.aload_n 0, 1, 0, 0, 0, 0), (.getfield 29, 3, 10, 3, 109, 0), (.getfield 259, 3, 3, 0, 55, 0), (.iconst 4, 1, 0, 0, 0, nI 4), (.iload 5, 2, 5, 0, 0, 0), (.iastore, 1, 0, 0, 0, 0), (.aload_n 0, 1, 0, 0, 0, 0), (.getfield 29, 3, 10, 3, 109, 0), (.getfield 259, 3, 3, 0, 55, 0), (.iconst 5, 1, 0, 0, 0, nI 5), (.iload 6, 2, 6, 0, 0, 0), (.iastore, 1, 0, 0, 0, 0), (.aload_n 0, 1, 0, 0, 0, 0), (.getfield 29, 3, 10, 3, 109, 0), (.getfield 259, 3, 3, 0, 55, 0), (.bipush 6, 2, 0, 0, 0, nI 6), (.iload 7, 2, 7, 0, 0, 0), (.iastore, 1, 0, 0, 0, 0), (.aload_n 0, 1, 0, 0, 0, 0), (.getfield 29, 3, 10, 3, 109, 0), (.getfield 259, 3, 3, 0, 55, 0), (.bipush 7, 2, 0, 0, 0, nI 7), (.iload 8, 2, 8, 0, 0, 0), (.iastore, 1, 0, 0, 0, 0), (.aload_n 0, 1, 0, 0, 0, 0), (.getfield 29, 3, 10, 3, 109, 0)] [0, 1, 2, 3, 4, 5, 6, 7] (pc2 := 164) (ls2 := [some (.ref 0), some (.int x1), some (.int x2), some (.int x3), some (.int x4), some (.int x5), some (.int x6), some (.int x7), some (.int x8)]) (st2 := [.ref 21]) (M2 := mput (mput (mput (mput (mput (mput (mput (mput M 22 0 x1) 22 1 x2) 22 2 x3) 22 3 x4) 22 4 x5) 22 5 x6) 22 6 x7) 22 7 x8) (Ps := [(nI 0) = nI 0 ∧ 0 < 8, (nI 1) = nI 1 ∧ 1 < 8, (nI 2) = nI 2 ∧ 2 < 8, (nI 3) = nI 3 ∧ 3 < 8, (nI 4) = nI 4 ∧ 4 < 8, (nI 5) = nI 5 ∧ 5 < 8, (nI 6) = nI 6 ∧ 6 < 8, (nI 7) = nI 7 ∧ 7 < 8]) (by decide +kernel) rfl rfl ⟨⟨rfl, (by omega)⟩, ⟨rfl, (by omega)⟩, ⟨rfl, (by omega)⟩, ⟨rfl, (by omega)⟩, ⟨rfl, (by omega)⟩, ⟨rfl, (by omega)⟩, ⟨rfl, (by omega)⟩, ⟨rfl, (by omega)⟩, trivial⟩ ?_
                  refine G.mem (M' := mrow M 22 (upd (upd (upd (upd (upd (upd (upd (upd (M.1 22) 0 x1) 1 x2) 2 x3) 3 x4) 4 x5) 5 x6) 6 x7) 7 x8)) (by first | rfl | (simp only [mput, mrow_same, mrow_hit, mrow_miss, mrow_sw, idr_eq, ne_eq, Nat.reduceEqDiff, not_false_eq_true, Nat.reduceLT, reduceCtorEq]; done)) ?_
                  obtain ⟨k25, hk⟩ := hk
                  rcases g26 : l_comesOut (M.1 21) (upd (upd (upd (upd (upd (upd (upd (upd (M.1 22) 0 x1) 1 x2) 2 x3) 3 x4) 4 x5) 5 x6) 6 x7) 7 x8) (M.1 23) (M.1 24) with ⟨v27, r28⟩
                  have t29 : GM z mX3_comesOut (d + 6) [.ref 21] (mrow M 22 (upd (upd (upd (upd (upd (upd (upd (upd (M.1 22) 0 x1) 1 x2) 2 x3) 3 x4) 4 x5) 5 x6) 6 x7) 7 x8)) (fun rs => rs = .inl (some (.int v27), mrow (mrow M 22 (upd (upd (upd (upd (upd (upd (upd (upd (M.1 22) 0 x1) 1 x2) 2 x3) 3 x4) 4 x5) 5 x6) 6 x7) 7 x8)) 24 r28)) := by
                    have q9 := c_l_comesOut_21 z (d + 5) (mrow M 22 (upd (upd (upd (upd (upd (upd (upd (upd (M.1 22) 0 x1) 1 x2) 2 x3) 3 x4) 4 x5) 5 x6) 6 x7) 7 x8)) k25
                    try simp only [mput, mrow_same, mrow_hit, mrow_miss, mrow_sw, idr_eq, ne_eq, Nat.reduceEqDiff, not_false_eq_true, Nat.reduceLT, reduceCtorEq, g26] at q9
                    exact q9
                  refine G.callV (as := []) (rest := []) (a := 21) oX3_comesOut lk_EvenFinders_262 (by decide +kernel) rfl rfl ⟨rfl, rfl⟩ (Nat.le_of_ble_eq_true rfl) rfl ⟨Nat.le_of_ble_eq_true rfl, Nat.le_of_ble_eq_true rfl⟩ t29 (fun v9 N9 h30 => ?_) (fun E9 N9 h30 => by cases h30)
                  cases h30
                  show G z mX11_would (d + 7) 8 48 167 [some (.ref 0), some (.int x1), some (.int x2), some (.int x3), some (.int x4), some (.int x5), some (.int x6), some (.int x7), some (.int x8)] [.int v27] (mrow (mrow M 22 (upd (upd (upd (upd (upd (upd (upd (upd (M.1 22) 0 x1) 1 x2) 2 x3) 3 x4) 4 x5) 5 x6) 6 x7) 7 x8)) 24 r28) Q
                  exact G.reti (by decide +kernel) rfl rfl (Nat.le_of_ble_eq_true rfl) (Nat.le_of_ble_eq_true rfl) ((by rw [hQ]; simp only [e_would, if_pos c1, if_pos c4, if_pos c7, if_pos c10, if_pos c13, if_pos c16, if_pos c19, if_pos c22, g26, mrow_self]))
                · skip
                  rw [if_neg c22] at hk
                  have t31 : GM z mX11_needWithin (d + 6) [.ref 0, .int x8, .int (nI 0), .int (nI 5)] M (fun rs => rs = .inr ("java/lang/IllegalArgumentException", mrow M 0 (upd (M.1 0) 16 ((M.1 0 16) + nI 1)))) := e_needWithin_b z d _ x8 (nI 0) (nI 5) c22
                  refine G.callV (as := [.int x8, .int (nI 0), .int (nI 5)]) (rest := []) (a := 0) oX11_needWithin lk_EvenFinders_182 (by decide +kernel) rfl rfl ⟨rfl, rfl⟩ (Nat.le_of_ble_eq_true rfl) rfl ⟨Nat.le_of_ble_eq_true rfl, Nat.le_of_ble_eq_true rfl⟩ t31 (fun v9 N9 h9 => by cases h9) (fun E9 N9 h9 => ?_)
                  cases h9
                  rw [hQ]
                  simp only [e_would, if_pos c1, if_pos c4, if_pos c7, if_pos c10, if_pos c13, if_pos c16, if_pos c19, if_neg c22]
              · skip
                rw [if_neg c19] at hk
                have t32 : GM z mX11_needWithin (d + 6) [.ref 0, .int x7, .int (nI 0), .int (nI 999)] M (fun rs => rs = .inr ("java/lang/IllegalArgumentException", mrow M 0 (upd (M.1 0) 16 ((M.1 0 16) + nI 1)))) := e_needWithin_b z d _ x7 (nI 0) (nI 999) c19
                refine G.callV (as := [.int x7, .int (nI 0), .int (nI 999)]) (rest := []) (a := 0) oX11_needWithin lk_EvenFinders_182 (by decide +kernel) rfl rfl ⟨rfl, rfl⟩ (Nat.le_of_ble_eq_true rfl) rfl ⟨Nat.le_of_ble_eq_true rfl, Nat.le_of_ble_eq_true rfl⟩ t32 (fun v9 N9 h9 => by cases h9) (fun E9 N9 h9 => ?_)
                cases h9
                rw [hQ]
                simp only [e_would, if_pos c1, if_pos c4, if_pos c7, if_pos c10, if_pos c13, if_pos c16, if_neg c19]
            · skip
              rw [if_neg c16] at hk
              have t33 : GM z mX11_needWithin (d + 6) [.ref 0, .int x6, .int (nI 0), .int (nI 400)] M (fun rs => rs = .inr ("java/lang/IllegalArgumentException", mrow M 0 (upd (M.1 0) 16 ((M.1 0 16) + nI 1)))) := e_needWithin_b z d _ x6 (nI 0) (nI 400) c16
              refine G.callV (as := [.int x6, .int (nI 0), .int (nI 400)]) (rest := []) (a := 0) oX11_needWithin lk_EvenFinders_182 (by decide +kernel) rfl rfl ⟨rfl, rfl⟩ (Nat.le_of_ble_eq_true rfl) rfl ⟨Nat.le_of_ble_eq_true rfl, Nat.le_of_ble_eq_true rfl⟩ t33 (fun v9 N9 h9 => by cases h9) (fun E9 N9 h9 => ?_)
              cases h9
              rw [hQ]
              simp only [e_would, if_pos c1, if_pos c4, if_pos c7, if_pos c10, if_pos c13, if_neg c16]
          · skip
            rw [if_neg c13] at hk
            have t34 : GM z mX11_needWithin (d + 6) [.ref 0, .int x5, .int (nI 0), .int (nI 10)] M (fun rs => rs = .inr ("java/lang/IllegalArgumentException", mrow M 0 (upd (M.1 0) 16 ((M.1 0 16) + nI 1)))) := e_needWithin_b z d _ x5 (nI 0) (nI 10) c13
            refine G.callV (as := [.int x5, .int (nI 0), .int (nI 10)]) (rest := []) (a := 0) oX11_needWithin lk_EvenFinders_182 (by decide +kernel) rfl rfl ⟨rfl, rfl⟩ (Nat.le_of_ble_eq_true rfl) rfl ⟨Nat.le_of_ble_eq_true rfl, Nat.le_of_ble_eq_true rfl⟩ t34 (fun v9 N9 h9 => by cases h9) (fun E9 N9 h9 => ?_)
            cases h9
            rw [hQ]
            simp only [e_would, if_pos c1, if_pos c4, if_pos c7, if_pos c10, if_neg c13]
        · skip
          rw [if_neg c10] at hk
          have t35 : GM z mX11_needWithin (d + 6) [.ref 0, .int x4, .int (nI 0), .int (nI 999)] M (fun rs => rs = .inr ("java/lang/IllegalArgumentException", mrow M 0 (upd (M.1 0) 16 ((M.1 0 16) + nI 1)))) := e_needWithin_b z d _ x4 (nI 0) (nI 999) c10
          refine G.callV (as := [.int x4, .int (nI 0), .int (nI 999)]) (rest := []) (a := 0) oX11_needWithin lk_EvenFinders_182 (by decide +kernel) rfl rfl ⟨rfl, rfl⟩ (Nat.le_of_ble_eq_true rfl) rfl ⟨Nat.le_of_ble_eq_true rfl, Nat.le_of_ble_eq_true rfl⟩ t35 (fun v9 N9 h9 => by cases h9) (fun E9 N9 h9 => ?_)
          cases h9
          rw [hQ]
          simp only [e_would, if_pos c1, if_pos c4, if_pos c7, if_neg c10]
      · skip
        rw [if_neg c7] at hk
        have t36 : GM z mX11_needWithin (d + 6) [.ref 0, .int x3, .int (nI 0), .int (nI 10)] M (fun rs => rs = .inr ("java/lang/IllegalArgumentException", mrow M 0 (upd (M.1 0) 16 ((M.1 0 16) + nI 1)))) := e_needWithin_b z d _ x3 (nI 0) (nI 10) c7
        refine G.callV (as := [.int x3, .int (nI 0), .int (nI 10)]) (rest := []) (a := 0) oX11_needWithin lk_EvenFinders_182 (by decide +kernel) rfl rfl ⟨rfl, rfl⟩ (Nat.le_of_ble_eq_true rfl) rfl ⟨Nat.le_of_ble_eq_true rfl, Nat.le_of_ble_eq_true rfl⟩ t36 (fun v9 N9 h9 => by cases h9) (fun E9 N9 h9 => ?_)
        cases h9
        rw [hQ]
        simp only [e_would, if_pos c1, if_pos c4, if_neg c7]
    · skip
      rw [if_neg c4] at hk
      have t37 : GM z mX11_needWithin (d + 6) [.ref 0, .int x2, .int ((-99)), .int (nI 999)] M (fun rs => rs = .inr ("java/lang/IllegalArgumentException", mrow M 0 (upd (M.1 0) 16 ((M.1 0 16) + nI 1)))) := e_needWithin_b z d _ x2 ((-99)) (nI 999) c4
      refine G.callV (as := [.int x2, .int ((-99)), .int (nI 999)]) (rest := []) (a := 0) oX11_needWithin lk_EvenFinders_182 (by decide +kernel) rfl rfl ⟨rfl, rfl⟩ (Nat.le_of_ble_eq_true rfl) rfl ⟨Nat.le_of_ble_eq_true rfl, Nat.le_of_ble_eq_true rfl⟩ t37 (fun v9 N9 h9 => by cases h9) (fun E9 N9 h9 => ?_)
      cases h9
      rw [hQ]
      simp only [e_would, if_pos c1, if_neg c4]
  · skip
    rw [if_neg c1] at hk
    have t38 : GM z mX11_needWithin (d + 6) [.ref 0, .int x1, .int (nI 1), .int (nI 60)] M (fun rs => rs = .inr ("java/lang/IllegalArgumentException", mrow M 0 (upd (M.1 0) 16 ((M.1 0 16) + nI 1)))) := e_needWithin_b z d _ x1 (nI 1) (nI 60) c1
    refine G.callV (as := [.int x1, .int (nI 1), .int (nI 60)]) (rest := []) (a := 0) oX11_needWithin lk_EvenFinders_182 (by decide +kernel) rfl rfl ⟨rfl, rfl⟩ (Nat.le_of_ble_eq_true rfl) rfl ⟨Nat.le_of_ble_eq_true rfl, Nat.le_of_ble_eq_true rfl⟩ t38 (fun v9 N9 h9 => by cases h9) (fun E9 N9 h9 => ?_)
    cases h9
    rw [hQ]
    simp only [e_would, if_neg c1]
