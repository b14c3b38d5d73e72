set_option maxHeartbeats 4000000 in
set_option maxRecDepth 3000 in
theorem c_k_readPlace_54 (z : Zp) (d : Nat) (M : Mem) (hk : k_readPlace_ok (M.1 54) (M.1 56)) : GM z mX12_readPlace (d + 2) [.ref 54] M (fun rs => rs = .inl (some (.int ((k_readPlace (M.1 54) (M.1 56)).1)), mrow M 54 ((k_readPlace (M.1 54) (M.1 56)).2))) := by
  simp only [k_readPlace_ok] at hk
  refine GM.of oX12_readPlace.1 (Nat.le_of_ble_eq_true rfl) ?_
  show G z mX12_readPlace (d + 2) 0 0 0 [some (.ref 54)] [] M _
  obtain ⟨Q, hQ⟩ : ∃ Q : Rs → Prop, Q = (fun rs => rs = .inl (some (.int ((k_readPlace (M.1 54) (M.1 56)).1)), mrow M 54 ((k_readPlace (M.1 54) (M.1 56)).2))) := ⟨_, rfl⟩
  rw [← hQ]
  refine G.sl [(.aload_n 0, 1, 0, 0, 0, 0), (.iconst 0, 1, 0, 0, 0, nI 0), (.aload_n 0, 1, 0, 0, 0, 0), (.getfield 144, 3, 11, 16, 139, 0), (.iconst 1, 1, 0, 0, 0, nI 1), (.isub, 1, 0, 0, 0, 0)] [] (pc2 := 8) (ls2 := [some (.ref 54)]) (st2 := [.int ((M.1 54 16) - (nI 1)), .int (nI 0), .ref 54]) (M2 := M) (Ps := []) (by decide +kernel) rfl rfl trivial ?_
  obtain ⟨k1, hk⟩ := hk
  rcases g2 : k_readNumber (M.1 54) (M.1 56) (nI 0) ((M.1 54 16) - (nI 1)) with ⟨v3, r4⟩
  have t5 : GM z mX12_readNumber (d + 1) [.ref 54, .int (nI 0), .int ((M.1 54 16) - (nI 1))] M (fun rs => rs = .inl (some (.int v3), mrow M 54 r4)) := by
    have q9 := c_k_readNumber_54 z d M (nI 0) ((M.1 54 16) - (nI 1)) k1
    try simp only [mput, mrow_same, mrow_hit, mrow_miss, mrow_sw, idr_eq, ne_eq, Nat.reduceEqDiff, not_false_eq_true, Nat.reduceLT, reduceCtorEq, g2] at q9
    exact q9
  refine G.callV (as := [.int (nI 0), .int ((M.1 54 16) - (nI 1))]) (rest := []) (a := 54) oX12_readNumber lk_EvenFindersModel_190 (by decide +kernel) rfl rfl ⟨rfl, rfl⟩ (Nat.le_of_ble_eq_true rfl) rfl ⟨Nat.le_of_ble_eq_true rfl, Nat.le_of_ble_eq_true rfl⟩ t5 (fun v9 N9 h6 => ?_) (fun E9 N9 h6 => by cases h6)
  cases h6
  show G z mX12_readPlace (d + 2) 0 0 11 [some (.ref 54)] [.int v3] (mrow M 54 r4) Q
  exact G.reti (by decide +kernel) rfl rfl (Nat.le_of_ble_eq_true rfl) (Nat.le_of_ble_eq_true rfl) ((by rw [hQ]; simp only [k_readPlace, g2, mrow_self]))
set_option maxHeartbeats 4000000 in
set_option maxRecDepth 3000 in
theorem c_k_readRoad_54 (z : Zp) (d : Nat) (M : Mem) (hk : k_readRoad_ok (M.1 54) (M.1 56) (M.1 57)) : GM z mX12_readRoad (d + 3) [.ref 54] M (fun rs => rs = .inl (none, mrow (mrow M 54 ((k_readRoad (M.1 54) (M.1 56) (M.1 57)).2.1)) 57 ((k_readRoad (M.1 54) (M.1 56) (M.1 57)).2.2))) := by
  simp only [k_readRoad_ok] at hk
  refine GM.of oX12_readRoad.1 (Nat.le_of_ble_eq_true rfl) ?_
  show G z mX12_readRoad (d + 3) 0 0 0 [some (.ref 54), none, none, none] [] M _
  obtain ⟨Q, hQ⟩ : ∃ Q : Rs → Prop, Q = (fun rs => rs = .inl (none, mrow (mrow M 54 ((k_readRoad (M.1 54) (M.1 56) (M.1 57)).2.1)) 57 ((k_readRoad (M.1 54) (M.1 56) (M.1 57)).2.2))) := ⟨_, rfl⟩
  rw [← hQ]
  refine G.sl [(.aload_n 0, 1, 0, 0, 0, 0)] [] (pc2 := 1) (ls2 := [some (.ref 54), none, none, none]) (st2 := [.ref 54]) (M2 := M) (Ps := []) (by decide +kernel) rfl rfl trivial ?_
  obtain ⟨k1, hk⟩ := hk
  rcases g2 : k_readPlace (M.1 54) (M.1 56) with ⟨v3, r4⟩
  try simp only [g2] at hk
  have t5 : GM z mX12_readPlace (d + 2) [.ref 54] M (fun rs => rs = .inl (some (.int v3), mrow M 54 r4)) := by
    have q9 := c_k_readPlace_54 z d M k1
    try simp only [mput, mrow_same, mrow_hit, mrow_miss, mrow_sw, idr_eq, ne_eq, Nat.reduceEqDiff, not_false_eq_true, Nat.reduceLT, reduceCtorEq, g2] at q9
    exact q9
  refine G.callV (as := []) (rest := []) (a := 54) oX12_readPlace lk_EvenFindersModel_194 (by decide +kernel) rfl rfl ⟨rfl, rfl⟩ (Nat.le_of_ble_eq_true rfl) rfl ⟨Nat.le_of_ble_eq_true rfl, Nat.le_of_ble_eq_true rfl⟩ t5 (fun v9 N9 h6 => ?_) (fun E9 N9 h6 => by cases h6)
  cases h6
  show G z mX12_readRoad (d + 3) 0 0 4 [some (.ref 54), none, none, none] [.int v3] (mrow M 54 r4) Q
  refine G.sl [(.istore_n 1, 1, 1, 0, 0, 0), (.aload_n 0, 1, 0, 0, 0, 0)] [] (pc2 := 6) (ls2 := [some (.ref 54), some (.int v3), none, none]) (st2 := [.ref 54]) (M2 := mrow M 54 r4) (Ps := []) (by decide +kernel) rfl rfl trivial ?_
  obtain ⟨k7, hk⟩ := hk
  rcases g8 : k_here r4 (M.1 56) with ⟨v9, r10⟩
  try simp only [g8] at hk
  have t11 : GM z mX12_here (d + 2) [.ref 54] (mrow M 54 r4) (fun rs => rs = .inl (some (.int v9), mrow M 54 r10)) := by
    have q9 := c_k_here_54 z (d + 2) (mrow M 54 r4) k7
    try simp only [mput, mrow_same, mrow_hit, mrow_miss, mrow_sw, idr_eq, ne_eq, Nat.reduceEqDiff, not_false_eq_true, Nat.reduceLT, reduceCtorEq, g8] at q9
    exact q9
  refine G.callV (as := []) (rest := []) (a := 54) oX12_here lk_EvenFindersModel_113 (by decide +kernel) rfl rfl ⟨rfl, rfl⟩ (Nat.le_of_ble_eq_true rfl) rfl ⟨Nat.le_of_ble_eq_true rfl, Nat.le_of_ble_eq_true rfl⟩ t11 (fun v9 N9 h12 => ?_) (fun E9 N9 h12 => by cases h12)
  cases h12
  show G z mX12_readRoad (d + 3) 0 0 9 [some (.ref 54), some (.int v3), none, none] [.int v9] (mrow M 54 r10) Q
  refine G.sl [(.pop, 1, 0, 0, 0, 0), (.aload_n 0, 1, 0, 0, 0, 0), (.getfield 107, 3, 11, 4, 127, 0), (.istore_n 2, 1, 2, 0, 0, 0), (.aload_n 0, 1, 0, 0, 0, 0)] [] (pc2 := 16) (ls2 := [some (.ref 54), some (.int v3), some (.int (r10 4)), none]) (st2 := [.ref 54]) (M2 := mrow M 54 r10) (Ps := []) (by decide +kernel) rfl rfl trivial ?_
  obtain ⟨k13, hk⟩ := hk
  rcases g14 : k_readPlace r10 (M.1 56) with ⟨v15, r16⟩
  try simp only [g14] at hk
  have t17 : GM z mX12_readPlace (d + 2) [.ref 54] (mrow M 54 r10) (fun rs => rs = .inl (some (.int v15), mrow M 54 r16)) := by
    have q9 := c_k_readPlace_54 z d (mrow M 54 r10) k13
    try simp only [mput, mrow_same, mrow_hit, mrow_miss, mrow_sw, idr_eq, ne_eq, Nat.reduceEqDiff, not_false_eq_true, Nat.reduceLT, reduceCtorEq, g14] at q9
    exact q9
  refine G.callV (as := []) (rest := []) (a := 54) oX12_readPlace lk_EvenFindersModel_194 (by decide +kernel) rfl rfl ⟨rfl, rfl⟩ (Nat.le_of_ble_eq_true rfl) rfl ⟨Nat.le_of_ble_eq_true rfl, Nat.le_of_ble_eq_true rfl⟩ t17 (fun v9 N9 h18 => ?_) (fun E9 N9 h18 => by cases h18)
  cases h18
  show G z mX12_readRoad (d + 3) 0 0 19 [some (.ref 54), some (.int v3), some (.int (r10 4)), none] [.int v15] (mrow M 54 r16) Q
  refine G.sl [(.istore_n 3, 1, 3, 0, 0, 0), (.aload_n 0, 1, 0, 0, 0, 0)] [] (pc2 := 21) (ls2 := [some (.ref 54), some (.int v3), some (.int (r10 4)), some (.int v15)]) (st2 := [.ref 54]) (M2 := mrow M 54 r16) (Ps := []) (by decide +kernel) rfl rfl trivial ?_
  obtain ⟨k19, hk⟩ := hk
  have t20 : GM z mX12_fine (d + 2) [.ref 54] (mrow M 54 r16) (fun rs => rs = .inl (some (.int (k_fine r16)), mrow M 54 r16)) := by
    have q9 := c_k_fine_54 z (d + 2) (mrow M 54 r16) 
    try simp only [mput, mrow_same, mrow_hit, mrow_miss, mrow_sw, idr_eq, ne_eq, Nat.reduceEqDiff, not_false_eq_true, Nat.reduceLT, reduceCtorEq] at q9
    exact q9
  refine G.callV (as := []) (rest := []) (a := 54) oX12_fine lk_EvenFindersModel_130 (by decide +kernel) rfl rfl ⟨rfl, rfl⟩ (Nat.le_of_ble_eq_true rfl) rfl ⟨Nat.le_of_ble_eq_true rfl, Nat.le_of_ble_eq_true rfl⟩ t20 (fun v9 N9 h21 => ?_) (fun E9 N9 h21 => by cases h21)
  cases h21
  show G z mX12_readRoad (d + 3) 0 0 24 [some (.ref 54), some (.int v3), some (.int (r10 4)), some (.int v15)] [.int (k_fine r16)] (mrow M 54 r16) Q
  refine G.if_eq (off := (14)) (tgt := 38) (by decide +kernel) rfl (fun c22 => ?_) (fun c22 => ?_)
  · skip
    rw [if_pos c22] at hk
    obtain ⟨k23, k24, k25, hk⟩ := hk
    refine G.sl [(.aload_n 0, 1, 0, 0, 0, 0), (.getfield 23, 3, 11, 10, 133, 0), (.iconst 3, 1, 0, 0, 0, nI 3), (.aload_n 0, 1, 0, 0, 0, 0), (.getfield 147, 3, 11, 17, 140, 0), (.imul, 1, 0, 0, 0, 0), (.iload_n 1, 1, 1, 0, 0, 0), (.iastore, 1, 0, 0, 0, 0), (.aload_n 0, 1, 0, 0, 0, 0), (.getfield 23, 3, 11, 10, 133, 0), (.iconst 3, 1, 0, 0, 0, nI 3), (.aload_n 0, 1, 0, 0, 0, 0), (.getfield 147, 3, 11, 17, 140, 0), (.imul, 1, 0, 0, 0, 0), (.iconst 1, 1, 0, 0, 0, nI 1), (.iadd, 1, 0, 0, 0, 0), (.iload_n 3, 1, 3, 0, 0, 0), (.iastore, 1, 0, 0, 0, 0), (.aload_n 0, 1, 0, 0, 0, 0), (.getfield 23, 3, 11, 10, 133, 0), (.iconst 3, 1, 0, 0, 0, nI 3), (.aload_n 0, 1, 0, 0, 0, 0), (.getfield 147, 3, 11, 17, 140, 0), (.imul, 1, 0, 0, 0, 0), (.iconst 2, 1, 0, 0, 0, nI 2), (.iadd, 1, 0, 0, 0, 0), (.aload_n 0, 1, 0, 0, 0, 0), (.iconst 1, 1, 0, 0, 0, nI 1), (.bipush 9, 2, 0, 0, 0, nI 9)] [3 * (ix (r16 17)), (3 * (ix (r16 17))) + 1] (pc2 := 80) (ls2 := [some (.ref 54), some (.int v3), some (.int (r10 4)), some (.int v15)]) (st2 := [.int (nI 9), .int (nI 1), .ref 54, .int (((nI 3) * (r16 17)) + (nI 2)), .ref 57]) (M2 := mput (mput (mrow M 54 r16) 57 (3 * (ix (r16 17))) v3) 57 ((3 * (ix (r16 17))) + 1) v15) (Ps := [((nI 3) * (r16 17)) = nI (3 * (ix (r16 17))) ∧ (3 * (ix (r16 17))) < 36, (((nI 3) * (r16 17)) + (nI 1)) = nI ((3 * (ix (r16 17))) + 1) ∧ ((3 * (ix (r16 17))) + 1) < 36]) (by decide +kernel) rfl rfl ⟨⟨(nMul rfl (ixE k23)), k24⟩, ⟨(nAdd (nMul rfl (ixE k23)) rfl), k25⟩, trivial⟩ ?_
    refine G.mem (M' := mrow (mrow M 54 r16) 57 (upd (upd (M.1 57) (3 * (ix (r16 17))) v3) ((3 * (ix (r16 17))) + 1) v15)) (by first | rfl | (simp only [mput, mrow_same, mrow_hit, mrow_miss, mrow_sw, idr_eq, ne_eq, Nat.reduceEqDiff, not_false_eq_true, Nat.reduceLT, reduceCtorEq]; done)) ?_
    obtain ⟨k26, hk⟩ := hk
    rcases g27 : k_readNumber r16 (M.1 56) (nI 1) (nI 9) with ⟨v28, r29⟩
    try simp only [g27] at hk
    have t30 : GM z mX12_readNumber (d + 2) [.ref 54, .int (nI 1), .int (nI 9)] (mrow (mrow M 54 r16) 57 (upd (upd (M.1 57) (3 * (ix (r16 17))) v3) ((3 * (ix (r16 17))) + 1) v15)) (fun rs => rs = .inl (some (.int v28), mrow (mrow M 54 r29) 57 (upd (upd (M.1 57) (3 * (ix (r16 17))) v3) ((3 * (ix (r16 17))) + 1) v15))) := by
      have q9 := c_k_readNumber_54 z (d + 1) (mrow (mrow M 54 r16) 57 (upd (upd (M.1 57) (3 * (ix (r16 17))) v3) ((3 * (ix (r16 17))) + 1) v15)) (nI 1) (nI 9) k26
      try simp only [mput, mrow_same, mrow_hit, mrow_miss, mrow_sw, idr_eq, ne_eq, Nat.reduceEqDiff, not_false_eq_true, Nat.reduceLT, reduceCtorEq, g27] at q9
      exact q9
    refine G.callV (as := [.int (nI 1), .int (nI 9)]) (rest := [.int (((nI 3) * (r16 17)) + (nI 2)), .ref 57]) (a := 54) oX12_readNumber lk_EvenFindersModel_190 (by decide +kernel) rfl rfl ⟨rfl, rfl⟩ (Nat.le_of_ble_eq_true rfl) rfl ⟨Nat.le_of_ble_eq_true rfl, Nat.le_of_ble_eq_true rfl⟩ t30 (fun v9 N9 h31 => ?_) (fun E9 N9 h31 => by cases h31)
    cases h31
    show G z mX12_readRoad (d + 3) 0 0 83 [some (.ref 54), some (.int v3), some (.int (r10 4)), some (.int v15)] [.int v28, .int (((nI 3) * (r16 17)) + (nI 2)), .ref 57] (mrow (mrow M 54 r29) 57 (upd (upd (M.1 57) (3 * (ix (r16 17))) v3) ((3 * (ix (r16 17))) + 1) v15)) Q
    obtain ⟨k32, hk⟩ := hk
    refine G.sl [(.iastore, 1, 0, 0, 0, 0), (.aload_n 0, 1, 0, 0, 0, 0), (.dup, 1, 0, 0, 0, 0), (.getfield 147, 3, 11, 17, 140, 0), (.iconst 1, 1, 0, 0, 0, nI 1), (.iadd, 1, 0, 0, 0, 0), (.putfield 147, 3, 11, 17, 140, 0)] [(3 * (ix (r16 17))) + 2] (pc2 := 94) (ls2 := [some (.ref 54), some (.int v3), some (.int (r10 4)), some (.int v15)]) (st2 := []) (M2 := mput (mput (mrow (mrow M 54 r29) 57 (upd (upd (M.1 57) (3 * (ix (r16 17))) v3) ((3 * (ix (r16 17))) + 1) v15)) 57 ((3 * (ix (r16 17))) + 2) v28) 54 17 ((r29 17) + (nI 1))) (Ps := [(((nI 3) * (r16 17)) + (nI 2)) = nI ((3 * (ix (r16 17))) + 2) ∧ ((3 * (ix (r16 17))) + 2) < 36]) (by decide +kernel) rfl rfl ⟨⟨(nAdd (nMul rfl (ixE k23)) rfl), k32⟩, trivial⟩ ?_
    refine G.mem (M' := mrow (mrow M 54 (upd r29 17 ((r29 17) + (nI 1)))) 57 (upd (upd (upd (M.1 57) (3 * (ix (r16 17))) v3) ((3 * (ix (r16 17))) + 1) v15) ((3 * (ix (r16 17))) + 2) v28)) (by first | rfl | (simp only [mput, mrow_same, mrow_hit, mrow_miss, mrow_sw, idr_eq, ne_eq, Nat.reduceEqDiff, not_false_eq_true, Nat.reduceLT, reduceCtorEq]; done)) ?_
    exact G.retv (by decide +kernel) rfl (Nat.le_of_ble_eq_true rfl) (Nat.le_of_ble_eq_true rfl) ((by rw [hQ]; simp only [k_readRoad, g2, g8, g14, if_pos c22, g27, mrow_self]))
  · skip
    rw [if_neg c22] at hk
    refine G.sl [(.iload_n 1, 1, 1, 0, 0, 0), (.iload_n 3, 1, 3, 0, 0, 0)] [] (pc2 := 29) (ls2 := [some (.ref 54), some (.int v3), some (.int (r10 4)), some (.int v15)]) (st2 := [.int v15, .int v3]) (M2 := mrow M 54 r16) (Ps := []) (by decide +kernel) rfl rfl trivial ?_
    refine G.ic_ne (off := (9)) (tgt := 38) (by decide +kernel) rfl (fun c33 => ?_) (fun c33 => ?_)
    · skip
      rw [if_neg c33] at hk
      obtain ⟨k34, k35, k36, hk⟩ := hk
      refine G.sl [(.aload_n 0, 1, 0, 0, 0, 0), (.getfield 23, 3, 11, 10, 133, 0), (.iconst 3, 1, 0, 0, 0, nI 3), (.aload_n 0, 1, 0, 0, 0, 0), (.getfield 147, 3, 11, 17, 140, 0), (.imul, 1, 0, 0, 0, 0), (.iload_n 1, 1, 1, 0, 0, 0), (.iastore, 1, 0, 0, 0, 0), (.aload_n 0, 1, 0, 0, 0, 0), (.getfield 23, 3, 11, 10, 133, 0), (.iconst 3, 1, 0, 0, 0, nI 3), (.aload_n 0, 1, 0, 0, 0, 0), (.getfield 147, 3, 11, 17, 140, 0), (.imul, 1, 0, 0, 0, 0), (.iconst 1, 1, 0, 0, 0, nI 1), (.iadd, 1, 0, 0, 0, 0), (.iload_n 3, 1, 3, 0, 0, 0), (.iastore, 1, 0, 0, 0, 0), (.aload_n 0, 1, 0, 0, 0, 0), (.getfield 23, 3, 11, 10, 133, 0), (.iconst 3, 1, 0, 0, 0, nI 3), (.aload_n 0, 1, 0, 0, 0, 0), (.getfield 147, 3, 11, 17, 140, 0), (.imul, 1, 0, 0, 0, 0), (.iconst 2, 1, 0, 0, 0, nI 2), (.iadd, 1, 0, 0, 0, 0), (.aload_n 0, 1, 0, 0, 0, 0), (.iconst 1, 1, 0, 0, 0, nI 1), (.bipush 9, 2, 0, 0, 0, nI 9)] [3 * (ix (r16 17)), (3 * (ix (r16 17))) + 1] (pc2 := 80) (ls2 := [some (.ref 54), some (.int v3), some (.int (r10 4)), some (.int v15)]) (st2 := [.int (nI 9), .int (nI 1), .ref 54, .int (((nI 3) * (r16 17)) + (nI 2)), .ref 57]) (M2 := mput (mput (mrow M 54 r16) 57 (3 * (ix (r16 17))) v3) 57 ((3 * (ix (r16 17))) + 1) v15) (Ps := [((nI 3) * (r16 17)) = nI (3 * (ix (r16 17))) ∧ (3 * (ix (r16 17))) < 36, (((nI 3) * (r16 17)) + (nI 1)) = nI ((3 * (ix (r16 17))) + 1) ∧ ((3 * (ix (r16 17))) + 1) < 36]) (by decide +kernel) rfl rfl ⟨⟨(nMul rfl (ixE k34)), k35⟩, ⟨(nAdd (nMul rfl (ixE k34)) rfl), k36⟩, trivial⟩ ?_
      refine G.mem (M' := mrow (mrow M 54 r16) 57 (upd (upd (M.1 57) (3 * (ix (r16 17))) v3) ((3 * (ix (r16 17))) + 1) v15)) (by first | rfl | (simp only [mput, mrow_same, mrow_hit, mrow_miss, mrow_sw, idr_eq, ne_eq, Nat.reduceEqDiff, not_false_eq_true, Nat.reduceLT, reduceCtorEq]; done)) ?_
      obtain ⟨k37, hk⟩ := hk
      rcases g38 : k_readNumber r16 (M.1 56) (nI 1) (nI 9) with ⟨v39, r40⟩
      try simp only [g38] at hk
      have t41 : GM z mX12_readNumber (d + 2) [.ref 54, .int (nI 1), .int (nI 9)] (mrow (mrow M 54 r16) 57 (upd (upd (M.1 57) (3 * (ix (r16 17))) v3) ((3 * (ix (r16 17))) + 1) v15)) (fun rs => rs = .inl (some (.int v39), mrow (mrow M 54 r40) 57 (upd (upd (M.1 57) (3 * (ix (r16 17))) v3) ((3 * (ix (r16 17))) + 1) v15))) := by
        have q9 := c_k_readNumber_54 z (d + 1) (mrow (mrow M 54 r16) 57 (upd (upd (M.1 57) (3 * (ix (r16 17))) v3) ((3 * (ix (r16 17))) + 1) v15)) (nI 1) (nI 9) k37
        try simp only [mput, mrow_same, mrow_hit, mrow_miss, mrow_sw, idr_eq, ne_eq, Nat.reduceEqDiff, not_false_eq_true, Nat.reduceLT, reduceCtorEq, g38] at q9
        exact q9
      refine G.callV (as := [.int (nI 1), .int (nI 9)]) (rest := [.int (((nI 3) * (r16 17)) + (nI 2)), .ref 57]) (a := 54) oX12_readNumber lk_EvenFindersModel_190 (by decide +kernel) rfl rfl ⟨rfl, rfl⟩ (Nat.le_of_ble_eq_true rfl) rfl ⟨Nat.le_of_ble_eq_true rfl, Nat.le_of_ble_eq_true rfl⟩ t41 (fun v9 N9 h42 => ?_) (fun E9 N9 h42 => by cases h42)
      cases h42
      show G z mX12_readRoad (d + 3) 0 0 83 [some (.ref 54), some (.int v3), some (.int (r10 4)), some (.int v15)] [.int v39, .int (((nI 3) * (r16 17)) + (nI 2)), .ref 57] (mrow (mrow M 54 r40) 57 (upd (upd (M.1 57) (3 * (ix (r16 17))) v3) ((3 * (ix (r16 17))) + 1) v15)) Q
      obtain ⟨k43, hk⟩ := hk
      refine G.sl [(.iastore, 1, 0, 0, 0, 0), (.aload_n 0, 1, 0, 0, 0, 0), (.dup, 1, 0, 0, 0, 0), (.getfield 147, 3, 11, 17, 140, 0), (.iconst 1, 1, 0, 0, 0, nI 1), (.iadd, 1, 0, 0, 0, 0), (.putfield 147, 3, 11, 17, 140, 0)] [(3 * (ix (r16 17))) + 2] (pc2 := 94) (ls2 := [some (.ref 54), some (.int v3), some (.int (r10 4)), some (.int v15)]) (st2 := []) (M2 := mput (mput (mrow (mrow M 54 r40) 57 (upd (upd (M.1 57) (3 * (ix (r16 17))) v3) ((3 * (ix (r16 17))) + 1) v15)) 57 ((3 * (ix (r16 17))) + 2) v39) 54 17 ((r40 17) + (nI 1))) (Ps := [(((nI 3) * (r16 17)) + (nI 2)) = nI ((3 * (ix (r16 17))) + 2) ∧ ((3 * (ix (r16 17))) + 2) < 36]) (by decide +kernel) rfl rfl ⟨⟨(nAdd (nMul rfl (ixE k34)) rfl), k43⟩, trivial⟩ ?_
      refine G.mem (M' := mrow (mrow M 54 (upd r40 17 ((r40 17) + (nI 1)))) 57 (upd (upd (upd (M.1 57) (3 * (ix (r16 17))) v3) ((3 * (ix (r16 17))) + 1) v15) ((3 * (ix (r16 17))) + 2) v39)) (by first | rfl | (simp only [mput, mrow_same, mrow_hit, mrow_miss, mrow_sw, idr_eq, ne_eq, Nat.reduceEqDiff, not_false_eq_true, Nat.reduceLT, reduceCtorEq]; done)) ?_
      exact G.retv (by decide +kernel) rfl (Nat.le_of_ble_eq_true rfl) (Nat.le_of_ble_eq_true rfl) ((by rw [hQ]; simp only [k_readRoad, g2, g8, g14, if_neg c22, if_neg c33, g38, mrow_self]))
    · skip
      rw [if_pos c33] at hk
      refine G.sl [(.aload_n 0, 1, 0, 0, 0, 0), (.iconst 2, 1, 0, 0, 0, nI 2), (.iload_n 2, 1, 2, 0, 0, 0)] [] (pc2 := 35) (ls2 := [some (.ref 54), some (.int v3), some (.int (r10 4)), some (.int v15)]) (st2 := [.int (r10 4), .int (nI 2), .ref 54]) (M2 := mrow M 54 r16) (Ps := []) (by decide +kernel) rfl rfl trivial ?_
      obtain ⟨k44, hk⟩ := hk
      rcases g45 : k_wrong r16 (nI 2) (r10 4) with ⟨u46, r47⟩
      try simp only [g45] at hk
      have t48 : GM z mX12_wrong (d + 2) [.ref 54, .int (nI 2), .int (r10 4)] (mrow M 54 r16) (fun rs => rs = .inl (none, mrow M 54 r47)) := by
        have q9 := c_k_wrong_54 z (d + 2) (mrow M 54 r16) (nI 2) (r10 4)
        try simp only [mput, mrow_same, mrow_hit, mrow_miss, mrow_sw, idr_eq, ne_eq, Nat.reduceEqDiff, not_false_eq_true, Nat.reduceLT, reduceCtorEq, g45] at q9
        exact q9
      refine G.callV (as := [.int (nI 2), .int (r10 4)]) (rest := []) (a := 54) oX12_wrong lk_EvenFindersModel_137 (by decide +kernel) rfl rfl ⟨rfl, rfl⟩ (Nat.le_of_ble_eq_true rfl) rfl ⟨Nat.le_of_ble_eq_true rfl, Nat.le_of_ble_eq_true rfl⟩ t48 (fun v9 N9 h49 => ?_) (fun E9 N9 h49 => by cases h49)
      cases h49
      show G z mX12_readRoad (d + 3) 0 0 38 [some (.ref 54), some (.int v3), some (.int (r10 4)), some (.int v15)] [] (mrow M 54 r47) Q
      obtain ⟨k50, k51, k52, hk⟩ := hk
      refine G.sl [(.aload_n 0, 1, 0, 0, 0, 0), (.getfield 23, 3, 11, 10, 133, 0), (.iconst 3, 1, 0, 0, 0, nI 3), (.aload_n 0, 1, 0, 0, 0, 0), (.getfield 147, 3, 11, 17, 140, 0), (.imul, 1, 0, 0, 0, 0), (.iload_n 1, 1, 1, 0, 0, 0), (.iastore, 1, 0, 0, 0, 0), (.aload_n 0, 1, 0, 0, 0, 0), (.getfield 23, 3, 11, 10, 133, 0), (.iconst 3, 1, 0, 0, 0, nI 3), (.aload_n 0, 1, 0, 0, 0, 0), (.getfield 147, 3, 11, 17, 140, 0), (.imul, 1, 0, 0, 0, 0), (.iconst 1, 1, 0, 0, 0, nI 1), (.iadd, 1, 0, 0, 0, 0), (.iload_n 3, 1, 3, 0, 0, 0), (.iastore, 1, 0, 0, 0, 0), (.aload_n 0, 1, 0, 0, 0, 0), (.getfield 23, 3, 11, 10, 133, 0), (.iconst 3, 1, 0, 0, 0, nI 3), (.aload_n 0, 1, 0, 0, 0, 0), (.getfield 147, 3, 11, 17, 140, 0), (.imul, 1, 0, 0, 0, 0), (.iconst 2, 1, 0, 0, 0, nI 2), (.iadd, 1, 0, 0, 0, 0), (.aload_n 0, 1, 0, 0, 0, 0), (.iconst 1, 1, 0, 0, 0, nI 1), (.bipush 9, 2, 0, 0, 0, nI 9)] [3 * (ix (r47 17)), (3 * (ix (r47 17))) + 1] (pc2 := 80) (ls2 := [some (.ref 54), some (.int v3), some (.int (r10 4)), some (.int v15)]) (st2 := [.int (nI 9), .int (nI 1), .ref 54, .int (((nI 3) * (r47 17)) + (nI 2)), .ref 57]) (M2 := mput (mput (mrow M 54 r47) 57 (3 * (ix (r47 17))) v3) 57 ((3 * (ix (r47 17))) + 1) v15) (Ps := [((nI 3) * (r47 17)) = nI (3 * (ix (r47 17))) ∧ (3 * (ix (r47 17))) < 36, (((nI 3) * (r47 17)) + (nI 1)) = nI ((3 * (ix (r47 17))) + 1) ∧ ((3 * (ix (r47 17))) + 1) < 36]) (by decide +kernel) rfl rfl ⟨⟨(nMul rfl (ixE k50)), k51⟩, ⟨(nAdd (nMul rfl (ixE k50)) rfl), k52⟩, trivial⟩ ?_
      refine G.mem (M' := mrow (mrow M 54 r47) 57 (upd (upd (M.1 57) (3 * (ix (r47 17))) v3) ((3 * (ix (r47 17))) + 1) v15)) (by first | rfl | (simp only [mput, mrow_same, mrow_hit, mrow_miss, mrow_sw, idr_eq, ne_eq, Nat.reduceEqDiff, not_false_eq_true, Nat.reduceLT, reduceCtorEq]; done)) ?_
      obtain ⟨k53, hk⟩ := hk
      rcases g54 : k_readNumber r47 (M.1 56) (nI 1) (nI 9) with ⟨v55, r56⟩
      try simp only [g54] at hk
      have t57 : GM z mX12_readNumber (d + 2) [.ref 54, .int (nI 1), .int (nI 9)] (mrow (mrow M 54 r47) 57 (upd (upd (M.1 57) (3 * (ix (r47 17))) v3) ((3 * (ix (r47 17))) + 1) v15)) (fun rs => rs = .inl (some (.int v55), mrow (mrow M 54 r56) 57 (upd (upd (M.1 57) (3 * (ix (r47 17))) v3) ((3 * (ix (r47 17))) + 1) v15))) := by
        have q9 := c_k_readNumber_54 z (d + 1) (mrow (mrow M 54 r47) 57 (upd (upd (M.1 57) (3 * (ix (r47 17))) v3) ((3 * (ix (r47 17))) + 1) v15)) (nI 1) (nI 9) k53
        try simp only [mput, mrow_same, mrow_hit, mrow_miss, mrow_sw, idr_eq, ne_eq, Nat.reduceEqDiff, not_false_eq_true, Nat.reduceLT, reduceCtorEq, g54] at q9
        exact q9
      refine G.callV (as := [.int (nI 1), .int (nI 9)]) (rest := [.int (((nI 3) * (r47 17)) + (nI 2)), .ref 57]) (a := 54) oX12_readNumber lk_EvenFindersModel_190 (by decide +kernel) rfl rfl ⟨rfl, rfl⟩ (Nat.le_of_ble_eq_true rfl) rfl ⟨Nat.le_of_ble_eq_true rfl, Nat.le_of_ble_eq_true rfl⟩ t57 (fun v9 N9 h58 => ?_) (fun E9 N9 h58 => by cases h58)
      cases h58
      show G z mX12_readRoad (d + 3) 0 0 83 [some (.ref 54), some (.int v3), some (.int (r10 4)), some (.int v15)] [.int v55, .int (((nI 3) * (r47 17)) + (nI 2)), .ref 57] (mrow (mrow M 54 r56) 57 (upd (upd (M.1 57) (3 * (ix (r47 17))) v3) ((3 * (ix (r47 17))) + 1) v15)) Q
      obtain ⟨k59, hk⟩ := hk
      refine G.sl [(.iastore, 1, 0, 0, 0, 0), (.aload_n 0, 1, 0, 0, 0, 0), (.dup, 1, 0, 0, 0, 0), (.getfield 147, 3, 11, 17, 140, 0), (.iconst 1, 1, 0, 0, 0, nI 1), (.iadd, 1, 0, 0, 0, 0), (.putfield 147, 3, 11, 17, 140, 0)] [(3 * (ix (r47 17))) + 2] (pc2 := 94) (ls2 := [some (.ref 54), some (.int v3), some (.int (r10 4)), some (.int v15)]) (st2 := []) (M2 := mput (mput (mrow (mrow M 54 r56) 57 (upd (upd (M.1 57) (3 * (ix (r47 17))) v3) ((3 * (ix (r47 17))) + 1) v15)) 57 ((3 * (ix (r47 17))) + 2) v55) 54 17 ((r56 17) + (nI 1))) (Ps := [(((nI 3) * (r47 17)) + (nI 2)) = nI ((3 * (ix (r47 17))) + 2) ∧ ((3 * (ix (r47 17))) + 2) < 36]) (by decide +kernel) rfl rfl ⟨⟨(nAdd (nMul rfl (ixE k50)) rfl), k59⟩, trivial⟩ ?_
      refine G.mem (M' := mrow (mrow M 54 (upd r56 17 ((r56 17) + (nI 1)))) 57 (upd (upd (upd (M.1 57) (3 * (ix (r47 17))) v3) ((3 * (ix (r47 17))) + 1) v15) ((3 * (ix (r47 17))) + 2) v55)) (by first | rfl | (simp only [mput, mrow_same, mrow_hit, mrow_miss, mrow_sw, idr_eq, ne_eq, Nat.reduceEqDiff, not_false_eq_true, Nat.reduceLT, reduceCtorEq]; done)) ?_
      exact G.retv (by decide +kernel) rfl (Nat.le_of_ble_eq_true rfl) (Nat.le_of_ble_eq_true rfl) ((by rw [hQ]; simp only [k_readRoad, g2, g8, g14, if_neg c22, if_pos c33, g45, g54, mrow_self]))
set_option maxHeartbeats 4000000 in
set_option maxRecDepth 3000 in
theorem c_k_readPlaces_54 (z : Zp) (d : Nat) (M : Mem) (hk : k_readPlaces_ok (M.1 54) (M.1 56)) : GM z mX12_readPlaces (d + 2) [.ref 54] M (fun rs => rs = .inl (none, mrow M 54 ((k_readPlaces (M.1 54) (M.1 56)).2))) := by
  simp only [k_readPlaces_ok] at hk
  refine GM.of oX12_readPlaces.1 (Nat.le_of_ble_eq_true rfl) ?_
  show G z mX12_readPlaces (d + 2) 0 0 0 [some (.ref 54), none, none] [] M _
  obtain ⟨Q, hQ⟩ : ∃ Q : Rs → Prop, Q = (fun rs => rs = .inl (none, mrow M 54 ((k_readPlaces (M.1 54) (M.1 56)).2))) := ⟨_, rfl⟩
  rw [← hQ]
  refine G.sl [(.aload_n 0, 1, 0, 0, 0, 0)] [] (pc2 := 1) (ls2 := [some (.ref 54), none, none]) (st2 := [.ref 54]) (M2 := M) (Ps := []) (by decide +kernel) rfl rfl trivial ?_
  obtain ⟨k1, hk⟩ := hk
  rcases g2 : k_here (M.1 54) (M.1 56) with ⟨v3, r4⟩
  try simp only [g2] at hk
  have t5 : GM z mX12_here (d + 1) [.ref 54] M (fun rs => rs = .inl (some (.int v3), mrow M 54 r4)) := by
    have q9 := c_k_here_54 z (d + 1) M k1
    try simp only [mput, mrow_same, mrow_hit, mrow_miss, mrow_sw, idr_eq, ne_eq, Nat.reduceEqDiff, not_false_eq_true, Nat.reduceLT, reduceCtorEq, g2] at q9
    exact q9
  refine G.callV (as := []) (rest := []) (a := 54) oX12_here lk_EvenFindersModel_113 (by decide +kernel) rfl rfl ⟨rfl, rfl⟩ (Nat.le_of_ble_eq_true rfl) rfl ⟨Nat.le_of_ble_eq_true rfl, Nat.le_of_ble_eq_true rfl⟩ t5 (fun v9 N9 h6 => ?_) (fun E9 N9 h6 => by cases h6)
  cases h6
  show G z mX12_readPlaces (d + 2) 0 0 4 [some (.ref 54), none, none] [.int v3] (mrow M 54 r4) Q
  refine G.sl [(.pop, 1, 0, 0, 0, 0), (.aload_n 0, 1, 0, 0, 0, 0), (.getfield 107, 3, 11, 4, 127, 0), (.istore_n 1, 1, 1, 0, 0, 0), (.aload_n 0, 1, 0, 0, 0, 0), (.iconst 1, 1, 0, 0, 0, nI 1), (.bipush 8, 2, 0, 0, 0, nI 8)] [] (pc2 := 14) (ls2 := [some (.ref 54), some (.int (r4 4)), none]) (st2 := [.int (nI 8), .int (nI 1), .ref 54]) (M2 := mrow M 54 r4) (Ps := []) (by decide +kernel) rfl rfl trivial ?_
  obtain ⟨k7, hk⟩ := hk
  rcases g8 : k_readNumber r4 (M.1 56) (nI 1) (nI 8) with ⟨v9, r10⟩
  have t11 : GM z mX12_readNumber (d + 1) [.ref 54, .int (nI 1), .int (nI 8)] (mrow M 54 r4) (fun rs => rs = .inl (some (.int v9), mrow M 54 r10)) := by
    have q9 := c_k_readNumber_54 z d (mrow M 54 r4) (nI 1) (nI 8) k7
    try simp only [mput, mrow_same, mrow_hit, mrow_miss, mrow_sw, idr_eq, ne_eq, Nat.reduceEqDiff, not_false_eq_true, Nat.reduceLT, reduceCtorEq, g8] at q9
    exact q9
  refine G.callV (as := [.int (nI 1), .int (nI 8)]) (rest := []) (a := 54) oX12_readNumber lk_EvenFindersModel_190 (by decide +kernel) rfl rfl ⟨rfl, rfl⟩ (Nat.le_of_ble_eq_true rfl) rfl ⟨Nat.le_of_ble_eq_true rfl, Nat.le_of_ble_eq_true rfl⟩ t11 (fun v9 N9 h12 => ?_) (fun E9 N9 h12 => by cases h12)
  cases h12
  show G z mX12_readPlaces (d + 2) 0 0 17 [some (.ref 54), some (.int (r4 4)), none] [.int v9] (mrow M 54 r10) Q
  refine G.sl [(.istore_n 2, 1, 2, 0, 0, 0), (.aload_n 0, 1, 0, 0, 0, 0)] [] (pc2 := 19) (ls2 := [some (.ref 54), some (.int (r4 4)), some (.int v9)]) (st2 := [.ref 54]) (M2 := mrow M 54 r10) (Ps := []) (by decide +kernel) rfl rfl trivial ?_
  have t14 : GM z mX12_fine (d + 1) [.ref 54] (mrow M 54 r10) (fun rs => rs = .inl (some (.int (k_fine r10)), mrow M 54 r10)) := by
    have q9 := c_k_fine_54 z (d + 1) (mrow M 54 r10) 
    try simp only [mput, mrow_same, mrow_hit, mrow_miss, mrow_sw, idr_eq, ne_eq, Nat.reduceEqDiff, not_false_eq_true, Nat.reduceLT, reduceCtorEq] at q9
    exact q9
  refine G.callV (as := []) (rest := []) (a := 54) oX12_fine lk_EvenFindersModel_130 (by decide +kernel) rfl rfl ⟨rfl, rfl⟩ (Nat.le_of_ble_eq_true rfl) rfl ⟨Nat.le_of_ble_eq_true rfl, Nat.le_of_ble_eq_true rfl⟩ t14 (fun v9 N9 h15 => ?_) (fun E9 N9 h15 => by cases h15)
  cases h15
  show G z mX12_readPlaces (d + 2) 0 0 22 [some (.ref 54), some (.int (r4 4)), some (.int v9)] [.int (k_fine r10)] (mrow M 54 r10) Q
  refine G.if_eq (off := (20)) (tgt := 42) (by decide +kernel) rfl (fun c16 => ?_) (fun c16 => ?_)
  · skip
    refine G.sl [(.aload_n 0, 1, 0, 0, 0, 0)] [] (pc2 := 43) (ls2 := [some (.ref 54), some (.int (r4 4)), some (.int v9)]) (st2 := [.ref 54]) (M2 := mrow M 54 r10) (Ps := []) (by decide +kernel) rfl rfl trivial ?_
    have t18 : GM z mX12_fine (d + 1) [.ref 54] (mrow M 54 r10) (fun rs => rs = .inl (some (.int (k_fine r10)), mrow M 54 r10)) := by
      have q9 := c_k_fine_54 z (d + 1) (mrow M 54 r10) 
      try simp only [mput, mrow_same, mrow_hit, mrow_miss, mrow_sw, idr_eq, ne_eq, Nat.reduceEqDiff, not_false_eq_true, Nat.reduceLT, reduceCtorEq] at q9
      exact q9
    refine G.callV (as := []) (rest := []) (a := 54) oX12_fine lk_EvenFindersModel_130 (by decide +kernel) rfl rfl ⟨rfl, rfl⟩ (Nat.le_of_ble_eq_true rfl) rfl ⟨Nat.le_of_ble_eq_true rfl, Nat.le_of_ble_eq_true rfl⟩ t18 (fun v9 N9 h19 => ?_) (fun E9 N9 h19 => by cases h19)
    cases h19
    show G z mX12_readPlaces (d + 2) 0 0 46 [some (.ref 54), some (.int (r4 4)), some (.int v9)] [.int (k_fine r10)] (mrow M 54 r10) Q
    refine G.if_eq (off := (13)) (tgt := 59) (by decide +kernel) rfl (fun _ => ?_) (fun h9 => absurd c16 h9)
    exact G.retv (by decide +kernel) rfl (Nat.le_of_ble_eq_true rfl) (Nat.le_of_ble_eq_true rfl) ((by rw [hQ]; simp only [k_readPlaces, g2, g8, if_pos c16, mrow_self]))
  · skip
    refine G.sl [(.aload_n 0, 1, 0, 0, 0, 0), (.getfield 144, 3, 11, 16, 139, 0), (.iload_n 2, 1, 2, 0, 0, 0), (.iadd, 1, 0, 0, 0, 0), (.bipush 8, 2, 0, 0, 0, nI 8)] [] (pc2 := 33) (ls2 := [some (.ref 54), some (.int (r4 4)), some (.int v9)]) (st2 := [.int (nI 8), .int ((r10 16) + v9)]) (M2 := mrow M 54 r10) (Ps := []) (by decide +kernel) rfl rfl trivial ?_
    refine G.ic_le (off := (9)) (tgt := 42) (by decide +kernel) rfl (fun c20 => ?_) (fun c20 => ?_)
    · skip
      refine G.sl [(.aload_n 0, 1, 0, 0, 0, 0)] [] (pc2 := 43) (ls2 := [some (.ref 54), some (.int (r4 4)), some (.int v9)]) (st2 := [.ref 54]) (M2 := mrow M 54 r10) (Ps := []) (by decide +kernel) rfl rfl trivial ?_
      have t22 : GM z mX12_fine (d + 1) [.ref 54] (mrow M 54 r10) (fun rs => rs = .inl (some (.int (k_fine r10)), mrow M 54 r10)) := by
        have q9 := c_k_fine_54 z (d + 1) (mrow M 54 r10) 
        try simp only [mput, mrow_same, mrow_hit, mrow_miss, mrow_sw, idr_eq, ne_eq, Nat.reduceEqDiff, not_false_eq_true, Nat.reduceLT, reduceCtorEq] at q9
        exact q9
      refine G.callV (as := []) (rest := []) (a := 54) oX12_fine lk_EvenFindersModel_130 (by decide +kernel) rfl rfl ⟨rfl, rfl⟩ (Nat.le_of_ble_eq_true rfl) rfl ⟨Nat.le_of_ble_eq_true rfl, Nat.le_of_ble_eq_true rfl⟩ t22 (fun v9 N9 h23 => ?_) (fun E9 N9 h23 => by cases h23)
      cases h23
      show G z mX12_readPlaces (d + 2) 0 0 46 [some (.ref 54), some (.int (r4 4)), some (.int v9)] [.int (k_fine r10)] (mrow M 54 r10) Q
      refine G.if_eq (off := (13)) (tgt := 59) (by decide +kernel) rfl (fun h9 => absurd h9 c16) (fun _ => ?_)
      refine G.sl [(.aload_n 0, 1, 0, 0, 0, 0), (.dup, 1, 0, 0, 0, 0), (.getfield 144, 3, 11, 16, 139, 0), (.iload_n 2, 1, 2, 0, 0, 0), (.iadd, 1, 0, 0, 0, 0), (.putfield 144, 3, 11, 16, 139, 0)] [] (pc2 := 59) (ls2 := [some (.ref 54), some (.int (r4 4)), some (.int v9)]) (st2 := []) (M2 := mput (mrow M 54 r10) 54 16 ((r10 16) + v9)) (Ps := []) (by decide +kernel) rfl rfl trivial ?_
      refine G.mem (M' := mrow M 54 (upd r10 16 ((r10 16) + v9))) (by first | rfl | (simp only [mput, mrow_same, mrow_hit, mrow_miss, mrow_sw, idr_eq, ne_eq, Nat.reduceEqDiff, not_false_eq_true, Nat.reduceLT, reduceCtorEq]; done)) ?_
      exact G.retv (by decide +kernel) rfl (Nat.le_of_ble_eq_true rfl) (Nat.le_of_ble_eq_true rfl) ((by rw [hQ]; simp only [k_readPlaces, g2, g8, if_neg c16, if_pos c20, mrow_self]))
    · skip
      refine G.sl [(.aload_n 0, 1, 0, 0, 0, 0), (.iconst 2, 1, 0, 0, 0, nI 2), (.iload_n 1, 1, 1, 0, 0, 0)] [] (pc2 := 39) (ls2 := [some (.ref 54), some (.int (r4 4)), some (.int v9)]) (st2 := [.int (r4 4), .int (nI 2), .ref 54]) (M2 := mrow M 54 r10) (Ps := []) (by decide +kernel) rfl rfl trivial ?_
      rcases g25 : k_wrong r10 (nI 2) (r4 4) with ⟨u26, r27⟩
      have t28 : GM z mX12_wrong (d + 1) [.ref 54, .int (nI 2), .int (r4 4)] (mrow M 54 r10) (fun rs => rs = .inl (none, mrow M 54 r27)) := by
        have q9 := c_k_wrong_54 z (d + 1) (mrow M 54 r10) (nI 2) (r4 4)
        try simp only [mput, mrow_same, mrow_hit, mrow_miss, mrow_sw, idr_eq, ne_eq, Nat.reduceEqDiff, not_false_eq_true, Nat.reduceLT, reduceCtorEq, g25] at q9
        exact q9
      refine G.callV (as := [.int (nI 2), .int (r4 4)]) (rest := []) (a := 54) oX12_wrong lk_EvenFindersModel_137 (by decide +kernel) rfl rfl ⟨rfl, rfl⟩ (Nat.le_of_ble_eq_true rfl) rfl ⟨Nat.le_of_ble_eq_true rfl, Nat.le_of_ble_eq_true rfl⟩ t28 (fun v9 N9 h29 => ?_) (fun E9 N9 h29 => by cases h29)
      cases h29
      show G z mX12_readPlaces (d + 2) 0 0 42 [some (.ref 54), some (.int (r4 4)), some (.int v9)] [] (mrow M 54 r27) Q
      refine G.sl [(.aload_n 0, 1, 0, 0, 0, 0)] [] (pc2 := 43) (ls2 := [some (.ref 54), some (.int (r4 4)), some (.int v9)]) (st2 := [.ref 54]) (M2 := mrow M 54 r27) (Ps := []) (by decide +kernel) rfl rfl trivial ?_
      have t31 : GM z mX12_fine (d + 1) [.ref 54] (mrow M 54 r27) (fun rs => rs = .inl (some (.int (k_fine r27)), mrow M 54 r27)) := by
        have q9 := c_k_fine_54 z (d + 1) (mrow M 54 r27) 
        try simp only [mput, mrow_same, mrow_hit, mrow_miss, mrow_sw, idr_eq, ne_eq, Nat.reduceEqDiff, not_false_eq_true, Nat.reduceLT, reduceCtorEq] at q9
        exact q9
      refine G.callV (as := []) (rest := []) (a := 54) oX12_fine lk_EvenFindersModel_130 (by decide +kernel) rfl rfl ⟨rfl, rfl⟩ (Nat.le_of_ble_eq_true rfl) rfl ⟨Nat.le_of_ble_eq_true rfl, Nat.le_of_ble_eq_true rfl⟩ t31 (fun v9 N9 h32 => ?_) (fun E9 N9 h32 => by cases h32)
      cases h32
      show G z mX12_readPlaces (d + 2) 0 0 46 [some (.ref 54), some (.int (r4 4)), some (.int v9)] [.int (k_fine r27)] (mrow M 54 r27) Q
      refine G.if_eq (off := (13)) (tgt := 59) (by decide +kernel) rfl (fun c33 => ?_) (fun c33 => ?_)
      · skip
        exact G.retv (by decide +kernel) rfl (Nat.le_of_ble_eq_true rfl) (Nat.le_of_ble_eq_true rfl) ((by rw [hQ]; simp only [k_readPlaces, g2, g8, if_neg c16, if_neg c20, g25, if_pos c33, mrow_self]))
      · skip
        refine G.sl [(.aload_n 0, 1, 0, 0, 0, 0), (.dup, 1, 0, 0, 0, 0), (.getfield 144, 3, 11, 16, 139, 0), (.iload_n 2, 1, 2, 0, 0, 0), (.iadd, 1, 0, 0, 0, 0), (.putfield 144, 3, 11, 16, 139, 0)] [] (pc2 := 59) (ls2 := [some (.ref 54), some (.int (r4 4)), some (.int v9)]) (st2 := []) (M2 := mput (mrow M 54 r27) 54 16 ((r27 16) + v9)) (Ps := []) (by decide +kernel) rfl rfl trivial ?_
        refine G.mem (M' := mrow M 54 (upd r27 16 ((r27 16) + v9))) (by first | rfl | (simp only [mput, mrow_same, mrow_hit, mrow_miss, mrow_sw, idr_eq, ne_eq, Nat.reduceEqDiff, not_false_eq_true, Nat.reduceLT, reduceCtorEq]; done)) ?_
        exact G.retv (by decide +kernel) rfl (Nat.le_of_ble_eq_true rfl) (Nat.le_of_ble_eq_true rfl) ((by rw [hQ]; simp only [k_readPlaces, g2, g8, if_neg c16, if_neg c20, g25, if_neg c33, mrow_self]))
set_option maxHeartbeats 4000000 in
set_option maxRecDepth 3000 in
theorem c_k_readRow_54 (z : Zp) (d : Nat) (M : Mem) (x1 : Int32) (hk : k_readRow_ok (M.1 54) (M.1 56) (M.1 57) (M.1 58) (M.1 59) x1) : GM z mX12_readRow (d + 5) [.ref 54, .int x1] M (fun rs => rs = .inl (none, mrow (mrow (mrow (mrow M 54 ((k_readRow (M.1 54) (M.1 56) (M.1 57) (M.1 58) (M.1 59) x1).2.1)) 57 ((k_readRow (M.1 54) (M.1 56) (M.1 57) (M.1 58) (M.1 59) x1).2.2.1)) 58 ((k_readRow (M.1 54) (M.1 56) (M.1 57) (M.1 58) (M.1 59) x1).2.2.2.1)) 59 ((k_readRow (M.1 54) (M.1 56) (M.1 57) (M.1 58) (M.1 59) x1).2.2.2.2))) := by
  simp only [k_readRow_ok] at hk
  refine GM.of oX12_readRow.1 (Nat.le_of_ble_eq_true rfl) ?_
  show G z mX12_readRow (d + 5) 0 0 0 [some (.ref 54), some (.int x1), none, none] [] M _
  obtain ⟨Q, hQ⟩ : ∃ Q : Rs → Prop, Q = (fun rs => rs = .inl (none, mrow (mrow (mrow (mrow M 54 ((k_readRow (M.1 54) (M.1 56) (M.1 57) (M.1 58) (M.1 59) x1).2.1)) 57 ((k_readRow (M.1 54) (M.1 56) (M.1 57) (M.1 58) (M.1 59) x1).2.2.1)) 58 ((k_readRow (M.1 54) (M.1 56) (M.1 57) (M.1 58) (M.1 59) x1).2.2.2.1)) 59 ((k_readRow (M.1 54) (M.1 56) (M.1 57) (M.1 58) (M.1 59) x1).2.2.2.2))) := ⟨_, rfl⟩
  rw [← hQ]
  refine G.sl [(.iload_n 1, 1, 1, 0, 0, 0), (.ldc 197, 2, 1, 5, 0, 0)] [] (pc2 := 3) (ls2 := [some (.ref 54), some (.int x1), none, none]) (st2 := [.ref 1005, .int x1]) (M2 := M) (Ps := []) (by decide +kernel) rfl rfl trivial ?_
  obtain ⟨k1, hk⟩ := hk
  have t2 : GM z mX12_of (d + 4) [.ref 1005] M (fun rs => rs = .inl (some (.int k_of_s5), M)) := by
    have q9 := c_k_of_s5 z d M 
    try simp only [mput, mrow_same, mrow_hit, mrow_miss, mrow_sw, idr_eq, ne_eq, Nat.reduceEqDiff, not_false_eq_true, Nat.reduceLT, reduceCtorEq] at q9
    exact q9
  refine G.callS (as := [.ref 1005]) (rest := [.int x1]) oX12_of lk_EvenFindersModel_198 (by decide +kernel) rfl (Nat.le_of_ble_eq_true rfl) rfl ⟨Nat.le_of_ble_eq_true rfl, Nat.le_of_ble_eq_true rfl⟩ t2 (fun v9 N9 h3 => ?_) (fun E9 N9 h3 => by cases h3)
  cases h3
  show G z mX12_readRow (d + 5) 0 0 6 [some (.ref 54), some (.int x1), none, none] [.int k_of_s5, .int x1] M Q
  refine G.ic_ne (off := (10)) (tgt := 16) (by decide +kernel) rfl (fun c4 => ?_) (fun c4 => ?_)
  · skip
    rw [if_neg c4] at hk
    refine G.sl [(.iload_n 1, 1, 1, 0, 0, 0), (.ldc 202, 2, 1, 6, 0, 0)] [] (pc2 := 19) (ls2 := [some (.ref 54), some (.int x1), none, none]) (st2 := [.ref 1006, .int x1]) (M2 := M) (Ps := []) (by decide +kernel) rfl rfl trivial ?_
    obtain ⟨k5, hk⟩ := hk
    have t6 : GM z mX12_of (d + 4) [.ref 1006] M (fun rs => rs = .inl (some (.int k_of_s6), M)) := by
      have q9 := c_k_of_s6 z d M 
      try simp only [mput, mrow_same, mrow_hit, mrow_miss, mrow_sw, idr_eq, ne_eq, Nat.reduceEqDiff, not_false_eq_true, Nat.reduceLT, reduceCtorEq] at q9
      exact q9
    refine G.callS (as := [.ref 1006]) (rest := [.int x1]) oX12_of lk_EvenFindersModel_198 (by decide +kernel) rfl (Nat.le_of_ble_eq_true rfl) rfl ⟨Nat.le_of_ble_eq_true rfl, Nat.le_of_ble_eq_true rfl⟩ t6 (fun v9 N9 h7 => ?_) (fun E9 N9 h7 => by cases h7)
    cases h7
    show G z mX12_readRow (d + 5) 0 0 22 [some (.ref 54), some (.int x1), none, none] [.int k_of_s6, .int x1] M Q
    refine G.ic_ne (off := (10)) (tgt := 32) (by decide +kernel) rfl (fun c8 => ?_) (fun c8 => ?_)
    · skip
      rw [if_neg c8] at hk
      refine G.sl [(.iload_n 1, 1, 1, 0, 0, 0), (.ldc 204, 2, 1, 8, 0, 0)] [] (pc2 := 35) (ls2 := [some (.ref 54), some (.int x1), none, none]) (st2 := [.ref 1008, .int x1]) (M2 := M) (Ps := []) (by decide +kernel) rfl rfl trivial ?_
      obtain ⟨k9, hk⟩ := hk
      have t10 : GM z mX12_of (d + 4) [.ref 1008] M (fun rs => rs = .inl (some (.int k_of_s8), M)) := by
        have q9 := c_k_of_s8 z d M 
        try simp only [mput, mrow_same, mrow_hit, mrow_miss, mrow_sw, idr_eq, ne_eq, Nat.reduceEqDiff, not_false_eq_true, Nat.reduceLT, reduceCtorEq] at q9
        exact q9
      refine G.callS (as := [.ref 1008]) (rest := [.int x1]) oX12_of lk_EvenFindersModel_198 (by decide +kernel) rfl (Nat.le_of_ble_eq_true rfl) rfl ⟨Nat.le_of_ble_eq_true rfl, Nat.le_of_ble_eq_true rfl⟩ t10 (fun v9 N9 h11 => ?_) (fun E9 N9 h11 => by cases h11)
      cases h11
      show G z mX12_readRow (d + 5) 0 0 38 [some (.ref 54), some (.int x1), none, none] [.int k_of_s8, .int x1] M Q
      refine G.ic_ne (off := (29)) (tgt := 67) (by decide +kernel) rfl (fun c12 => ?_) (fun c12 => ?_)
      · skip
        rw [if_neg c12] at hk
        refine G.sl [(.iload_n 1, 1, 1, 0, 0, 0), (.ldc 203, 2, 1, 7, 0, 0)] [] (pc2 := 70) (ls2 := [some (.ref 54), some (.int x1), none, none]) (st2 := [.ref 1007, .int x1]) (M2 := M) (Ps := []) (by decide +kernel) rfl rfl trivial ?_
        obtain ⟨k13, hk⟩ := hk
        have t14 : GM z mX12_of (d + 4) [.ref 1007] M (fun rs => rs = .inl (some (.int k_of_s7), M)) := by
          have q9 := c_k_of_s7 z d M 
          try simp only [mput, mrow_same, mrow_hit, mrow_miss, mrow_sw, idr_eq, ne_eq, Nat.reduceEqDiff, not_false_eq_true, Nat.reduceLT, reduceCtorEq] at q9
          exact q9
        refine G.callS (as := [.ref 1007]) (rest := [.int x1]) oX12_of lk_EvenFindersModel_198 (by decide +kernel) rfl (Nat.le_of_ble_eq_true rfl) rfl ⟨Nat.le_of_ble_eq_true rfl, Nat.le_of_ble_eq_true rfl⟩ t14 (fun v9 N9 h15 => ?_) (fun E9 N9 h15 => by cases h15)
        cases h15
        show G z mX12_readRow (d + 5) 0 0 73 [some (.ref 54), some (.int x1), none, none] [.int k_of_s7, .int x1] M Q
        refine G.ic_ne (off := (7)) (tgt := 80) (by decide +kernel) rfl (fun c16 => ?_) (fun c16 => ?_)
        · skip
          rw [if_neg c16] at hk
          refine G.sl [(.iconst 0, 1, 0, 0, 0, nI 0), (.istore_n 2, 1, 2, 0, 0, 0), (.iload_n 2, 1, 2, 0, 0, 0)] [] (pc2 := 83) (ls2 := [some (.ref 54), some (.int x1), some (.int (nI 0)), none]) (st2 := [.int (nI 0)]) (M2 := M) (Ps := []) (by decide +kernel) rfl rfl trivial ?_
          refine G.if_eq (off := (10)) (tgt := 93) (by decide +kernel) rfl (fun _ => ?_) (fun h9 => absurd (by decide) h9)
          refine G.sl [(.aload_n 0, 1, 0, 0, 0, 0), (.iconst 0, 1, 0, 0, 0, nI 0), (.aload_n 0, 1, 0, 0, 0, 0), (.getfield 153, 3, 11, 19, 142, 0), (.iconst 1, 1, 0, 0, 0, nI 1), (.isub, 1, 0, 0, 0, 0)] [] (pc2 := 101) (ls2 := [some (.ref 54), some (.int x1), some (.int (nI 0)), none]) (st2 := [.int ((M.1 54 19) - (nI 1)), .int (nI 0), .ref 54]) (M2 := M) (Ps := []) (by decide +kernel) rfl rfl trivial ?_
          obtain ⟨k17, hk⟩ := hk
          rcases g18 : k_readNumber (M.1 54) (M.1 56) (nI 0) ((M.1 54 19) - (nI 1)) with ⟨v19, r20⟩
          try simp only [g18] at hk
          have t21 : GM z mX12_readNumber (d + 4) [.ref 54, .int (nI 0), .int ((M.1 54 19) - (nI 1))] M (fun rs => rs = .inl (some (.int v19), mrow M 54 r20)) := by
            have q9 := c_k_readNumber_54 z (d + 3) M (nI 0) ((M.1 54 19) - (nI 1)) k17
            try simp only [mput, mrow_same, mrow_hit, mrow_miss, mrow_sw, idr_eq, ne_eq, Nat.reduceEqDiff, not_false_eq_true, Nat.reduceLT, reduceCtorEq, g18] at q9
            exact q9
          refine G.callV (as := [.int (nI 0), .int ((M.1 54 19) - (nI 1))]) (rest := []) (a := 54) oX12_readNumber lk_EvenFindersModel_190 (by decide +kernel) rfl rfl ⟨rfl, rfl⟩ (Nat.le_of_ble_eq_true rfl) rfl ⟨Nat.le_of_ble_eq_true rfl, Nat.le_of_ble_eq_true rfl⟩ t21 (fun v9 N9 h22 => ?_) (fun E9 N9 h22 => by cases h22)
          cases h22
          show G z mX12_readRow (d + 5) 0 0 104 [some (.ref 54), some (.int x1), some (.int (nI 0)), none] [.int v19] (mrow M 54 r20) Q
          refine G.sl [(.istore_n 3, 1, 3, 0, 0, 0), (.aload_n 0, 1, 0, 0, 0, 0), (.getfield 26, 3, 11, 11, 134, 0), (.iconst 3, 1, 0, 0, 0, nI 3), (.aload_n 0, 1, 0, 0, 0, 0), (.getfield 150, 3, 11, 18, 141, 0), (.imul, 1, 0, 0, 0, 0), (.iload_n 2, 1, 2, 0, 0, 0)] [] (pc2 := 116) (ls2 := [some (.ref 54), some (.int x1), some (.int (nI 0)), some (.int v19)]) (st2 := [.int (nI 0), .int ((nI 3) * (r20 18)), .ref 58]) (M2 := mrow M 54 r20) (Ps := []) (by decide +kernel) rfl rfl trivial ?_
          refine G.if_eq (off := (7)) (tgt := 123) (by decide +kernel) rfl (fun _ => ?_) (fun h9 => absurd (by decide) h9)
          refine G.sl [(.aload_n 0, 1, 0, 0, 0, 0)] [] (pc2 := 124) (ls2 := [some (.ref 54), some (.int x1), some (.int (nI 0)), some (.int v19)]) (st2 := [.ref 54, .int ((nI 3) * (r20 18)), .ref 58]) (M2 := mrow M 54 r20) (Ps := []) (by decide +kernel) rfl rfl trivial ?_
          obtain ⟨k23, hk⟩ := hk
          have t24 : GM z mX12_fine (d + 4) [.ref 54] (mrow M 54 r20) (fun rs => rs = .inl (some (.int (k_fine r20)), mrow M 54 r20)) := by
            have q9 := c_k_fine_54 z (d + 4) (mrow M 54 r20) 
            try simp only [mput, mrow_same, mrow_hit, mrow_miss, mrow_sw, idr_eq, ne_eq, Nat.reduceEqDiff, not_false_eq_true, Nat.reduceLT, reduceCtorEq] at q9
            exact q9
          refine G.callV (as := []) (rest := [.int ((nI 3) * (r20 18)), .ref 58]) (a := 54) oX12_fine lk_EvenFindersModel_130 (by decide +kernel) rfl rfl ⟨rfl, rfl⟩ (Nat.le_of_ble_eq_true rfl) rfl ⟨Nat.le_of_ble_eq_true rfl, Nat.le_of_ble_eq_true rfl⟩ t24 (fun v9 N9 h25 => ?_) (fun E9 N9 h25 => by cases h25)
          cases h25
          show G z mX12_readRow (d + 5) 0 0 127 [some (.ref 54), some (.int x1), some (.int (nI 0)), some (.int v19)] [.int (k_fine r20), .int ((nI 3) * (r20 18)), .ref 58] (mrow M 54 r20) Q
          refine G.if_eq (off := (12)) (tgt := 139) (by decide +kernel) rfl (fun c26 => ?_) (fun c26 => ?_)
          · skip
            rw [if_pos c26] at hk
            obtain ⟨k27, k28, hk⟩ := hk
            refine G.sl [(.iconst 0, 1, 0, 0, 0, nI 0), (.iastore, 1, 0, 0, 0, 0), (.aload_n 0, 1, 0, 0, 0, 0), (.getfield 26, 3, 11, 11, 134, 0), (.iconst 3, 1, 0, 0, 0, nI 3), (.aload_n 0, 1, 0, 0, 0, 0), (.getfield 150, 3, 11, 18, 141, 0), (.imul, 1, 0, 0, 0, 0), (.iconst 1, 1, 0, 0, 0, nI 1), (.iadd, 1, 0, 0, 0, 0), (.iload_n 2, 1, 2, 0, 0, 0)] [3 * (ix (r20 18))] (pc2 := 154) (ls2 := [some (.ref 54), some (.int x1), some (.int (nI 0)), some (.int v19)]) (st2 := [.int (nI 0), .int (((nI 3) * (r20 18)) + (nI 1)), .ref 58]) (M2 := mput (mrow M 54 r20) 58 (3 * (ix (r20 18))) (nI 0)) (Ps := [((nI 3) * (r20 18)) = nI (3 * (ix (r20 18))) ∧ (3 * (ix (r20 18))) < 30]) (by decide +kernel) rfl rfl ⟨⟨(nMul rfl (ixE k27)), k28⟩, trivial⟩ ?_
            refine G.mem (M' := mrow (mrow M 54 r20) 58 (upd (M.1 58) (3 * (ix (r20 18))) (nI 0))) (by first | rfl | (simp only [mput, mrow_same, mrow_hit, mrow_miss, mrow_sw, idr_eq, ne_eq, Nat.reduceEqDiff, not_false_eq_true, Nat.reduceLT, reduceCtorEq]; done)) ?_
            refine G.if_eq (off := (7)) (tgt := 161) (by decide +kernel) rfl (fun _ => ?_) (fun h9 => absurd (by decide) h9)
            obtain ⟨k29, hk⟩ := hk
            refine G.sl [(.iload_n 3, 1, 3, 0, 0, 0), (.iastore, 1, 0, 0, 0, 0), (.aload_n 0, 1, 0, 0, 0, 0), (.getfield 26, 3, 11, 11, 134, 0), (.iconst 3, 1, 0, 0, 0, nI 3), (.aload_n 0, 1, 0, 0, 0, 0), (.getfield 150, 3, 11, 18, 141, 0), (.imul, 1, 0, 0, 0, 0), (.iconst 2, 1, 0, 0, 0, nI 2), (.iadd, 1, 0, 0, 0, 0), (.aload_n 0, 1, 0, 0, 0, 0), (.iconst 1, 1, 0, 0, 0, nI 1), (.bipush 60, 2, 0, 0, 0, nI 60)] [(3 * (ix (r20 18))) + 1] (pc2 := 179) (ls2 := [some (.ref 54), some (.int x1), some (.int (nI 0)), some (.int v19)]) (st2 := [.int (nI 60), .int (nI 1), .ref 54, .int (((nI 3) * (r20 18)) + (nI 2)), .ref 58]) (M2 := mput (mrow (mrow M 54 r20) 58 (upd (M.1 58) (3 * (ix (r20 18))) (nI 0))) 58 ((3 * (ix (r20 18))) + 1) v19) (Ps := [(((nI 3) * (r20 18)) + (nI 1)) = nI ((3 * (ix (r20 18))) + 1) ∧ ((3 * (ix (r20 18))) + 1) < 30]) (by decide +kernel) rfl rfl ⟨⟨(nAdd (nMul rfl (ixE k27)) rfl), k29⟩, trivial⟩ ?_
            refine G.mem (M' := mrow (mrow M 54 r20) 58 (upd (upd (M.1 58) (3 * (ix (r20 18))) (nI 0)) ((3 * (ix (r20 18))) + 1) v19)) (by first | rfl | (simp only [mput, mrow_same, mrow_hit, mrow_miss, mrow_sw, idr_eq, ne_eq, Nat.reduceEqDiff, not_false_eq_true, Nat.reduceLT, reduceCtorEq]; done)) ?_
            obtain ⟨k30, hk⟩ := hk
            rcases g31 : k_readNumber r20 (M.1 56) (nI 1) (nI 60) with ⟨v32, r33⟩
            try simp only [g31] at hk
            have t34 : GM z mX12_readNumber (d + 4) [.ref 54, .int (nI 1), .int (nI 60)] (mrow (mrow M 54 r20) 58 (upd (upd (M.1 58) (3 * (ix (r20 18))) (nI 0)) ((3 * (ix (r20 18))) + 1) v19)) (fun rs => rs = .inl (some (.int v32), mrow (mrow M 54 r33) 58 (upd (upd (M.1 58) (3 * (ix (r20 18))) (nI 0)) ((3 * (ix (r20 18))) + 1) v19))) := by
              have q9 := c_k_readNumber_54 z (d + 3) (mrow (mrow M 54 r20) 58 (upd (upd (M.1 58) (3 * (ix (r20 18))) (nI 0)) ((3 * (ix (r20 18))) + 1) v19)) (nI 1) (nI 60) k30
              try simp only [mput, mrow_same, mrow_hit, mrow_miss, mrow_sw, idr_eq, ne_eq, Nat.reduceEqDiff, not_false_eq_true, Nat.reduceLT, reduceCtorEq, g31] at q9
              exact q9
            refine G.callV (as := [.int (nI 1), .int (nI 60)]) (rest := [.int (((nI 3) * (r20 18)) + (nI 2)), .ref 58]) (a := 54) oX12_readNumber lk_EvenFindersModel_190 (by decide +kernel) rfl rfl ⟨rfl, rfl⟩ (Nat.le_of_ble_eq_true rfl) rfl ⟨Nat.le_of_ble_eq_true rfl, Nat.le_of_ble_eq_true rfl⟩ t34 (fun v9 N9 h35 => ?_) (fun E9 N9 h35 => by cases h35)
            cases h35
            show G z mX12_readRow (d + 5) 0 0 182 [some (.ref 54), some (.int x1), some (.int (nI 0)), some (.int v19)] [.int v32, .int (((nI 3) * (r20 18)) + (nI 2)), .ref 58] (mrow (mrow M 54 r33) 58 (upd (upd (M.1 58) (3 * (ix (r20 18))) (nI 0)) ((3 * (ix (r20 18))) + 1) v19)) Q
            obtain ⟨k36, hk⟩ := hk
            refine G.sl [(.iastore, 1, 0, 0, 0, 0), (.aload_n 0, 1, 0, 0, 0, 0), (.dup, 1, 0, 0, 0, 0), (.getfield 150, 3, 11, 18, 141, 0), (.iconst 1, 1, 0, 0, 0, nI 1), (.iadd, 1, 0, 0, 0, 0), (.putfield 150, 3, 11, 18, 141, 0)] [(3 * (ix (r20 18))) + 2] (pc2 := 193) (ls2 := [some (.ref 54), some (.int x1), some (.int (nI 0)), some (.int v19)]) (st2 := []) (M2 := mput (mput (mrow (mrow M 54 r33) 58 (upd (upd (M.1 58) (3 * (ix (r20 18))) (nI 0)) ((3 * (ix (r20 18))) + 1) v19)) 58 ((3 * (ix (r20 18))) + 2) v32) 54 18 ((r33 18) + (nI 1))) (Ps := [(((nI 3) * (r20 18)) + (nI 2)) = nI ((3 * (ix (r20 18))) + 2) ∧ ((3 * (ix (r20 18))) + 2) < 30]) (by decide +kernel) rfl rfl ⟨⟨(nAdd (nMul rfl (ixE k27)) rfl), k36⟩, trivial⟩ ?_
            refine G.mem (M' := mrow (mrow M 54 (upd r33 18 ((r33 18) + (nI 1)))) 58 (upd (upd (upd (M.1 58) (3 * (ix (r20 18))) (nI 0)) ((3 * (ix (r20 18))) + 1) v19) ((3 * (ix (r20 18))) + 2) v32)) (by first | rfl | (simp only [mput, mrow_same, mrow_hit, mrow_miss, mrow_sw, idr_eq, ne_eq, Nat.reduceEqDiff, not_false_eq_true, Nat.reduceLT, reduceCtorEq]; done)) ?_
            refine G.mem (M' := mrow (mrow (mrow (mrow M 54 (upd r33 18 ((r33 18) + (nI 1)))) 57 (M.1 57)) 58 (upd (upd (upd (M.1 58) (3 * (ix (r20 18))) (nI 0)) ((3 * (ix (r20 18))) + 1) v19) ((3 * (ix (r20 18))) + 2) v32)) 59 (M.1 59)) ((((mrow_id (N := mrow (mrow M 54 (upd r33 18 ((r33 18) + (nI 1)))) 58 (upd (upd (upd (M.1 58) (3 * (ix (r20 18))) (nI 0)) ((3 * (ix (r20 18))) + 1) v19) ((3 * (ix (r20 18))) + 2) v32)) (c := 57) (f := M.1 57) (by first | rfl | (simp only [mput, mrow_same, mrow_hit, mrow_miss, mrow_sw, idr_eq, ne_eq, Nat.reduceEqDiff, not_false_eq_true, Nat.reduceLT, reduceCtorEq]; done))).symm).trans (mrow_id (N := mrow (mrow (mrow M 54 (upd r33 18 ((r33 18) + (nI 1)))) 58 (upd (upd (upd (M.1 58) (3 * (ix (r20 18))) (nI 0)) ((3 * (ix (r20 18))) + 1) v19) ((3 * (ix (r20 18))) + 2) v32)) 57 (M.1 57)) (c := 59) (f := M.1 59) (by first | rfl | (simp only [mput, mrow_same, mrow_hit, mrow_miss, mrow_sw, idr_eq, ne_eq, Nat.reduceEqDiff, not_false_eq_true, Nat.reduceLT, reduceCtorEq]; done))).symm).trans (by first | rfl | (simp only [mput, mrow_same, mrow_hit, mrow_miss, mrow_sw, idr_eq, ne_eq, Nat.reduceEqDiff, not_false_eq_true, Nat.reduceLT, reduceCtorEq]; done))) ?_
            exact G.retv (by decide +kernel) rfl (Nat.le_of_ble_eq_true rfl) (Nat.le_of_ble_eq_true rfl) ((by rw [hQ]; simp only [k_readRow, if_neg c4, if_neg c8, if_neg c12, if_neg c16, g18, if_pos c26, g31, mrow_self]))
          · skip
            rw [if_neg c26] at hk
            obtain ⟨k37, k38, k39, k40, hk⟩ := hk
            refine G.sl [(.aload_n 0, 1, 0, 0, 0, 0), (.getfield 29, 3, 11, 12, 135, 0), (.iload_n 3, 1, 3, 0, 0, 0), (.iaload, 1, 0, 0, 0, 0), (.goto 4, 3, 140, 0, 0, 0), (.iastore, 1, 0, 0, 0, 0), (.aload_n 0, 1, 0, 0, 0, 0), (.getfield 26, 3, 11, 11, 134, 0), (.iconst 3, 1, 0, 0, 0, nI 3), (.aload_n 0, 1, 0, 0, 0, 0), (.getfield 150, 3, 11, 18, 141, 0), (.imul, 1, 0, 0, 0, 0), (.iconst 1, 1, 0, 0, 0, nI 1), (.iadd, 1, 0, 0, 0, 0), (.iload_n 2, 1, 2, 0, 0, 0)] [ix v19, 3 * (ix (r20 18))] (pc2 := 154) (ls2 := [some (.ref 54), some (.int x1), some (.int (nI 0)), some (.int v19)]) (st2 := [.int (nI 0), .int (((nI 3) * (r20 18)) + (nI 1)), .ref 58]) (M2 := mput (mrow M 54 r20) 58 (3 * (ix (r20 18))) (M.1 59 (ix v19))) (Ps := [v19 = nI (ix v19) ∧ (ix v19) < 6, ((nI 3) * (r20 18)) = nI (3 * (ix (r20 18))) ∧ (3 * (ix (r20 18))) < 30]) (by decide +kernel) rfl rfl ⟨⟨(ixE k37), k38⟩, ⟨(nMul rfl (ixE k39)), k40⟩, trivial⟩ ?_
            refine G.mem (M' := mrow (mrow M 54 r20) 58 (upd (M.1 58) (3 * (ix (r20 18))) (M.1 59 (ix v19)))) (by first | rfl | (simp only [mput, mrow_same, mrow_hit, mrow_miss, mrow_sw, idr_eq, ne_eq, Nat.reduceEqDiff, not_false_eq_true, Nat.reduceLT, reduceCtorEq]; done)) ?_
            refine G.if_eq (off := (7)) (tgt := 161) (by decide +kernel) rfl (fun _ => ?_) (fun h9 => absurd (by decide) h9)
            obtain ⟨k41, hk⟩ := hk
            refine G.sl [(.iload_n 3, 1, 3, 0, 0, 0), (.iastore, 1, 0, 0, 0, 0), (.aload_n 0, 1, 0, 0, 0, 0), (.getfield 26, 3, 11, 11, 134, 0), (.iconst 3, 1, 0, 0, 0, nI 3), (.aload_n 0, 1, 0, 0, 0, 0), (.getfield 150, 3, 11, 18, 141, 0), (.imul, 1, 0, 0, 0, 0), (.iconst 2, 1, 0, 0, 0, nI 2), (.iadd, 1, 0, 0, 0, 0), (.aload_n 0, 1, 0, 0, 0, 0), (.iconst 1, 1, 0, 0, 0, nI 1), (.bipush 60, 2, 0, 0, 0, nI 60)] [(3 * (ix (r20 18))) + 1] (pc2 := 179) (ls2 := [some (.ref 54), some (.int x1), some (.int (nI 0)), some (.int v19)]) (st2 := [.int (nI 60), .int (nI 1), .ref 54, .int (((nI 3) * (r20 18)) + (nI 2)), .ref 58]) (M2 := mput (mrow (mrow M 54 r20) 58 (upd (M.1 58) (3 * (ix (r20 18))) (M.1 59 (ix v19)))) 58 ((3 * (ix (r20 18))) + 1) v19) (Ps := [(((nI 3) * (r20 18)) + (nI 1)) = nI ((3 * (ix (r20 18))) + 1) ∧ ((3 * (ix (r20 18))) + 1) < 30]) (by decide +kernel) rfl rfl ⟨⟨(nAdd (nMul rfl (ixE k39)) rfl), k41⟩, trivial⟩ ?_
            refine G.mem (M' := mrow (mrow M 54 r20) 58 (upd (upd (M.1 58) (3 * (ix (r20 18))) (M.1 59 (ix v19))) ((3 * (ix (r20 18))) + 1) v19)) (by first | rfl | (simp only [mput, mrow_same, mrow_hit, mrow_miss, mrow_sw, idr_eq, ne_eq, Nat.reduceEqDiff, not_false_eq_true, Nat.reduceLT, reduceCtorEq]; done)) ?_
            obtain ⟨k42, hk⟩ := hk
            rcases g43 : k_readNumber r20 (M.1 56) (nI 1) (nI 60) with ⟨v44, r45⟩
            try simp only [g43] at hk
            have t46 : GM z mX12_readNumber (d + 4) [.ref 54, .int (nI 1), .int (nI 60)] (mrow (mrow M 54 r20) 58 (upd (upd (M.1 58) (3 * (ix (r20 18))) (M.1 59 (ix v19))) ((3 * (ix (r20 18))) + 1) v19)) (fun rs => rs = .inl (some (.int v44), mrow (mrow M 54 r45) 58 (upd (upd (M.1 58) (3 * (ix (r20 18))) (M.1 59 (ix v19))) ((3 * (ix (r20 18))) + 1) v19))) := by
              have q9 := c_k_readNumber_54 z (d + 3) (mrow (mrow M 54 r20) 58 (upd (upd (M.1 58) (3 * (ix (r20 18))) (M.1 59 (ix v19))) ((3 * (ix (r20 18))) + 1) v19)) (nI 1) (nI 60) k42
              try simp only [mput, mrow_same, mrow_hit, mrow_miss, mrow_sw, idr_eq, ne_eq, Nat.reduceEqDiff, not_false_eq_true, Nat.reduceLT, reduceCtorEq, g43] at q9
              exact q9
            refine G.callV (as := [.int (nI 1), .int (nI 60)]) (rest := [.int (((nI 3) * (r20 18)) + (nI 2)), .ref 58]) (a := 54) oX12_readNumber lk_EvenFindersModel_190 (by decide +kernel) rfl rfl ⟨rfl, rfl⟩ (Nat.le_of_ble_eq_true rfl) rfl ⟨Nat.le_of_ble_eq_true rfl, Nat.le_of_ble_eq_true rfl⟩ t46 (fun v9 N9 h47 => ?_) (fun E9 N9 h47 => by cases h47)
            cases h47
            show G z mX12_readRow (d + 5) 0 0 182 [some (.ref 54), some (.int x1), some (.int (nI 0)), some (.int v19)] [.int v44, .int (((nI 3) * (r20 18)) + (nI 2)), .ref 58] (mrow (mrow M 54 r45) 58 (upd (upd (M.1 58) (3 * (ix (r20 18))) (M.1 59 (ix v19))) ((3 * (ix (r20 18))) + 1) v19)) Q
            obtain ⟨k48, hk⟩ := hk
            refine G.sl [(.iastore, 1, 0, 0, 0, 0), (.aload_n 0, 1, 0, 0, 0, 0), (.dup, 1, 0, 0, 0, 0), (.getfield 150, 3, 11, 18, 141, 0), (.iconst 1, 1, 0, 0, 0, nI 1), (.iadd, 1, 0, 0, 0, 0), (.putfield 150, 3, 11, 18, 141, 0)] [(3 * (ix (r20 18))) + 2] (pc2 := 193) (ls2 := [some (.ref 54), some (.int x1), some (.int (nI 0)), some (.int v19)]) (st2 := []) (M2 := mput (mput (mrow (mrow M 54 r45) 58 (upd (upd (M.1 58) (3 * (ix (r20 18))) (M.1 59 (ix v19))) ((3 * (ix (r20 18))) + 1) v19)) 58 ((3 * (ix (r20 18))) + 2) v44) 54 18 ((r45 18) + (nI 1))) (Ps := [(((nI 3) * (r20 18)) + (nI 2)) = nI ((3 * (ix (r20 18))) + 2) ∧ ((3 * (ix (r20 18))) + 2) < 30]) (by decide +kernel) rfl rfl ⟨⟨(nAdd (nMul rfl (ixE k39)) rfl), k48⟩, trivial⟩ ?_
            refine G.mem (M' := mrow (mrow M 54 (upd r45 18 ((r45 18) + (nI 1)))) 58 (upd (upd (upd (M.1 58) (3 * (ix (r20 18))) (M.1 59 (ix v19))) ((3 * (ix (r20 18))) + 1) v19) ((3 * (ix (r20 18))) + 2) v44)) (by first | rfl | (simp only [mput, mrow_same, mrow_hit, mrow_miss, mrow_sw, idr_eq, ne_eq, Nat.reduceEqDiff, not_false_eq_true, Nat.reduceLT, reduceCtorEq]; done)) ?_
            refine G.mem (M' := mrow (mrow (mrow (mrow M 54 (upd r45 18 ((r45 18) + (nI 1)))) 57 (M.1 57)) 58 (upd (upd (upd (M.1 58) (3 * (ix (r20 18))) (M.1 59 (ix v19))) ((3 * (ix (r20 18))) + 1) v19) ((3 * (ix (r20 18))) + 2) v44)) 59 (M.1 59)) ((((mrow_id (N := mrow (mrow M 54 (upd r45 18 ((r45 18) + (nI 1)))) 58 (upd (upd (upd (M.1 58) (3 * (ix (r20 18))) (M.1 59 (ix v19))) ((3 * (ix (r20 18))) + 1) v19) ((3 * (ix (r20 18))) + 2) v44)) (c := 57) (f := M.1 57) (by first | rfl | (simp only [mput, mrow_same, mrow_hit, mrow_miss, mrow_sw, idr_eq, ne_eq, Nat.reduceEqDiff, not_false_eq_true, Nat.reduceLT, reduceCtorEq]; done))).symm).trans (mrow_id (N := mrow (mrow (mrow M 54 (upd r45 18 ((r45 18) + (nI 1)))) 58 (upd (upd (upd (M.1 58) (3 * (ix (r20 18))) (M.1 59 (ix v19))) ((3 * (ix (r20 18))) + 1) v19) ((3 * (ix (r20 18))) + 2) v44)) 57 (M.1 57)) (c := 59) (f := M.1 59) (by first | rfl | (simp only [mput, mrow_same, mrow_hit, mrow_miss, mrow_sw, idr_eq, ne_eq, Nat.reduceEqDiff, not_false_eq_true, Nat.reduceLT, reduceCtorEq]; done))).symm).trans (by first | rfl | (simp only [mput, mrow_same, mrow_hit, mrow_miss, mrow_sw, idr_eq, ne_eq, Nat.reduceEqDiff, not_false_eq_true, Nat.reduceLT, reduceCtorEq]; done))) ?_
            exact G.retv (by decide +kernel) rfl (Nat.le_of_ble_eq_true rfl) (Nat.le_of_ble_eq_true rfl) ((by rw [hQ]; simp only [k_readRow, if_neg c4, if_neg c8, if_neg c12, if_neg c16, g18, if_neg c26, g43, mrow_self]))
        · skip
          rw [if_pos c16] at hk
          refine G.sl [(.iconst 1, 1, 0, 0, 0, nI 1), (.goto 4, 3, 81, 0, 0, 0), (.istore_n 2, 1, 2, 0, 0, 0), (.iload_n 2, 1, 2, 0, 0, 0)] [] (pc2 := 83) (ls2 := [some (.ref 54), some (.int x1), some (.int (nI 1)), none]) (st2 := [.int (nI 1)]) (M2 := M) (Ps := []) (by decide +kernel) rfl rfl trivial ?_
          refine G.if_eq (off := (10)) (tgt := 93) (by decide +kernel) rfl (fun h9 => absurd h9 (by decide)) (fun _ => ?_)
          refine G.sl [(.aload_n 0, 1, 0, 0, 0, 0)] [] (pc2 := 87) (ls2 := [some (.ref 54), some (.int x1), some (.int (nI 1)), none]) (st2 := [.ref 54]) (M2 := M) (Ps := []) (by decide +kernel) rfl rfl trivial ?_
          obtain ⟨k49, hk⟩ := hk
          rcases g50 : k_readPlace (M.1 54) (M.1 56) with ⟨v51, r52⟩
          try simp only [g50] at hk
          have t53 : GM z mX12_readPlace (d + 4) [.ref 54] M (fun rs => rs = .inl (some (.int v51), mrow M 54 r52)) := by
            have q9 := c_k_readPlace_54 z (d + 2) M k49
            try simp only [mput, mrow_same, mrow_hit, mrow_miss, mrow_sw, idr_eq, ne_eq, Nat.reduceEqDiff, not_false_eq_true, Nat.reduceLT, reduceCtorEq, g50] at q9
            exact q9
          refine G.callV (as := []) (rest := []) (a := 54) oX12_readPlace lk_EvenFindersModel_194 (by decide +kernel) rfl rfl ⟨rfl, rfl⟩ (Nat.le_of_ble_eq_true rfl) rfl ⟨Nat.le_of_ble_eq_true rfl, Nat.le_of_ble_eq_true rfl⟩ t53 (fun v9 N9 h54 => ?_) (fun E9 N9 h54 => by cases h54)
          cases h54
          show G z mX12_readRow (d + 5) 0 0 90 [some (.ref 54), some (.int x1), some (.int (nI 1)), none] [.int v51] (mrow M 54 r52) Q
          refine G.sl [(.goto 14, 3, 104, 0, 0, 0), (.istore_n 3, 1, 3, 0, 0, 0), (.aload_n 0, 1, 0, 0, 0, 0), (.getfield 26, 3, 11, 11, 134, 0), (.iconst 3, 1, 0, 0, 0, nI 3), (.aload_n 0, 1, 0, 0, 0, 0), (.getfield 150, 3, 11, 18, 141, 0), (.imul, 1, 0, 0, 0, 0), (.iload_n 2, 1, 2, 0, 0, 0)] [] (pc2 := 116) (ls2 := [some (.ref 54), some (.int x1), some (.int (nI 1)), some (.int v51)]) (st2 := [.int (nI 1), .int ((nI 3) * (r52 18)), .ref 58]) (M2 := mrow M 54 r52) (Ps := []) (by decide +kernel) rfl rfl trivial ?_
          refine G.if_eq (off := (7)) (tgt := 123) (by decide +kernel) rfl (fun h9 => absurd h9 (by decide)) (fun _ => ?_)
          obtain ⟨k55, k56, hk⟩ := hk
          refine G.sl [(.iload_n 3, 1, 3, 0, 0, 0), (.goto 20, 3, 140, 0, 0, 0), (.iastore, 1, 0, 0, 0, 0), (.aload_n 0, 1, 0, 0, 0, 0), (.getfield 26, 3, 11, 11, 134, 0), (.iconst 3, 1, 0, 0, 0, nI 3), (.aload_n 0, 1, 0, 0, 0, 0), (.getfield 150, 3, 11, 18, 141, 0), (.imul, 1, 0, 0, 0, 0), (.iconst 1, 1, 0, 0, 0, nI 1), (.iadd, 1, 0, 0, 0, 0), (.iload_n 2, 1, 2, 0, 0, 0)] [3 * (ix (r52 18))] (pc2 := 154) (ls2 := [some (.ref 54), some (.int x1), some (.int (nI 1)), some (.int v51)]) (st2 := [.int (nI 1), .int (((nI 3) * (r52 18)) + (nI 1)), .ref 58]) (M2 := mput (mrow M 54 r52) 58 (3 * (ix (r52 18))) v51) (Ps := [((nI 3) * (r52 18)) = nI (3 * (ix (r52 18))) ∧ (3 * (ix (r52 18))) < 30]) (by decide +kernel) rfl rfl ⟨⟨(nMul rfl (ixE k55)), k56⟩, trivial⟩ ?_
          refine G.mem (M' := mrow (mrow M 54 r52) 58 (upd (M.1 58) (3 * (ix (r52 18))) v51)) (by first | rfl | (simp only [mput, mrow_same, mrow_hit, mrow_miss, mrow_sw, idr_eq, ne_eq, Nat.reduceEqDiff, not_false_eq_true, Nat.reduceLT, reduceCtorEq]; done)) ?_
          refine G.if_eq (off := (7)) (tgt := 161) (by decide +kernel) rfl (fun h9 => absurd h9 (by decide)) (fun _ => ?_)
          obtain ⟨k57, hk⟩ := hk
          refine G.sl [(.iconst (-1), 1, 0, 0, 0, (-1)), (.goto 4, 3, 162, 0, 0, 0), (.iastore, 1, 0, 0, 0, 0), (.aload_n 0, 1, 0, 0, 0, 0), (.getfield 26, 3, 11, 11, 134, 0), (.iconst 3, 1, 0, 0, 0, nI 3), (.aload_n 0, 1, 0, 0, 0, 0), (.getfield 150, 3, 11, 18, 141, 0), (.imul, 1, 0, 0, 0, 0), (.iconst 2, 1, 0, 0, 0, nI 2), (.iadd, 1, 0, 0, 0, 0), (.aload_n 0, 1, 0, 0, 0, 0), (.iconst 1, 1, 0, 0, 0, nI 1), (.bipush 60, 2, 0, 0, 0, nI 60)] [(3 * (ix (r52 18))) + 1] (pc2 := 179) (ls2 := [some (.ref 54), some (.int x1), some (.int (nI 1)), some (.int v51)]) (st2 := [.int (nI 60), .int (nI 1), .ref 54, .int (((nI 3) * (r52 18)) + (nI 2)), .ref 58]) (M2 := mput (mrow (mrow M 54 r52) 58 (upd (M.1 58) (3 * (ix (r52 18))) v51)) 58 ((3 * (ix (r52 18))) + 1) ((-1))) (Ps := [(((nI 3) * (r52 18)) + (nI 1)) = nI ((3 * (ix (r52 18))) + 1) ∧ ((3 * (ix (r52 18))) + 1) < 30]) (by decide +kernel) rfl rfl ⟨⟨(nAdd (nMul rfl (ixE k55)) rfl), k57⟩, trivial⟩ ?_
          refine G.mem (M' := mrow (mrow M 54 r52) 58 (upd (upd (M.1 58) (3 * (ix (r52 18))) v51) ((3 * (ix (r52 18))) + 1) ((-1)))) (by first | rfl | (simp only [mput, mrow_same, mrow_hit, mrow_miss, mrow_sw, idr_eq, ne_eq, Nat.reduceEqDiff, not_false_eq_true, Nat.reduceLT, reduceCtorEq]; done)) ?_
          obtain ⟨k58, hk⟩ := hk
          rcases g59 : k_readNumber r52 (M.1 56) (nI 1) (nI 60) with ⟨v60, r61⟩
          try simp only [g59] at hk
          have t62 : GM z mX12_readNumber (d + 4) [.ref 54, .int (nI 1), .int (nI 60)] (mrow (mrow M 54 r52) 58 (upd (upd (M.1 58) (3 * (ix (r52 18))) v51) ((3 * (ix (r52 18))) + 1) ((-1)))) (fun rs => rs = .inl (some (.int v60), mrow (mrow M 54 r61) 58 (upd (upd (M.1 58) (3 * (ix (r52 18))) v51) ((3 * (ix (r52 18))) + 1) ((-1))))) := by
            have q9 := c_k_readNumber_54 z (d + 3) (mrow (mrow M 54 r52) 58 (upd (upd (M.1 58) (3 * (ix (r52 18))) v51) ((3 * (ix (r52 18))) + 1) ((-1)))) (nI 1) (nI 60) k58
            try simp only [mput, mrow_same, mrow_hit, mrow_miss, mrow_sw, idr_eq, ne_eq, Nat.reduceEqDiff, not_false_eq_true, Nat.reduceLT, reduceCtorEq, g59] at q9
            exact q9
          refine G.callV (as := [.int (nI 1), .int (nI 60)]) (rest := [.int (((nI 3) * (r52 18)) + (nI 2)), .ref 58]) (a := 54) oX12_readNumber lk_EvenFindersModel_190 (by decide +kernel) rfl rfl ⟨rfl, rfl⟩ (Nat.le_of_ble_eq_true rfl) rfl ⟨Nat.le_of_ble_eq_true rfl, Nat.le_of_ble_eq_true rfl⟩ t62 (fun v9 N9 h63 => ?_) (fun E9 N9 h63 => by cases h63)
          cases h63
          show G z mX12_readRow (d + 5) 0 0 182 [some (.ref 54), some (.int x1), some (.int (nI 1)), some (.int v51)] [.int v60, .int (((nI 3) * (r52 18)) + (nI 2)), .ref 58] (mrow (mrow M 54 r61) 58 (upd (upd (M.1 58) (3 * (ix (r52 18))) v51) ((3 * (ix (r52 18))) + 1) ((-1)))) Q
          obtain ⟨k64, hk⟩ := hk
          refine G.sl [(.iastore, 1, 0, 0, 0, 0), (.aload_n 0, 1, 0, 0, 0, 0), (.dup, 1, 0, 0, 0, 0), (.getfield 150, 3, 11, 18, 141, 0), (.iconst 1, 1, 0, 0, 0, nI 1), (.iadd, 1, 0, 0, 0, 0), (.putfield 150, 3, 11, 18, 141, 0)] [(3 * (ix (r52 18))) + 2] (pc2 := 193) (ls2 := [some (.ref 54), some (.int x1), some (.int (nI 1)), some (.int v51)]) (st2 := []) (M2 := mput (mput (mrow (mrow M 54 r61) 58 (upd (upd (M.1 58) (3 * (ix (r52 18))) v51) ((3 * (ix (r52 18))) + 1) ((-1)))) 58 ((3 * (ix (r52 18))) + 2) v60) 54 18 ((r61 18) + (nI 1))) (Ps := [(((nI 3) * (r52 18)) + (nI 2)) = nI ((3 * (ix (r52 18))) + 2) ∧ ((3 * (ix (r52 18))) + 2) < 30]) (by decide +kernel) rfl rfl ⟨⟨(nAdd (nMul rfl (ixE k55)) rfl), k64⟩, trivial⟩ ?_
          refine G.mem (M' := mrow (mrow M 54 (upd r61 18 ((r61 18) + (nI 1)))) 58 (upd (upd (upd (M.1 58) (3 * (ix (r52 18))) v51) ((3 * (ix (r52 18))) + 1) ((-1))) ((3 * (ix (r52 18))) + 2) v60)) (by first | rfl | (simp only [mput, mrow_same, mrow_hit, mrow_miss, mrow_sw, idr_eq, ne_eq, Nat.reduceEqDiff, not_false_eq_true, Nat.reduceLT, reduceCtorEq]; done)) ?_
          refine G.mem (M' := mrow (mrow (mrow (mrow M 54 (upd r61 18 ((r61 18) + (nI 1)))) 57 (M.1 57)) 58 (upd (upd (upd (M.1 58) (3 * (ix (r52 18))) v51) ((3 * (ix (r52 18))) + 1) ((-1))) ((3 * (ix (r52 18))) + 2) v60)) 59 (M.1 59)) ((((mrow_id (N := mrow (mrow M 54 (upd r61 18 ((r61 18) + (nI 1)))) 58 (upd (upd (upd (M.1 58) (3 * (ix (r52 18))) v51) ((3 * (ix (r52 18))) + 1) ((-1))) ((3 * (ix (r52 18))) + 2) v60)) (c := 57) (f := M.1 57) (by first | rfl | (simp only [mput, mrow_same, mrow_hit, mrow_miss, mrow_sw, idr_eq, ne_eq, Nat.reduceEqDiff, not_false_eq_true, Nat.reduceLT, reduceCtorEq]; done))).symm).trans (mrow_id (N := mrow (mrow (mrow M 54 (upd r61 18 ((r61 18) + (nI 1)))) 58 (upd (upd (upd (M.1 58) (3 * (ix (r52 18))) v51) ((3 * (ix (r52 18))) + 1) ((-1))) ((3 * (ix (r52 18))) + 2) v60)) 57 (M.1 57)) (c := 59) (f := M.1 59) (by first | rfl | (simp only [mput, mrow_same, mrow_hit, mrow_miss, mrow_sw, idr_eq, ne_eq, Nat.reduceEqDiff, not_false_eq_true, Nat.reduceLT, reduceCtorEq]; done))).symm).trans (by first | rfl | (simp only [mput, mrow_same, mrow_hit, mrow_miss, mrow_sw, idr_eq, ne_eq, Nat.reduceEqDiff, not_false_eq_true, Nat.reduceLT, reduceCtorEq]; done))) ?_
          exact G.retv (by decide +kernel) rfl (Nat.le_of_ble_eq_true rfl) (Nat.le_of_ble_eq_true rfl) ((by rw [hQ]; simp only [k_readRow, if_neg c4, if_neg c8, if_neg c12, if_pos c16, g50, g59, mrow_self]))
      · skip
        rw [if_pos c12] at hk
        refine G.sl [(.aload_n 0, 1, 0, 0, 0, 0), (.getfield 29, 3, 11, 12, 135, 0), (.aload_n 0, 1, 0, 0, 0, 0), (.getfield 153, 3, 11, 19, 142, 0), (.aload_n 0, 1, 0, 0, 0, 0)] [] (pc2 := 50) (ls2 := [some (.ref 54), some (.int x1), none, none]) (st2 := [.ref 54, .int (M.1 54 19), .ref 59]) (M2 := M) (Ps := []) (by decide +kernel) rfl rfl trivial ?_
        obtain ⟨k65, hk⟩ := hk
        rcases g66 : k_readPlace (M.1 54) (M.1 56) with ⟨v67, r68⟩
        try simp only [g66] at hk
        have t69 : GM z mX12_readPlace (d + 4) [.ref 54] M (fun rs => rs = .inl (some (.int v67), mrow M 54 r68)) := by
          have q9 := c_k_readPlace_54 z (d + 2) M k65
          try simp only [mput, mrow_same, mrow_hit, mrow_miss, mrow_sw, idr_eq, ne_eq, Nat.reduceEqDiff, not_false_eq_true, Nat.reduceLT, reduceCtorEq, g66] at q9
          exact q9
        refine G.callV (as := []) (rest := [.int (M.1 54 19), .ref 59]) (a := 54) oX12_readPlace lk_EvenFindersModel_194 (by decide +kernel) rfl rfl ⟨rfl, rfl⟩ (Nat.le_of_ble_eq_true rfl) rfl ⟨Nat.le_of_ble_eq_true rfl, Nat.le_of_ble_eq_true rfl⟩ t69 (fun v9 N9 h70 => ?_) (fun E9 N9 h70 => by cases h70)
        cases h70
        show G z mX12_readRow (d + 5) 0 0 53 [some (.ref 54), some (.int x1), none, none] [.int v67, .int (M.1 54 19), .ref 59] (mrow M 54 r68) Q
        obtain ⟨k71, k72, hk⟩ := hk
        refine G.sl [(.iastore, 1, 0, 0, 0, 0), (.aload_n 0, 1, 0, 0, 0, 0), (.dup, 1, 0, 0, 0, 0), (.getfield 153, 3, 11, 19, 142, 0), (.iconst 1, 1, 0, 0, 0, nI 1), (.iadd, 1, 0, 0, 0, 0), (.putfield 153, 3, 11, 19, 142, 0), (.goto 129, 3, 193, 0, 0, 0)] [ix (M.1 54 19)] (pc2 := 193) (ls2 := [some (.ref 54), some (.int x1), none, none]) (st2 := []) (M2 := mput (mput (mrow M 54 r68) 59 (ix (M.1 54 19)) v67) 54 19 ((r68 19) + (nI 1))) (Ps := [(M.1 54 19) = nI (ix (M.1 54 19)) ∧ (ix (M.1 54 19)) < 6]) (by decide +kernel) rfl rfl ⟨⟨(ixE k71), k72⟩, trivial⟩ ?_
        refine G.mem (M' := mrow (mrow M 54 (upd r68 19 ((r68 19) + (nI 1)))) 59 (upd (M.1 59) (ix (M.1 54 19)) v67)) (by first | rfl | (simp only [mput, mrow_same, mrow_hit, mrow_miss, mrow_sw, idr_eq, ne_eq, Nat.reduceEqDiff, not_false_eq_true, Nat.reduceLT, reduceCtorEq]; done)) ?_
        refine G.mem (M' := mrow (mrow (mrow (mrow M 54 (upd r68 19 ((r68 19) + (nI 1)))) 57 (M.1 57)) 58 (M.1 58)) 59 (upd (M.1 59) (ix (M.1 54 19)) v67)) ((((mrow_id (N := mrow (mrow M 54 (upd r68 19 ((r68 19) + (nI 1)))) 59 (upd (M.1 59) (ix (M.1 54 19)) v67)) (c := 57) (f := M.1 57) (by first | rfl | (simp only [mput, mrow_same, mrow_hit, mrow_miss, mrow_sw, idr_eq, ne_eq, Nat.reduceEqDiff, not_false_eq_true, Nat.reduceLT, reduceCtorEq]; done))).symm).trans (mrow_id (N := mrow (mrow (mrow M 54 (upd r68 19 ((r68 19) + (nI 1)))) 59 (upd (M.1 59) (ix (M.1 54 19)) v67)) 57 (M.1 57)) (c := 58) (f := M.1 58) (by first | rfl | (simp only [mput, mrow_same, mrow_hit, mrow_miss, mrow_sw, idr_eq, ne_eq, Nat.reduceEqDiff, not_false_eq_true, Nat.reduceLT, reduceCtorEq]; done))).symm).trans (by first | rfl | (simp only [mput, mrow_same, mrow_hit, mrow_miss, mrow_sw, idr_eq, ne_eq, Nat.reduceEqDiff, not_false_eq_true, Nat.reduceLT, reduceCtorEq]; done))) ?_
        exact G.retv (by decide +kernel) rfl (Nat.le_of_ble_eq_true rfl) (Nat.le_of_ble_eq_true rfl) ((by rw [hQ]; simp only [k_readRow, if_neg c4, if_neg c8, if_pos c12, g66, mrow_self]))
    · skip
      rw [if_pos c8] at hk
      refine G.sl [(.aload_n 0, 1, 0, 0, 0, 0)] [] (pc2 := 26) (ls2 := [some (.ref 54), some (.int x1), none, none]) (st2 := [.ref 54]) (M2 := M) (Ps := []) (by decide +kernel) rfl rfl trivial ?_
      obtain ⟨k73, hk⟩ := hk
      rcases g74 : k_readRoad (M.1 54) (M.1 56) (M.1 57) with ⟨u75, r76, r77⟩
      have t78 : GM z mX12_readRoad (d + 4) [.ref 54] M (fun rs => rs = .inl (none, mrow (mrow M 54 r76) 57 r77)) := by
        have q9 := c_k_readRoad_54 z (d + 1) M k73
        try simp only [mput, mrow_same, mrow_hit, mrow_miss, mrow_sw, idr_eq, ne_eq, Nat.reduceEqDiff, not_false_eq_true, Nat.reduceLT, reduceCtorEq, g74] at q9
        exact q9
      refine G.callV (as := []) (rest := []) (a := 54) oX12_readRoad lk_EvenFindersModel_210 (by decide +kernel) rfl rfl ⟨rfl, rfl⟩ (Nat.le_of_ble_eq_true rfl) rfl ⟨Nat.le_of_ble_eq_true rfl, Nat.le_of_ble_eq_true rfl⟩ t78 (fun v9 N9 h79 => ?_) (fun E9 N9 h79 => by cases h79)
      cases h79
      show G z mX12_readRow (d + 5) 0 0 29 [some (.ref 54), some (.int x1), none, none] [] (mrow (mrow M 54 r76) 57 r77) Q
      refine G.sl [(.goto 164, 3, 193, 0, 0, 0)] [] (pc2 := 193) (ls2 := [some (.ref 54), some (.int x1), none, none]) (st2 := []) (M2 := mrow (mrow M 54 r76) 57 r77) (Ps := []) (by decide +kernel) rfl rfl trivial ?_
      refine G.mem (M' := mrow (mrow (mrow (mrow M 54 r76) 57 r77) 58 (M.1 58)) 59 (M.1 59)) ((((mrow_id (N := mrow (mrow M 54 r76) 57 r77) (c := 58) (f := M.1 58) (by first | rfl | (simp only [mput, mrow_same, mrow_hit, mrow_miss, mrow_sw, idr_eq, ne_eq, Nat.reduceEqDiff, not_false_eq_true, Nat.reduceLT, reduceCtorEq]; done))).symm).trans (mrow_id (N := mrow (mrow (mrow M 54 r76) 57 r77) 58 (M.1 58)) (c := 59) (f := M.1 59) (by first | rfl | (simp only [mput, mrow_same, mrow_hit, mrow_miss, mrow_sw, idr_eq, ne_eq, Nat.reduceEqDiff, not_false_eq_true, Nat.reduceLT, reduceCtorEq]; done))).symm).trans (by first | rfl | (simp only [mput, mrow_same, mrow_hit, mrow_miss, mrow_sw, idr_eq, ne_eq, Nat.reduceEqDiff, not_false_eq_true, Nat.reduceLT, reduceCtorEq]; done))) ?_
      exact G.retv (by decide +kernel) rfl (Nat.le_of_ble_eq_true rfl) (Nat.le_of_ble_eq_true rfl) ((by rw [hQ]; simp only [k_readRow, if_neg c4, if_pos c8, g74, mrow_self]))
  · skip
    rw [if_pos c4] at hk
    refine G.sl [(.aload_n 0, 1, 0, 0, 0, 0)] [] (pc2 := 10) (ls2 := [some (.ref 54), some (.int x1), none, none]) (st2 := [.ref 54]) (M2 := M) (Ps := []) (by decide +kernel) rfl rfl trivial ?_
    obtain ⟨k80, hk⟩ := hk
    rcases g81 : k_readPlaces (M.1 54) (M.1 56) with ⟨u82, r83⟩
    have t84 : GM z mX12_readPlaces (d + 4) [.ref 54] M (fun rs => rs = .inl (none, mrow M 54 r83)) := by
      have q9 := c_k_readPlaces_54 z (d + 2) M k80
      try simp only [mput, mrow_same, mrow_hit, mrow_miss, mrow_sw, idr_eq, ne_eq, Nat.reduceEqDiff, not_false_eq_true, Nat.reduceLT, reduceCtorEq, g81] at q9
      exact q9
    refine G.callV (as := []) (rest := []) (a := 54) oX12_readPlaces lk_EvenFindersModel_207 (by decide +kernel) rfl rfl ⟨rfl, rfl⟩ (Nat.le_of_ble_eq_true rfl) rfl ⟨Nat.le_of_ble_eq_true rfl, Nat.le_of_ble_eq_true rfl⟩ t84 (fun v9 N9 h85 => ?_) (fun E9 N9 h85 => by cases h85)
    cases h85
    show G z mX12_readRow (d + 5) 0 0 13 [some (.ref 54), some (.int x1), none, none] [] (mrow M 54 r83) Q
    refine G.sl [(.goto 180, 3, 193, 0, 0, 0)] [] (pc2 := 193) (ls2 := [some (.ref 54), some (.int x1), none, none]) (st2 := []) (M2 := mrow M 54 r83) (Ps := []) (by decide +kernel) rfl rfl trivial ?_
    refine G.mem (M' := mrow (mrow (mrow (mrow M 54 r83) 57 (M.1 57)) 58 (M.1 58)) 59 (M.1 59)) (((((mrow_id (N := mrow M 54 r83) (c := 57) (f := M.1 57) (by first | rfl | (simp only [mput, mrow_same, mrow_hit, mrow_miss, mrow_sw, idr_eq, ne_eq, Nat.reduceEqDiff, not_false_eq_true, Nat.reduceLT, reduceCtorEq]; done))).symm).trans (mrow_id (N := mrow (mrow M 54 r83) 57 (M.1 57)) (c := 58) (f := M.1 58) (by first | rfl | (simp only [mput, mrow_same, mrow_hit, mrow_miss, mrow_sw, idr_eq, ne_eq, Nat.reduceEqDiff, not_false_eq_true, Nat.reduceLT, reduceCtorEq]; done))).symm).trans (mrow_id (N := mrow (mrow (mrow M 54 r83) 57 (M.1 57)) 58 (M.1 58)) (c := 59) (f := M.1 59) (by first | rfl | (simp only [mput, mrow_same, mrow_hit, mrow_miss, mrow_sw, idr_eq, ne_eq, Nat.reduceEqDiff, not_false_eq_true, Nat.reduceLT, reduceCtorEq]; done))).symm).trans (by first | rfl | (simp only [mput, mrow_same, mrow_hit, mrow_miss, mrow_sw, idr_eq, ne_eq, Nat.reduceEqDiff, not_false_eq_true, Nat.reduceLT, reduceCtorEq]; done))) ?_
    exact G.retv (by decide +kernel) rfl (Nat.le_of_ble_eq_true rfl) (Nat.le_of_ble_eq_true rfl) ((by rw [hQ]; simp only [k_readRow, if_pos c4, g81, mrow_self]))
theorem k_isFull_01 (Rmd : Nat → Int32) (x1 : Int32) : k_isFull Rmd x1 = 0 ∨ k_isFull Rmd x1 = 1 := by
  unfold k_isFull
  repeat' split
  all_goals first | exact Or.inl rfl | exact Or.inr rfl
set_option maxHeartbeats 4000000 in
set_option maxRecDepth 3000 in
theorem c_k_isFull_54 (z : Zp) (d : Nat) (M : Mem) (x1 : Int32) : GM z mX12_isFull (d + 5) [.ref 54, .int x1] M (fun rs => rs = .inl (some (.int (k_isFull (M.1 54) x1)), M)) := by
  refine GM.of oX12_isFull.1 (Nat.le_of_ble_eq_true rfl) ?_
  show G z mX12_isFull (d + 5) 0 0 0 [some (.ref 54), some (.int x1)] [] M _
  obtain ⟨Q, hQ⟩ : ∃ Q : Rs → Prop, Q = (fun rs => rs = .inl (some (.int (k_isFull (M.1 54) x1)), M)) := ⟨_, rfl⟩
  rw [← hQ]
  refine G.sl [(.iload_n 1, 1, 1, 0, 0, 0), (.ldc 202, 2, 1, 6, 0, 0)] [] (pc2 := 3) (ls2 := [some (.ref 54), some (.int x1)]) (st2 := [.ref 1006, .int x1]) (M2 := M) (Ps := []) (by decide +kernel) rfl rfl trivial ?_
  have t2 : GM z mX12_of (d + 4) [.ref 1006] M (fun rs => rs = .inl (some (.int k_of_s6), M)) := by
    have q9 := c_k_of_s6 z d M 
    try simp only [mput, mrow_same, mrow_hit, mrow_miss, mrow_sw, idr_eq, ne_eq, Nat.reduceEqDiff, not_false_eq_true, Nat.reduceLT, reduceCtorEq] at q9
    exact q9
  refine G.callS (as := [.ref 1006]) (rest := [.int x1]) oX12_of lk_EvenFindersModel_198 (by decide +kernel) rfl (Nat.le_of_ble_eq_true rfl) rfl ⟨Nat.le_of_ble_eq_true rfl, Nat.le_of_ble_eq_true rfl⟩ t2 (fun v9 N9 h3 => ?_) (fun E9 N9 h3 => by cases h3)
  cases h3
  show G z mX12_isFull (d + 5) 0 0 6 [some (.ref 54), some (.int x1)] [.int k_of_s6, .int x1] M Q
  refine G.ic_ne (off := (20)) (tgt := 26) (by decide +kernel) rfl (fun c4 => ?_) (fun c4 => ?_)
  · skip
    refine G.sl [(.iload_n 1, 1, 1, 0, 0, 0), (.ldc 204, 2, 1, 8, 0, 0)] [] (pc2 := 29) (ls2 := [some (.ref 54), some (.int x1)]) (st2 := [.ref 1008, .int x1]) (M2 := M) (Ps := []) (by decide +kernel) rfl rfl trivial ?_
    have t6 : GM z mX12_of (d + 4) [.ref 1008] M (fun rs => rs = .inl (some (.int k_of_s8), M)) := by
      have q9 := c_k_of_s8 z d M 
      try simp only [mput, mrow_same, mrow_hit, mrow_miss, mrow_sw, idr_eq, ne_eq, Nat.reduceEqDiff, not_false_eq_true, Nat.reduceLT, reduceCtorEq] at q9
      exact q9
    refine G.callS (as := [.ref 1008]) (rest := [.int x1]) oX12_of lk_EvenFindersModel_198 (by decide +kernel) rfl (Nat.le_of_ble_eq_true rfl) rfl ⟨Nat.le_of_ble_eq_true rfl, Nat.le_of_ble_eq_true rfl⟩ t6 (fun v9 N9 h7 => ?_) (fun E9 N9 h7 => by cases h7)
    cases h7
    show G z mX12_isFull (d + 5) 0 0 32 [some (.ref 54), some (.int x1)] [.int k_of_s8, .int x1] M Q
    refine G.ic_ne (off := (20)) (tgt := 52) (by decide +kernel) rfl (fun c8 => ?_) (fun c8 => ?_)
    · skip
      refine G.sl [(.iload_n 1, 1, 1, 0, 0, 0), (.ldc 197, 2, 1, 5, 0, 0)] [] (pc2 := 55) (ls2 := [some (.ref 54), some (.int x1)]) (st2 := [.ref 1005, .int x1]) (M2 := M) (Ps := []) (by decide +kernel) rfl rfl trivial ?_
      have t10 : GM z mX12_of (d + 4) [.ref 1005] M (fun rs => rs = .inl (some (.int k_of_s5), M)) := by
        have q9 := c_k_of_s5 z d M 
        try simp only [mput, mrow_same, mrow_hit, mrow_miss, mrow_sw, idr_eq, ne_eq, Nat.reduceEqDiff, not_false_eq_true, Nat.reduceLT, reduceCtorEq] at q9
        exact q9
      refine G.callS (as := [.ref 1005]) (rest := [.int x1]) oX12_of lk_EvenFindersModel_198 (by decide +kernel) rfl (Nat.le_of_ble_eq_true rfl) rfl ⟨Nat.le_of_ble_eq_true rfl, Nat.le_of_ble_eq_true rfl⟩ t10 (fun v9 N9 h11 => ?_) (fun E9 N9 h11 => by cases h11)
      cases h11
      show G z mX12_isFull (d + 5) 0 0 58 [some (.ref 54), some (.int x1)] [.int k_of_s5, .int x1] M Q
      refine G.ic_eq (off := (16)) (tgt := 74) (by decide +kernel) rfl (fun c12 => ?_) (fun c12 => ?_)
      · skip
        refine G.sl [(.iconst 0, 1, 0, 0, 0, nI 0)] [] (pc2 := 75) (ls2 := [some (.ref 54), some (.int x1)]) (st2 := [.int (nI 0)]) (M2 := M) (Ps := []) (by decide +kernel) rfl rfl trivial ?_
        exact G.reti (by decide +kernel) rfl rfl (Nat.le_of_ble_eq_true rfl) (Nat.le_of_ble_eq_true rfl) ((by rw [hQ]; simp only [k_isFull, if_neg c4, if_neg c8, if_pos c12, mrow_self]))
      · skip
        refine G.sl [(.aload_n 0, 1, 0, 0, 0, 0), (.getfield 150, 3, 11, 18, 141, 0), (.bipush 10, 2, 0, 0, 0, nI 10)] [] (pc2 := 67) (ls2 := [some (.ref 54), some (.int x1)]) (st2 := [.int (nI 10), .int (M.1 54 18)]) (M2 := M) (Ps := []) (by decide +kernel) rfl rfl trivial ?_
        refine G.ic_ne (off := (7)) (tgt := 74) (by decide +kernel) rfl (fun c13 => ?_) (fun c13 => ?_)
        · skip
          refine G.sl [(.iconst 0, 1, 0, 0, 0, nI 0)] [] (pc2 := 75) (ls2 := [some (.ref 54), some (.int x1)]) (st2 := [.int (nI 0)]) (M2 := M) (Ps := []) (by decide +kernel) rfl rfl trivial ?_
          exact G.reti (by decide +kernel) rfl rfl (Nat.le_of_ble_eq_true rfl) (Nat.le_of_ble_eq_true rfl) ((by rw [hQ]; simp only [k_isFull, if_neg c4, if_neg c8, if_neg c12, if_neg c13, mrow_self]))
        · skip
          refine G.sl [(.iconst 1, 1, 0, 0, 0, nI 1), (.goto 4, 3, 75, 0, 0, 0)] [] (pc2 := 75) (ls2 := [some (.ref 54), some (.int x1)]) (st2 := [.int (nI 1)]) (M2 := M) (Ps := []) (by decide +kernel) rfl rfl trivial ?_
          exact G.reti (by decide +kernel) rfl rfl (Nat.le_of_ble_eq_true rfl) (Nat.le_of_ble_eq_true rfl) ((by rw [hQ]; simp only [k_isFull, if_neg c4, if_neg c8, if_neg c12, if_pos c13, mrow_self]))
    · skip
      refine G.sl [(.aload_n 0, 1, 0, 0, 0, 0), (.getfield 153, 3, 11, 19, 142, 0), (.bipush 6, 2, 0, 0, 0, nI 6)] [] (pc2 := 41) (ls2 := [some (.ref 54), some (.int x1)]) (st2 := [.int (nI 6), .int (M.1 54 19)]) (M2 := M) (Ps := []) (by decide +kernel) rfl rfl trivial ?_
      refine G.ic_ne (off := (7)) (tgt := 48) (by decide +kernel) rfl (fun c14 => ?_) (fun c14 => ?_)
      · skip
        refine G.sl [(.iconst 0, 1, 0, 0, 0, nI 0), (.goto 26, 3, 75, 0, 0, 0)] [] (pc2 := 75) (ls2 := [some (.ref 54), some (.int x1)]) (st2 := [.int (nI 0)]) (M2 := M) (Ps := []) (by decide +kernel) rfl rfl trivial ?_
        exact G.reti (by decide +kernel) rfl rfl (Nat.le_of_ble_eq_true rfl) (Nat.le_of_ble_eq_true rfl) ((by rw [hQ]; simp only [k_isFull, if_neg c4, if_pos c8, if_neg c14, mrow_self]))
      · skip
        refine G.sl [(.iconst 1, 1, 0, 0, 0, nI 1), (.goto 30, 3, 75, 0, 0, 0)] [] (pc2 := 75) (ls2 := [some (.ref 54), some (.int x1)]) (st2 := [.int (nI 1)]) (M2 := M) (Ps := []) (by decide +kernel) rfl rfl trivial ?_
        exact G.reti (by decide +kernel) rfl rfl (Nat.le_of_ble_eq_true rfl) (Nat.le_of_ble_eq_true rfl) ((by rw [hQ]; simp only [k_isFull, if_neg c4, if_pos c8, if_pos c14, mrow_self]))
  · skip
    refine G.sl [(.aload_n 0, 1, 0, 0, 0, 0), (.getfield 147, 3, 11, 17, 140, 0), (.bipush 12, 2, 0, 0, 0, nI 12)] [] (pc2 := 15) (ls2 := [some (.ref 54), some (.int x1)]) (st2 := [.int (nI 12), .int (M.1 54 17)]) (M2 := M) (Ps := []) (by decide +kernel) rfl rfl trivial ?_
    refine G.ic_ne (off := (7)) (tgt := 22) (by decide +kernel) rfl (fun c15 => ?_) (fun c15 => ?_)
    · skip
      refine G.sl [(.iconst 0, 1, 0, 0, 0, nI 0), (.goto 52, 3, 75, 0, 0, 0)] [] (pc2 := 75) (ls2 := [some (.ref 54), some (.int x1)]) (st2 := [.int (nI 0)]) (M2 := M) (Ps := []) (by decide +kernel) rfl rfl trivial ?_
      exact G.reti (by decide +kernel) rfl rfl (Nat.le_of_ble_eq_true rfl) (Nat.le_of_ble_eq_true rfl) ((by rw [hQ]; simp only [k_isFull, if_pos c4, if_neg c15, mrow_self]))
    · skip
      refine G.sl [(.iconst 1, 1, 0, 0, 0, nI 1), (.goto 56, 3, 75, 0, 0, 0)] [] (pc2 := 75) (ls2 := [some (.ref 54), some (.int x1)]) (st2 := [.int (nI 1)]) (M2 := M) (Ps := []) (by decide +kernel) rfl rfl trivial ?_
      exact G.reti (by decide +kernel) rfl rfl (Nat.le_of_ble_eq_true rfl) (Nat.le_of_ble_eq_true rfl) ((by rw [hQ]; simp only [k_isFull, if_pos c4, if_pos c15, mrow_self]))
set_option maxHeartbeats 4000000 in
set_option maxRecDepth 3000 in
theorem lp_k_town_54_44 (z : Zp) (d : Nat) (M : Mem) (Q : Rs → Prop) : ∀ (k0 : Nat) (s2 : Int32) (q54 : (Nat → Int32)) (q57 : (Nat → Int32)) (q58 : (Nat → Int32)) (q59 : (Nat → Int32)), k_town_44_ok (M.1 56) k0 s2 q54 q57 q58 q59 → (match k_town_44 (M.1 56) k0 s2 q54 q57 q58 q59 with | (s2', q54', q57', q58', q59') => G z mX12_town (d + 6) 0 0 136 [some (.ref 54), none, none, none] [] (mrow (mrow (mrow (mrow M 54 (q54')) 57 (q57')) 58 (q58')) 59 (q59')) Q) → G z mX12_town (d + 6) 0 0 44 [some (.ref 54), none, some (.int s2), none] [] (mrow (mrow (mrow (mrow M 54 q54) 57 q57) 58 q58) 59 q59) Q := by
  intro k0
  induction k0 with
  | zero =>
      intro s2 q54 q57 q58 q59 hk hX
      exact (by simpa only [k_town_44_ok] using hk : False).elim
  | succ k0 ih =>
      intro s2 q54 q57 q58 q59 hk hX
      simp only [k_town_44_ok] at hk
      refine G.sl [(.aload_n 0, 1, 0, 0, 0, 0)] [] (pc2 := 45) (ls2 := [some (.ref 54), none, some (.int s2), none]) (st2 := [.ref 54]) (M2 := mrow (mrow (mrow (mrow M 54 q54) 57 q57) 58 q58) 59 q59) (Ps := []) (by decide +kernel) rfl rfl trivial ?_
      obtain ⟨k21, hk⟩ := hk
      have t22 : GM z mX12_fine (d + 5) [.ref 54] (mrow (mrow (mrow (mrow M 54 q54) 57 q57) 58 q58) 59 q59) (fun rs => rs = .inl (some (.int (k_fine q54)), mrow (mrow (mrow (mrow M 54 q54) 57 q57) 58 q58) 59 q59)) := by
        have q9 := c_k_fine_54 z (d + 5) (mrow (mrow (mrow (mrow M 54 q54) 57 q57) 58 q58) 59 q59) 
        try simp only [mput, mrow_same, mrow_hit, mrow_miss, mrow_sw, idr_eq, ne_eq, Nat.reduceEqDiff, not_false_eq_true, Nat.reduceLT, reduceCtorEq] at q9
        exact q9
      refine G.callV (as := []) (rest := []) (a := 54) oX12_fine lk_EvenFindersModel_130 (by decide +kernel) rfl rfl ⟨rfl, rfl⟩ (Nat.le_of_ble_eq_true rfl) rfl ⟨Nat.le_of_ble_eq_true rfl, Nat.le_of_ble_eq_true rfl⟩ t22 (fun v9 N9 h23 => ?_) (fun E9 N9 h23 => by cases h23)
      cases h23
      show G z mX12_town (d + 6) 0 0 48 [some (.ref 54), none, some (.int s2), none] [.int (k_fine q54)] (mrow (mrow (mrow (mrow M 54 q54) 57 q57) 58 q58) 59 q59) Q
      refine G.if_eq (off := (88)) (tgt := 136) (by decide +kernel) rfl (fun c24 => ?_) (fun c24 => ?_)
      · skip
        rw [if_pos c24] at hk
        refine G.loc (ls2 := [some (.ref 54), none, none, none]) (by simp [subL]) ?_
        simp only [k_town_44, if_pos c24] at hX
        exact hX
      · skip
        rw [if_neg c24] at hk
        refine G.sl [(.aload_n 0, 1, 0, 0, 0, 0)] [] (pc2 := 52) (ls2 := [some (.ref 54), none, some (.int s2), none]) (st2 := [.ref 54]) (M2 := mrow (mrow (mrow (mrow M 54 q54) 57 q57) 58 q58) 59 q59) (Ps := []) (by decide +kernel) rfl rfl trivial ?_
        obtain ⟨k25, hk⟩ := hk
        rcases g26 : k_isMore q54 (M.1 56) with ⟨v27, r28⟩
        try simp only [g26] at hk
        have ev27 : v27 = 0 ∨ v27 = 1 := by
          have q9 := k_isMore_01 q54 (M.1 56)
          rw [g26] at q9
          exact q9
        have t29 : GM z mX12_isMore (d + 5) [.ref 54] (mrow (mrow (mrow (mrow M 54 q54) 57 q57) 58 q58) 59 q59) (fun rs => rs = .inl (some (.int v27), mrow (mrow (mrow (mrow M 54 r28) 57 q57) 58 q58) 59 q59)) := by
          have q9 := c_k_isMore_54 z (d + 4) (mrow (mrow (mrow (mrow M 54 q54) 57 q57) 58 q58) 59 q59) k25
          try simp only [mput, mrow_same, mrow_hit, mrow_miss, mrow_sw, idr_eq, ne_eq, Nat.reduceEqDiff, not_false_eq_true, Nat.reduceLT, reduceCtorEq, g26] at q9
          exact q9
        refine G.callV (as := []) (rest := []) (a := 54) oX12_isMore lk_EvenFindersModel_221 (by decide +kernel) rfl rfl ⟨rfl, rfl⟩ (Nat.le_of_ble_eq_true rfl) rfl ⟨Nat.le_of_ble_eq_true rfl, Nat.le_of_ble_eq_true rfl⟩ t29 (fun v9 N9 h30 => ?_) (fun E9 N9 h30 => by cases h30)
        cases h30
        show G z mX12_town (d + 6) 0 0 55 [some (.ref 54), none, some (.int s2), none] [.int v27] (mrow (mrow (mrow (mrow M 54 r28) 57 q57) 58 q58) 59 q59) Q
        refine G.if_eq (off := (81)) (tgt := 136) (by decide +kernel) rfl (fun c31 => ?_) (fun c31 => ?_)
        · skip
          rw [if_pos c31] at hk
          refine G.loc (ls2 := [some (.ref 54), none, none, none]) (by simp [subL]) ?_
          simp only [k_town_44, if_neg c24, g26, if_pos c31] at hX
          exact hX
        · skip
          rw [if_neg c31] at hk
          refine G.sl [(.aload_n 0, 1, 0, 0, 0, 0)] [] (pc2 := 59) (ls2 := [some (.ref 54), none, some (.int s2), none]) (st2 := [.ref 54]) (M2 := mrow (mrow (mrow (mrow M 54 r28) 57 q57) 58 q58) 59 q59) (Ps := []) (by decide +kernel) rfl rfl trivial ?_
          obtain ⟨k32, hk⟩ := hk
          rcases g33 : k_word r28 (M.1 56) with ⟨v34, r35⟩
          try simp only [g33] at hk
          have t36 : GM z mX12_word (d + 5) [.ref 54] (mrow (mrow (mrow (mrow M 54 r28) 57 q57) 58 q58) 59 q59) (fun rs => rs = .inl (some (.int v34), mrow (mrow (mrow (mrow M 54 r35) 57 q57) 58 q58) 59 q59)) := by
            have q9 := c_k_word_54 z (d + 4) (mrow (mrow (mrow (mrow M 54 r28) 57 q57) 58 q58) 59 q59) k32
            try simp only [mput, mrow_same, mrow_hit, mrow_miss, mrow_sw, idr_eq, ne_eq, Nat.reduceEqDiff, not_false_eq_true, Nat.reduceLT, reduceCtorEq, g33] at q9
            exact q9
          refine G.callV (as := []) (rest := []) (a := 54) oX12_word lk_EvenFindersModel_224 (by decide +kernel) rfl rfl ⟨rfl, rfl⟩ (Nat.le_of_ble_eq_true rfl) rfl ⟨Nat.le_of_ble_eq_true rfl, Nat.le_of_ble_eq_true rfl⟩ t36 (fun v9 N9 h37 => ?_) (fun E9 N9 h37 => by cases h37)
          cases h37
          show G z mX12_town (d + 6) 0 0 62 [some (.ref 54), none, some (.int s2), none] [.int v34] (mrow (mrow (mrow (mrow M 54 r35) 57 q57) 58 q58) 59 q59) Q
          refine G.sl [(.istore_n 3, 1, 3, 0, 0, 0), (.iload_n 3, 1, 3, 0, 0, 0)] [] (pc2 := 64) (ls2 := [some (.ref 54), none, some (.int s2), some (.int v34)]) (st2 := [.int v34]) (M2 := mrow (mrow (mrow (mrow M 54 r35) 57 q57) 58 q58) 59 q59) (Ps := []) (by decide +kernel) rfl rfl trivial ?_
          obtain ⟨k38, hk⟩ := hk
          have t39 : GM z mX12_isRow (d + 5) [.int v34] (mrow (mrow (mrow (mrow M 54 r35) 57 q57) 58 q58) 59 q59) (fun rs => rs = .inl (some (.int (k_isRow v34)), mrow (mrow (mrow (mrow M 54 r35) 57 q57) 58 q58) 59 q59)) := by
            have q9 := c_k_isRow z d (mrow (mrow (mrow (mrow M 54 r35) 57 q57) 58 q58) 59 q59) v34
            try simp only [mput, mrow_same, mrow_hit, mrow_miss, mrow_sw, idr_eq, ne_eq, Nat.reduceEqDiff, not_false_eq_true, Nat.reduceLT, reduceCtorEq] at q9
            exact q9
          refine G.callS (as := [.int v34]) (rest := []) oX12_isRow lk_EvenFindersModel_227 (by decide +kernel) rfl (Nat.le_of_ble_eq_true rfl) rfl ⟨Nat.le_of_ble_eq_true rfl, Nat.le_of_ble_eq_true rfl⟩ t39 (fun v9 N9 h40 => ?_) (fun E9 N9 h40 => by cases h40)
          cases h40
          show G z mX12_town (d + 6) 0 0 67 [some (.ref 54), none, some (.int s2), some (.int v34)] [.int (k_isRow v34)] (mrow (mrow (mrow (mrow M 54 r35) 57 q57) 58 q58) 59 q59) Q
          refine G.if_ne (off := (15)) (tgt := 82) (by decide +kernel) rfl (fun c41 => ?_) (fun c41 => ?_)
          · skip
            rw [if_neg c41] at hk
            refine G.sl [(.iload_n 2, 1, 2, 0, 0, 0), (.bipush 60, 2, 0, 0, 0, nI 60)] [] (pc2 := 85) (ls2 := [some (.ref 54), none, some (.int s2), some (.int v34)]) (st2 := [.int (nI 60), .int s2]) (M2 := mrow (mrow (mrow (mrow M 54 r35) 57 q57) 58 q58) 59 q59) (Ps := []) (by decide +kernel) rfl rfl trivial ?_
            refine G.ic_eq (off := (11)) (tgt := 96) (by decide +kernel) rfl (fun c42 => ?_) (fun c42 => ?_)
            · skip
              rw [if_pos c42] at hk
              refine G.sl [(.aload_n 0, 1, 0, 0, 0, 0), (.iconst 3, 1, 0, 0, 0, nI 3), (.aload_n 0, 1, 0, 0, 0, 0), (.getfield 107, 3, 11, 4, 127, 0)] [] (pc2 := 102) (ls2 := [some (.ref 54), none, some (.int s2), some (.int v34)]) (st2 := [.int (r35 4), .int (nI 3), .ref 54]) (M2 := mrow (mrow (mrow (mrow M 54 r35) 57 q57) 58 q58) 59 q59) (Ps := []) (by decide +kernel) rfl rfl trivial ?_
              obtain ⟨k43, hk⟩ := hk
              rcases g44 : k_wrong r35 (nI 3) (r35 4) with ⟨u45, r46⟩
              try simp only [g44] at hk
              have t47 : GM z mX12_wrong (d + 5) [.ref 54, .int (nI 3), .int (r35 4)] (mrow (mrow (mrow (mrow M 54 r35) 57 q57) 58 q58) 59 q59) (fun rs => rs = .inl (none, mrow (mrow (mrow (mrow M 54 r46) 57 q57) 58 q58) 59 q59)) := by
                have q9 := c_k_wrong_54 z (d + 5) (mrow (mrow (mrow (mrow M 54 r35) 57 q57) 58 q58) 59 q59) (nI 3) (r35 4)
                try simp only [mput, mrow_same, mrow_hit, mrow_miss, mrow_sw, idr_eq, ne_eq, Nat.reduceEqDiff, not_false_eq_true, Nat.reduceLT, reduceCtorEq, g44] at q9
                exact q9
              refine G.callV (as := [.int (nI 3), .int (r35 4)]) (rest := []) (a := 54) oX12_wrong lk_EvenFindersModel_137 (by decide +kernel) rfl rfl ⟨rfl, rfl⟩ (Nat.le_of_ble_eq_true rfl) rfl ⟨Nat.le_of_ble_eq_true rfl, Nat.le_of_ble_eq_true rfl⟩ t47 (fun v9 N9 h48 => ?_) (fun E9 N9 h48 => by cases h48)
              cases h48
              show G z mX12_town (d + 6) 0 0 105 [some (.ref 54), none, some (.int s2), some (.int v34)] [] (mrow (mrow (mrow (mrow M 54 r46) 57 q57) 58 q58) 59 q59) Q
              refine G.sl [(.aload_n 0, 1, 0, 0, 0, 0)] [] (pc2 := 106) (ls2 := [some (.ref 54), none, some (.int s2), some (.int v34)]) (st2 := [.ref 54]) (M2 := mrow (mrow (mrow (mrow M 54 r46) 57 q57) 58 q58) 59 q59) (Ps := []) (by decide +kernel) rfl rfl trivial ?_
              obtain ⟨k49, hk⟩ := hk
              have t50 : GM z mX12_fine (d + 5) [.ref 54] (mrow (mrow (mrow (mrow M 54 r46) 57 q57) 58 q58) 59 q59) (fun rs => rs = .inl (some (.int (k_fine r46)), mrow (mrow (mrow (mrow M 54 r46) 57 q57) 58 q58) 59 q59)) := by
                have q9 := c_k_fine_54 z (d + 5) (mrow (mrow (mrow (mrow M 54 r46) 57 q57) 58 q58) 59 q59) 
                try simp only [mput, mrow_same, mrow_hit, mrow_miss, mrow_sw, idr_eq, ne_eq, Nat.reduceEqDiff, not_false_eq_true, Nat.reduceLT, reduceCtorEq] at q9
                exact q9
              refine G.callV (as := []) (rest := []) (a := 54) oX12_fine lk_EvenFindersModel_130 (by decide +kernel) rfl rfl ⟨rfl, rfl⟩ (Nat.le_of_ble_eq_true rfl) rfl ⟨Nat.le_of_ble_eq_true rfl, Nat.le_of_ble_eq_true rfl⟩ t50 (fun v9 N9 h51 => ?_) (fun E9 N9 h51 => by cases h51)
              cases h51
              show G z mX12_town (d + 6) 0 0 109 [some (.ref 54), none, some (.int s2), some (.int v34)] [.int (k_fine r46)] (mrow (mrow (mrow (mrow M 54 r46) 57 q57) 58 q58) 59 q59) Q
              refine G.if_ne (off := (6)) (tgt := 115) (by decide +kernel) rfl (fun c52 => ?_) (fun c52 => ?_)
              · skip
                rw [if_neg c52] at hk
                refine G.sl [(.aload_n 0, 1, 0, 0, 0, 0)] [] (pc2 := 116) (ls2 := [some (.ref 54), none, some (.int s2), some (.int v34)]) (st2 := [.ref 54]) (M2 := mrow (mrow (mrow (mrow M 54 r46) 57 q57) 58 q58) 59 q59) (Ps := []) (by decide +kernel) rfl rfl trivial ?_
                obtain ⟨k53, hk⟩ := hk
                rcases g54 : k_pass r46 (M.1 56) with ⟨u55, r56⟩
                try simp only [g54] at hk
                have t57 : GM z mX12_pass (d + 5) [.ref 54] (mrow (mrow (mrow (mrow M 54 r46) 57 q57) 58 q58) 59 q59) (fun rs => rs = .inl (none, mrow (mrow (mrow (mrow M 54 r56) 57 q57) 58 q58) 59 q59)) := by
                  have q9 := c_k_pass_54 z (d + 4) (mrow (mrow (mrow (mrow M 54 r46) 57 q57) 58 q58) 59 q59) k53
                  try simp only [mput, mrow_same, mrow_hit, mrow_miss, mrow_sw, idr_eq, ne_eq, Nat.reduceEqDiff, not_false_eq_true, Nat.reduceLT, reduceCtorEq, g54] at q9
                  exact q9
                refine G.callV (as := []) (rest := []) (a := 54) oX12_pass lk_EvenFindersModel_233 (by decide +kernel) rfl rfl ⟨rfl, rfl⟩ (Nat.le_of_ble_eq_true rfl) rfl ⟨Nat.le_of_ble_eq_true rfl, Nat.le_of_ble_eq_true rfl⟩ t57 (fun v9 N9 h58 => ?_) (fun E9 N9 h58 => by cases h58)
                cases h58
                show G z mX12_town (d + 6) 0 0 119 [some (.ref 54), none, some (.int s2), some (.int v34)] [] (mrow (mrow (mrow (mrow M 54 r56) 57 q57) 58 q58) 59 q59) Q
                refine G.sl [(.aload_n 0, 1, 0, 0, 0, 0), (.iload_n 3, 1, 3, 0, 0, 0)] [] (pc2 := 121) (ls2 := [some (.ref 54), none, some (.int s2), some (.int v34)]) (st2 := [.int v34, .ref 54]) (M2 := mrow (mrow (mrow (mrow M 54 r56) 57 q57) 58 q58) 59 q59) (Ps := []) (by decide +kernel) rfl rfl trivial ?_
                obtain ⟨k59, hk⟩ := hk
                rcases g60 : k_readRow r56 (M.1 56) q57 q58 q59 v34 with ⟨u61, r62, r63, r64, r65⟩
                try simp only [g60] at hk
                have t66 : GM z mX12_readRow (d + 5) [.ref 54, .int v34] (mrow (mrow (mrow (mrow M 54 r56) 57 q57) 58 q58) 59 q59) (fun rs => rs = .inl (none, mrow (mrow (mrow (mrow M 54 r62) 57 r63) 58 r64) 59 r65)) := by
                  have q9 := c_k_readRow_54 z d (mrow (mrow (mrow (mrow M 54 r56) 57 q57) 58 q58) 59 q59) v34 k59
                  try simp only [mput, mrow_same, mrow_hit, mrow_miss, mrow_sw, idr_eq, ne_eq, Nat.reduceEqDiff, not_false_eq_true, Nat.reduceLT, reduceCtorEq, g60] at q9
                  exact q9
                refine G.callV (as := [.int v34]) (rest := []) (a := 54) oX12_readRow lk_EvenFindersModel_236 (by decide +kernel) rfl rfl ⟨rfl, rfl⟩ (Nat.le_of_ble_eq_true rfl) rfl ⟨Nat.le_of_ble_eq_true rfl, Nat.le_of_ble_eq_true rfl⟩ t66 (fun v9 N9 h67 => ?_) (fun E9 N9 h67 => by cases h67)
                cases h67
                show G z mX12_town (d + 6) 0 0 124 [some (.ref 54), none, some (.int s2), some (.int v34)] [] (mrow (mrow (mrow (mrow M 54 r62) 57 r63) 58 r64) 59 r65) Q
                refine G.sl [(.aload_n 0, 1, 0, 0, 0, 0), (.bipush 59, 2, 0, 0, 0, nI 59)] [] (pc2 := 127) (ls2 := [some (.ref 54), none, some (.int s2), some (.int v34)]) (st2 := [.int (nI 59), .ref 54]) (M2 := mrow (mrow (mrow (mrow M 54 r62) 57 r63) 58 r64) 59 r65) (Ps := []) (by decide +kernel) rfl rfl trivial ?_
                obtain ⟨k68, hk⟩ := hk
                rcases g69 : k_sign r62 (M.1 56) (nI 59) with ⟨u70, r71⟩
                try simp only [g69] at hk
                have t72 : GM z mX12_sign (d + 5) [.ref 54, .int (nI 59)] (mrow (mrow (mrow (mrow M 54 r62) 57 r63) 58 r64) 59 r65) (fun rs => rs = .inl (none, mrow (mrow (mrow (mrow M 54 r71) 57 r63) 58 r64) 59 r65)) := by
                  have q9 := c_k_sign_54 z (d + 4) (mrow (mrow (mrow (mrow M 54 r62) 57 r63) 58 r64) 59 r65) (nI 59) k68
                  try simp only [mput, mrow_same, mrow_hit, mrow_miss, mrow_sw, idr_eq, ne_eq, Nat.reduceEqDiff, not_false_eq_true, Nat.reduceLT, reduceCtorEq, g69] at q9
                  exact q9
                refine G.callV (as := [.int (nI 59)]) (rest := []) (a := 54) oX12_sign lk_EvenFindersModel_239 (by decide +kernel) rfl rfl ⟨rfl, rfl⟩ (Nat.le_of_ble_eq_true rfl) rfl ⟨Nat.le_of_ble_eq_true rfl, Nat.le_of_ble_eq_true rfl⟩ t72 (fun v9 N9 h73 => ?_) (fun E9 N9 h73 => by cases h73)
                cases h73
                show G z mX12_town (d + 6) 0 0 130 [some (.ref 54), none, some (.int s2), some (.int v34)] [] (mrow (mrow (mrow (mrow M 54 r71) 57 r63) 58 r64) 59 r65) Q
                refine G.sl [(.iinc 2 1, 3, 2, 0, 0, nI 1), (.goto (-89), 3, 44, 0, 0, 0)] [] (pc2 := 44) (ls2 := [some (.ref 54), none, some (.int (s2 + nI 1)), some (.int v34)]) (st2 := []) (M2 := mrow (mrow (mrow (mrow M 54 r71) 57 r63) 58 r64) 59 r65) (Ps := []) (by decide +kernel) rfl rfl trivial ?_
                refine G.loc (ls2 := [some (.ref 54), none, some (.int (s2 + nI 1)), none]) (by simp [subL]) ?_
                simp only [k_town_44, if_neg c24, g26, if_neg c31, g33, if_neg c41, if_pos c42, g44, if_neg c52, g54, g60, g69] at hX
                exact ih (s2 + nI 1) r71 r63 r64 r65 hk hX
              · skip
                rw [if_pos c52] at hk
                refine G.sl [(.goto 24, 3, 136, 0, 0, 0)] [] (pc2 := 136) (ls2 := [some (.ref 54), none, some (.int s2), some (.int v34)]) (st2 := []) (M2 := mrow (mrow (mrow (mrow M 54 r46) 57 q57) 58 q58) 59 q59) (Ps := []) (by decide +kernel) rfl rfl trivial ?_
                refine G.loc (ls2 := [some (.ref 54), none, none, none]) (by simp [subL]) ?_
                simp only [k_town_44, if_neg c24, g26, if_neg c31, g33, if_neg c41, if_pos c42, g44, if_pos c52] at hX
                exact hX
            · skip
              rw [if_neg c42] at hk
              refine G.sl [(.aload_n 0, 1, 0, 0, 0, 0), (.iload_n 3, 1, 3, 0, 0, 0)] [] (pc2 := 90) (ls2 := [some (.ref 54), none, some (.int s2), some (.int v34)]) (st2 := [.int v34, .ref 54]) (M2 := mrow (mrow (mrow (mrow M 54 r35) 57 q57) 58 q58) 59 q59) (Ps := []) (by decide +kernel) rfl rfl trivial ?_
              obtain ⟨k74, hk⟩ := hk
              have t75 : GM z mX12_isFull (d + 5) [.ref 54, .int v34] (mrow (mrow (mrow (mrow M 54 r35) 57 q57) 58 q58) 59 q59) (fun rs => rs = .inl (some (.int (k_isFull r35 v34)), mrow (mrow (mrow (mrow M 54 r35) 57 q57) 58 q58) 59 q59)) := by
                have q9 := c_k_isFull_54 z d (mrow (mrow (mrow (mrow M 54 r35) 57 q57) 58 q58) 59 q59) v34
                try simp only [mput, mrow_same, mrow_hit, mrow_miss, mrow_sw, idr_eq, ne_eq, Nat.reduceEqDiff, not_false_eq_true, Nat.reduceLT, reduceCtorEq] at q9
                exact q9
              refine G.callV (as := [.int v34]) (rest := []) (a := 54) oX12_isFull lk_EvenFindersModel_230 (by decide +kernel) rfl rfl ⟨rfl, rfl⟩ (Nat.le_of_ble_eq_true rfl) rfl ⟨Nat.le_of_ble_eq_true rfl, Nat.le_of_ble_eq_true rfl⟩ t75 (fun v9 N9 h76 => ?_) (fun E9 N9 h76 => by cases h76)
              cases h76
              show G z mX12_town (d + 6) 0 0 93 [some (.ref 54), none, some (.int s2), some (.int v34)] [.int (k_isFull r35 v34)] (mrow (mrow (mrow (mrow M 54 r35) 57 q57) 58 q58) 59 q59) Q
              refine G.if_eq (off := (12)) (tgt := 105) (by decide +kernel) rfl (fun c77 => ?_) (fun c77 => ?_)
              · skip
                rw [if_pos c77] at hk
                refine G.sl [(.aload_n 0, 1, 0, 0, 0, 0)] [] (pc2 := 106) (ls2 := [some (.ref 54), none, some (.int s2), some (.int v34)]) (st2 := [.ref 54]) (M2 := mrow (mrow (mrow (mrow M 54 r35) 57 q57) 58 q58) 59 q59) (Ps := []) (by decide +kernel) rfl rfl trivial ?_
                obtain ⟨k78, hk⟩ := hk
                have t79 : GM z mX12_fine (d + 5) [.ref 54] (mrow (mrow (mrow (mrow M 54 r35) 57 q57) 58 q58) 59 q59) (fun rs => rs = .inl (some (.int (k_fine r35)), mrow (mrow (mrow (mrow M 54 r35) 57 q57) 58 q58) 59 q59)) := by
                  have q9 := c_k_fine_54 z (d + 5) (mrow (mrow (mrow (mrow M 54 r35) 57 q57) 58 q58) 59 q59) 
                  try simp only [mput, mrow_same, mrow_hit, mrow_miss, mrow_sw, idr_eq, ne_eq, Nat.reduceEqDiff, not_false_eq_true, Nat.reduceLT, reduceCtorEq] at q9
                  exact q9
                refine G.callV (as := []) (rest := []) (a := 54) oX12_fine lk_EvenFindersModel_130 (by decide +kernel) rfl rfl ⟨rfl, rfl⟩ (Nat.le_of_ble_eq_true rfl) rfl ⟨Nat.le_of_ble_eq_true rfl, Nat.le_of_ble_eq_true rfl⟩ t79 (fun v9 N9 h80 => ?_) (fun E9 N9 h80 => by cases h80)
                cases h80
                show G z mX12_town (d + 6) 0 0 109 [some (.ref 54), none, some (.int s2), some (.int v34)] [.int (k_fine r35)] (mrow (mrow (mrow (mrow M 54 r35) 57 q57) 58 q58) 59 q59) Q
                refine G.if_ne (off := (6)) (tgt := 115) (by decide +kernel) rfl (fun c81 => ?_) (fun c81 => ?_)
                · skip
                  rw [if_neg c81] at hk
                  refine G.sl [(.aload_n 0, 1, 0, 0, 0, 0)] [] (pc2 := 116) (ls2 := [some (.ref 54), none, some (.int s2), some (.int v34)]) (st2 := [.ref 54]) (M2 := mrow (mrow (mrow (mrow M 54 r35) 57 q57) 58 q58) 59 q59) (Ps := []) (by decide +kernel) rfl rfl trivial ?_
                  obtain ⟨k82, hk⟩ := hk
                  rcases g83 : k_pass r35 (M.1 56) with ⟨u84, r85⟩
                  try simp only [g83] at hk
                  have t86 : GM z mX12_pass (d + 5) [.ref 54] (mrow (mrow (mrow (mrow M 54 r35) 57 q57) 58 q58) 59 q59) (fun rs => rs = .inl (none, mrow (mrow (mrow (mrow M 54 r85) 57 q57) 58 q58) 59 q59)) := by
                    have q9 := c_k_pass_54 z (d + 4) (mrow (mrow (mrow (mrow M 54 r35) 57 q57) 58 q58) 59 q59) k82
                    try simp only [mput, mrow_same, mrow_hit, mrow_miss, mrow_sw, idr_eq, ne_eq, Nat.reduceEqDiff, not_false_eq_true, Nat.reduceLT, reduceCtorEq, g83] at q9
                    exact q9
                  refine G.callV (as := []) (rest := []) (a := 54) oX12_pass lk_EvenFindersModel_233 (by decide +kernel) rfl rfl ⟨rfl, rfl⟩ (Nat.le_of_ble_eq_true rfl) rfl ⟨Nat.le_of_ble_eq_true rfl, Nat.le_of_ble_eq_true rfl⟩ t86 (fun v9 N9 h87 => ?_) (fun E9 N9 h87 => by cases h87)
                  cases h87
                  show G z mX12_town (d + 6) 0 0 119 [some (.ref 54), none, some (.int s2), some (.int v34)] [] (mrow (mrow (mrow (mrow M 54 r85) 57 q57) 58 q58) 59 q59) Q
                  refine G.sl [(.aload_n 0, 1, 0, 0, 0, 0), (.iload_n 3, 1, 3, 0, 0, 0)] [] (pc2 := 121) (ls2 := [some (.ref 54), none, some (.int s2), some (.int v34)]) (st2 := [.int v34, .ref 54]) (M2 := mrow (mrow (mrow (mrow M 54 r85) 57 q57) 58 q58) 59 q59) (Ps := []) (by decide +kernel) rfl rfl trivial ?_
                  obtain ⟨k88, hk⟩ := hk
                  rcases g89 : k_readRow r85 (M.1 56) q57 q58 q59 v34 with ⟨u90, r91, r92, r93, r94⟩
                  try simp only [g89] at hk
                  have t95 : GM z mX12_readRow (d + 5) [.ref 54, .int v34] (mrow (mrow (mrow (mrow M 54 r85) 57 q57) 58 q58) 59 q59) (fun rs => rs = .inl (none, mrow (mrow (mrow (mrow M 54 r91) 57 r92) 58 r93) 59 r94)) := by
                    have q9 := c_k_readRow_54 z d (mrow (mrow (mrow (mrow M 54 r85) 57 q57) 58 q58) 59 q59) v34 k88
                    try simp only [mput, mrow_same, mrow_hit, mrow_miss, mrow_sw, idr_eq, ne_eq, Nat.reduceEqDiff, not_false_eq_true, Nat.reduceLT, reduceCtorEq, g89] at q9
                    exact q9
                  refine G.callV (as := [.int v34]) (rest := []) (a := 54) oX12_readRow lk_EvenFindersModel_236 (by decide +kernel) rfl rfl ⟨rfl, rfl⟩ (Nat.le_of_ble_eq_true rfl) rfl ⟨Nat.le_of_ble_eq_true rfl, Nat.le_of_ble_eq_true rfl⟩ t95 (fun v9 N9 h96 => ?_) (fun E9 N9 h96 => by cases h96)
                  cases h96
                  show G z mX12_town (d + 6) 0 0 124 [some (.ref 54), none, some (.int s2), some (.int v34)] [] (mrow (mrow (mrow (mrow M 54 r91) 57 r92) 58 r93) 59 r94) Q
                  refine G.sl [(.aload_n 0, 1, 0, 0, 0, 0), (.bipush 59, 2, 0, 0, 0, nI 59)] [] (pc2 := 127) (ls2 := [some (.ref 54), none, some (.int s2), some (.int v34)]) (st2 := [.int (nI 59), .ref 54]) (M2 := mrow (mrow (mrow (mrow M 54 r91) 57 r92) 58 r93) 59 r94) (Ps := []) (by decide +kernel) rfl rfl trivial ?_
                  obtain ⟨k97, hk⟩ := hk
                  rcases g98 : k_sign r91 (M.1 56) (nI 59) with ⟨u99, r100⟩
                  try simp only [g98] at hk
                  have t101 : GM z mX12_sign (d + 5) [.ref 54, .int (nI 59)] (mrow (mrow (mrow (mrow M 54 r91) 57 r92) 58 r93) 59 r94) (fun rs => rs = .inl (none, mrow (mrow (mrow (mrow M 54 r100) 57 r92) 58 r93) 59 r94)) := by
                    have q9 := c_k_sign_54 z (d + 4) (mrow (mrow (mrow (mrow M 54 r91) 57 r92) 58 r93) 59 r94) (nI 59) k97
                    try simp only [mput, mrow_same, mrow_hit, mrow_miss, mrow_sw, idr_eq, ne_eq, Nat.reduceEqDiff, not_false_eq_true, Nat.reduceLT, reduceCtorEq, g98] at q9
                    exact q9
                  refine G.callV (as := [.int (nI 59)]) (rest := []) (a := 54) oX12_sign lk_EvenFindersModel_239 (by decide +kernel) rfl rfl ⟨rfl, rfl⟩ (Nat.le_of_ble_eq_true rfl) rfl ⟨Nat.le_of_ble_eq_true rfl, Nat.le_of_ble_eq_true rfl⟩ t101 (fun v9 N9 h102 => ?_) (fun E9 N9 h102 => by cases h102)
                  cases h102
                  show G z mX12_town (d + 6) 0 0 130 [some (.ref 54), none, some (.int s2), some (.int v34)] [] (mrow (mrow (mrow (mrow M 54 r100) 57 r92) 58 r93) 59 r94) Q
                  refine G.sl [(.iinc 2 1, 3, 2, 0, 0, nI 1), (.goto (-89), 3, 44, 0, 0, 0)] [] (pc2 := 44) (ls2 := [some (.ref 54), none, some (.int (s2 + nI 1)), some (.int v34)]) (st2 := []) (M2 := mrow (mrow (mrow (mrow M 54 r100) 57 r92) 58 r93) 59 r94) (Ps := []) (by decide +kernel) rfl rfl trivial ?_
                  refine G.loc (ls2 := [some (.ref 54), none, some (.int (s2 + nI 1)), none]) (by simp [subL]) ?_
                  simp only [k_town_44, if_neg c24, g26, if_neg c31, g33, if_neg c41, if_neg c42, if_pos c77, if_neg c81, g83, g89, g98] at hX
                  exact ih (s2 + nI 1) r100 r92 r93 r94 hk hX
                · skip
                  rw [if_pos c81] at hk
                  refine G.sl [(.goto 24, 3, 136, 0, 0, 0)] [] (pc2 := 136) (ls2 := [some (.ref 54), none, some (.int s2), some (.int v34)]) (st2 := []) (M2 := mrow (mrow (mrow (mrow M 54 r35) 57 q57) 58 q58) 59 q59) (Ps := []) (by decide +kernel) rfl rfl trivial ?_
                  refine G.loc (ls2 := [some (.ref 54), none, none, none]) (by simp [subL]) ?_
                  simp only [k_town_44, if_neg c24, g26, if_neg c31, g33, if_neg c41, if_neg c42, if_pos c77, if_pos c81] at hX
                  exact hX
              · skip
                rw [if_neg c77] at hk
                refine G.sl [(.aload_n 0, 1, 0, 0, 0, 0), (.iconst 3, 1, 0, 0, 0, nI 3), (.aload_n 0, 1, 0, 0, 0, 0), (.getfield 107, 3, 11, 4, 127, 0)] [] (pc2 := 102) (ls2 := [some (.ref 54), none, some (.int s2), some (.int v34)]) (st2 := [.int (r35 4), .int (nI 3), .ref 54]) (M2 := mrow (mrow (mrow (mrow M 54 r35) 57 q57) 58 q58) 59 q59) (Ps := []) (by decide +kernel) rfl rfl trivial ?_
                obtain ⟨k103, hk⟩ := hk
                rcases g104 : k_wrong r35 (nI 3) (r35 4) with ⟨u105, r106⟩
                try simp only [g104] at hk
                have t107 : GM z mX12_wrong (d + 5) [.ref 54, .int (nI 3), .int (r35 4)] (mrow (mrow (mrow (mrow M 54 r35) 57 q57) 58 q58) 59 q59) (fun rs => rs = .inl (none, mrow (mrow (mrow (mrow M 54 r106) 57 q57) 58 q58) 59 q59)) := by
                  have q9 := c_k_wrong_54 z (d + 5) (mrow (mrow (mrow (mrow M 54 r35) 57 q57) 58 q58) 59 q59) (nI 3) (r35 4)
                  try simp only [mput, mrow_same, mrow_hit, mrow_miss, mrow_sw, idr_eq, ne_eq, Nat.reduceEqDiff, not_false_eq_true, Nat.reduceLT, reduceCtorEq, g104] at q9
                  exact q9
                refine G.callV (as := [.int (nI 3), .int (r35 4)]) (rest := []) (a := 54) oX12_wrong lk_EvenFindersModel_137 (by decide +kernel) rfl rfl ⟨rfl, rfl⟩ (Nat.le_of_ble_eq_true rfl) rfl ⟨Nat.le_of_ble_eq_true rfl, Nat.le_of_ble_eq_true rfl⟩ t107 (fun v9 N9 h108 => ?_) (fun E9 N9 h108 => by cases h108)
                cases h108
                show G z mX12_town (d + 6) 0 0 105 [some (.ref 54), none, some (.int s2), some (.int v34)] [] (mrow (mrow (mrow (mrow M 54 r106) 57 q57) 58 q58) 59 q59) Q
                refine G.sl [(.aload_n 0, 1, 0, 0, 0, 0)] [] (pc2 := 106) (ls2 := [some (.ref 54), none, some (.int s2), some (.int v34)]) (st2 := [.ref 54]) (M2 := mrow (mrow (mrow (mrow M 54 r106) 57 q57) 58 q58) 59 q59) (Ps := []) (by decide +kernel) rfl rfl trivial ?_
                obtain ⟨k109, hk⟩ := hk
                have t110 : GM z mX12_fine (d + 5) [.ref 54] (mrow (mrow (mrow (mrow M 54 r106) 57 q57) 58 q58) 59 q59) (fun rs => rs = .inl (some (.int (k_fine r106)), mrow (mrow (mrow (mrow M 54 r106) 57 q57) 58 q58) 59 q59)) := by
                  have q9 := c_k_fine_54 z (d + 5) (mrow (mrow (mrow (mrow M 54 r106) 57 q57) 58 q58) 59 q59) 
                  try simp only [mput, mrow_same, mrow_hit, mrow_miss, mrow_sw, idr_eq, ne_eq, Nat.reduceEqDiff, not_false_eq_true, Nat.reduceLT, reduceCtorEq] at q9
                  exact q9
                refine G.callV (as := []) (rest := []) (a := 54) oX12_fine lk_EvenFindersModel_130 (by decide +kernel) rfl rfl ⟨rfl, rfl⟩ (Nat.le_of_ble_eq_true rfl) rfl ⟨Nat.le_of_ble_eq_true rfl, Nat.le_of_ble_eq_true rfl⟩ t110 (fun v9 N9 h111 => ?_) (fun E9 N9 h111 => by cases h111)
                cases h111
                show G z mX12_town (d + 6) 0 0 109 [some (.ref 54), none, some (.int s2), some (.int v34)] [.int (k_fine r106)] (mrow (mrow (mrow (mrow M 54 r106) 57 q57) 58 q58) 59 q59) Q
                refine G.if_ne (off := (6)) (tgt := 115) (by decide +kernel) rfl (fun c112 => ?_) (fun c112 => ?_)
                · skip
                  rw [if_neg c112] at hk
                  refine G.sl [(.aload_n 0, 1, 0, 0, 0, 0)] [] (pc2 := 116) (ls2 := [some (.ref 54), none, some (.int s2), some (.int v34)]) (st2 := [.ref 54]) (M2 := mrow (mrow (mrow (mrow M 54 r106) 57 q57) 58 q58) 59 q59) (Ps := []) (by decide +kernel) rfl rfl trivial ?_
                  obtain ⟨k113, hk⟩ := hk
                  rcases g114 : k_pass r106 (M.1 56) with ⟨u115, r116⟩
                  try simp only [g114] at hk
                  have t117 : GM z mX12_pass (d + 5) [.ref 54] (mrow (mrow (mrow (mrow M 54 r106) 57 q57) 58 q58) 59 q59) (fun rs => rs = .inl (none, mrow (mrow (mrow (mrow M 54 r116) 57 q57) 58 q58) 59 q59)) := by
                    have q9 := c_k_pass_54 z (d + 4) (mrow (mrow (mrow (mrow M 54 r106) 57 q57) 58 q58) 59 q59) k113
                    try simp only [mput, mrow_same, mrow_hit, mrow_miss, mrow_sw, idr_eq, ne_eq, Nat.reduceEqDiff, not_false_eq_true, Nat.reduceLT, reduceCtorEq, g114] at q9
                    exact q9
                  refine G.callV (as := []) (rest := []) (a := 54) oX12_pass lk_EvenFindersModel_233 (by decide +kernel) rfl rfl ⟨rfl, rfl⟩ (Nat.le_of_ble_eq_true rfl) rfl ⟨Nat.le_of_ble_eq_true rfl, Nat.le_of_ble_eq_true rfl⟩ t117 (fun v9 N9 h118 => ?_) (fun E9 N9 h118 => by cases h118)
                  cases h118
                  show G z mX12_town (d + 6) 0 0 119 [some (.ref 54), none, some (.int s2), some (.int v34)] [] (mrow (mrow (mrow (mrow M 54 r116) 57 q57) 58 q58) 59 q59) Q
                  refine G.sl [(.aload_n 0, 1, 0, 0, 0, 0), (.iload_n 3, 1, 3, 0, 0, 0)] [] (pc2 := 121) (ls2 := [some (.ref 54), none, some (.int s2), some (.int v34)]) (st2 := [.int v34, .ref 54]) (M2 := mrow (mrow (mrow (mrow M 54 r116) 57 q57) 58 q58) 59 q59) (Ps := []) (by decide +kernel) rfl rfl trivial ?_
                  obtain ⟨k119, hk⟩ := hk
                  rcases g120 : k_readRow r116 (M.1 56) q57 q58 q59 v34 with ⟨u121, r122, r123, r124, r125⟩
                  try simp only [g120] at hk
                  have t126 : GM z mX12_readRow (d + 5) [.ref 54, .int v34] (mrow (mrow (mrow (mrow M 54 r116) 57 q57) 58 q58) 59 q59) (fun rs => rs = .inl (none, mrow (mrow (mrow (mrow M 54 r122) 57 r123) 58 r124) 59 r125)) := by
                    have q9 := c_k_readRow_54 z d (mrow (mrow (mrow (mrow M 54 r116) 57 q57) 58 q58) 59 q59) v34 k119
                    try simp only [mput, mrow_same, mrow_hit, mrow_miss, mrow_sw, idr_eq, ne_eq, Nat.reduceEqDiff, not_false_eq_true, Nat.reduceLT, reduceCtorEq, g120] at q9
                    exact q9
                  refine G.callV (as := [.int v34]) (rest := []) (a := 54) oX12_readRow lk_EvenFindersModel_236 (by decide +kernel) rfl rfl ⟨rfl, rfl⟩ (Nat.le_of_ble_eq_true rfl) rfl ⟨Nat.le_of_ble_eq_true rfl, Nat.le_of_ble_eq_true rfl⟩ t126 (fun v9 N9 h127 => ?_) (fun E9 N9 h127 => by cases h127)
                  cases h127
                  show G z mX12_town (d + 6) 0 0 124 [some (.ref 54), none, some (.int s2), some (.int v34)] [] (mrow (mrow (mrow (mrow M 54 r122) 57 r123) 58 r124) 59 r125) Q
                  refine G.sl [(.aload_n 0, 1, 0, 0, 0, 0), (.bipush 59, 2, 0, 0, 0, nI 59)] [] (pc2 := 127) (ls2 := [some (.ref 54), none, some (.int s2), some (.int v34)]) (st2 := [.int (nI 59), .ref 54]) (M2 := mrow (mrow (mrow (mrow M 54 r122) 57 r123) 58 r124) 59 r125) (Ps := []) (by decide +kernel) rfl rfl trivial ?_
                  obtain ⟨k128, hk⟩ := hk
                  rcases g129 : k_sign r122 (M.1 56) (nI 59) with ⟨u130, r131⟩
                  try simp only [g129] at hk
                  have t132 : GM z mX12_sign (d + 5) [.ref 54, .int (nI 59)] (mrow (mrow (mrow (mrow M 54 r122) 57 r123) 58 r124) 59 r125) (fun rs => rs = .inl (none, mrow (mrow (mrow (mrow M 54 r131) 57 r123) 58 r124) 59 r125)) := by
                    have q9 := c_k_sign_54 z (d + 4) (mrow (mrow (mrow (mrow M 54 r122) 57 r123) 58 r124) 59 r125) (nI 59) k128
                    try simp only [mput, mrow_same, mrow_hit, mrow_miss, mrow_sw, idr_eq, ne_eq, Nat.reduceEqDiff, not_false_eq_true, Nat.reduceLT, reduceCtorEq, g129] at q9
                    exact q9
                  refine G.callV (as := [.int (nI 59)]) (rest := []) (a := 54) oX12_sign lk_EvenFindersModel_239 (by decide +kernel) rfl rfl ⟨rfl, rfl⟩ (Nat.le_of_ble_eq_true rfl) rfl ⟨Nat.le_of_ble_eq_true rfl, Nat.le_of_ble_eq_true rfl⟩ t132 (fun v9 N9 h133 => ?_) (fun E9 N9 h133 => by cases h133)
                  cases h133
                  show G z mX12_town (d + 6) 0 0 130 [some (.ref 54), none, some (.int s2), some (.int v34)] [] (mrow (mrow (mrow (mrow M 54 r131) 57 r123) 58 r124) 59 r125) Q
                  refine G.sl [(.iinc 2 1, 3, 2, 0, 0, nI 1), (.goto (-89), 3, 44, 0, 0, 0)] [] (pc2 := 44) (ls2 := [some (.ref 54), none, some (.int (s2 + nI 1)), some (.int v34)]) (st2 := []) (M2 := mrow (mrow (mrow (mrow M 54 r131) 57 r123) 58 r124) 59 r125) (Ps := []) (by decide +kernel) rfl rfl trivial ?_
                  refine G.loc (ls2 := [some (.ref 54), none, some (.int (s2 + nI 1)), none]) (by simp [subL]) ?_
                  simp only [k_town_44, if_neg c24, g26, if_neg c31, g33, if_neg c41, if_neg c42, if_neg c77, g104, if_neg c112, g114, g120, g129] at hX
                  exact ih (s2 + nI 1) r131 r123 r124 r125 hk hX
                · skip
                  rw [if_pos c112] at hk
                  refine G.sl [(.goto 24, 3, 136, 0, 0, 0)] [] (pc2 := 136) (ls2 := [some (.ref 54), none, some (.int s2), some (.int v34)]) (st2 := []) (M2 := mrow (mrow (mrow (mrow M 54 r106) 57 q57) 58 q58) 59 q59) (Ps := []) (by decide +kernel) rfl rfl trivial ?_
                  refine G.loc (ls2 := [some (.ref 54), none, none, none]) (by simp [subL]) ?_
                  simp only [k_town_44, if_neg c24, g26, if_neg c31, g33, if_neg c41, if_neg c42, if_neg c77, g104, if_pos c112] at hX
                  exact hX
          · skip
            rw [if_pos c41] at hk
            refine G.sl [(.aload_n 0, 1, 0, 0, 0, 0), (.iconst 1, 1, 0, 0, 0, nI 1), (.aload_n 0, 1, 0, 0, 0, 0), (.getfield 107, 3, 11, 4, 127, 0)] [] (pc2 := 76) (ls2 := [some (.ref 54), none, some (.int s2), some (.int v34)]) (st2 := [.int (r35 4), .int (nI 1), .ref 54]) (M2 := mrow (mrow (mrow (mrow M 54 r35) 57 q57) 58 q58) 59 q59) (Ps := []) (by decide +kernel) rfl rfl trivial ?_
            obtain ⟨k134, hk⟩ := hk
            rcases g135 : k_wrong r35 (nI 1) (r35 4) with ⟨u136, r137⟩
            try simp only [g135] at hk
            have t138 : GM z mX12_wrong (d + 5) [.ref 54, .int (nI 1), .int (r35 4)] (mrow (mrow (mrow (mrow M 54 r35) 57 q57) 58 q58) 59 q59) (fun rs => rs = .inl (none, mrow (mrow (mrow (mrow M 54 r137) 57 q57) 58 q58) 59 q59)) := by
              have q9 := c_k_wrong_54 z (d + 5) (mrow (mrow (mrow (mrow M 54 r35) 57 q57) 58 q58) 59 q59) (nI 1) (r35 4)
              try simp only [mput, mrow_same, mrow_hit, mrow_miss, mrow_sw, idr_eq, ne_eq, Nat.reduceEqDiff, not_false_eq_true, Nat.reduceLT, reduceCtorEq, g135] at q9
              exact q9
            refine G.callV (as := [.int (nI 1), .int (r35 4)]) (rest := []) (a := 54) oX12_wrong lk_EvenFindersModel_137 (by decide +kernel) rfl rfl ⟨rfl, rfl⟩ (Nat.le_of_ble_eq_true rfl) rfl ⟨Nat.le_of_ble_eq_true rfl, Nat.le_of_ble_eq_true rfl⟩ t138 (fun v9 N9 h139 => ?_) (fun E9 N9 h139 => by cases h139)
            cases h139
            show G z mX12_town (d + 6) 0 0 79 [some (.ref 54), none, some (.int s2), some (.int v34)] [] (mrow (mrow (mrow (mrow M 54 r137) 57 q57) 58 q58) 59 q59) Q
            refine G.sl [(.goto 26, 3, 105, 0, 0, 0), (.aload_n 0, 1, 0, 0, 0, 0)] [] (pc2 := 106) (ls2 := [some (.ref 54), none, some (.int s2), some (.int v34)]) (st2 := [.ref 54]) (M2 := mrow (mrow (mrow (mrow M 54 r137) 57 q57) 58 q58) 59 q59) (Ps := []) (by decide +kernel) rfl rfl trivial ?_
            obtain ⟨k140, hk⟩ := hk
            have t141 : GM z mX12_fine (d + 5) [.ref 54] (mrow (mrow (mrow (mrow M 54 r137) 57 q57) 58 q58) 59 q59) (fun rs => rs = .inl (some (.int (k_fine r137)), mrow (mrow (mrow (mrow M 54 r137) 57 q57) 58 q58) 59 q59)) := by
              have q9 := c_k_fine_54 z (d + 5) (mrow (mrow (mrow (mrow M 54 r137) 57 q57) 58 q58) 59 q59) 
              try simp only [mput, mrow_same, mrow_hit, mrow_miss, mrow_sw, idr_eq, ne_eq, Nat.reduceEqDiff, not_false_eq_true, Nat.reduceLT, reduceCtorEq] at q9
              exact q9
            refine G.callV (as := []) (rest := []) (a := 54) oX12_fine lk_EvenFindersModel_130 (by decide +kernel) rfl rfl ⟨rfl, rfl⟩ (Nat.le_of_ble_eq_true rfl) rfl ⟨Nat.le_of_ble_eq_true rfl, Nat.le_of_ble_eq_true rfl⟩ t141 (fun v9 N9 h142 => ?_) (fun E9 N9 h142 => by cases h142)
            cases h142
            show G z mX12_town (d + 6) 0 0 109 [some (.ref 54), none, some (.int s2), some (.int v34)] [.int (k_fine r137)] (mrow (mrow (mrow (mrow M 54 r137) 57 q57) 58 q58) 59 q59) Q
            refine G.if_ne (off := (6)) (tgt := 115) (by decide +kernel) rfl (fun c143 => ?_) (fun c143 => ?_)
            · skip
              rw [if_neg c143] at hk
              refine G.sl [(.aload_n 0, 1, 0, 0, 0, 0)] [] (pc2 := 116) (ls2 := [some (.ref 54), none, some (.int s2), some (.int v34)]) (st2 := [.ref 54]) (M2 := mrow (mrow (mrow (mrow M 54 r137) 57 q57) 58 q58) 59 q59) (Ps := []) (by decide +kernel) rfl rfl trivial ?_
              obtain ⟨k144, hk⟩ := hk
              rcases g145 : k_pass r137 (M.1 56) with ⟨u146, r147⟩
              try simp only [g145] at hk
              have t148 : GM z mX12_pass (d + 5) [.ref 54] (mrow (mrow (mrow (mrow M 54 r137) 57 q57) 58 q58) 59 q59) (fun rs => rs = .inl (none, mrow (mrow (mrow (mrow M 54 r147) 57 q57) 58 q58) 59 q59)) := by
                have q9 := c_k_pass_54 z (d + 4) (mrow (mrow (mrow (mrow M 54 r137) 57 q57) 58 q58) 59 q59) k144
                try simp only [mput, mrow_same, mrow_hit, mrow_miss, mrow_sw, idr_eq, ne_eq, Nat.reduceEqDiff, not_false_eq_true, Nat.reduceLT, reduceCtorEq, g145] at q9
                exact q9
              refine G.callV (as := []) (rest := []) (a := 54) oX12_pass lk_EvenFindersModel_233 (by decide +kernel) rfl rfl ⟨rfl, rfl⟩ (Nat.le_of_ble_eq_true rfl) rfl ⟨Nat.le_of_ble_eq_true rfl, Nat.le_of_ble_eq_true rfl⟩ t148 (fun v9 N9 h149 => ?_) (fun E9 N9 h149 => by cases h149)
              cases h149
              show G z mX12_town (d + 6) 0 0 119 [some (.ref 54), none, some (.int s2), some (.int v34)] [] (mrow (mrow (mrow (mrow M 54 r147) 57 q57) 58 q58) 59 q59) Q
              refine G.sl [(.aload_n 0, 1, 0, 0, 0, 0), (.iload_n 3, 1, 3, 0, 0, 0)] [] (pc2 := 121) (ls2 := [some (.ref 54), none, some (.int s2), some (.int v34)]) (st2 := [.int v34, .ref 54]) (M2 := mrow (mrow (mrow (mrow M 54 r147) 57 q57) 58 q58) 59 q59) (Ps := []) (by decide +kernel) rfl rfl trivial ?_
              obtain ⟨k150, hk⟩ := hk
              rcases g151 : k_readRow r147 (M.1 56) q57 q58 q59 v34 with ⟨u152, r153, r154, r155, r156⟩
              try simp only [g151] at hk
              have t157 : GM z mX12_readRow (d + 5) [.ref 54, .int v34] (mrow (mrow (mrow (mrow M 54 r147) 57 q57) 58 q58) 59 q59) (fun rs => rs = .inl (none, mrow (mrow (mrow (mrow M 54 r153) 57 r154) 58 r155) 59 r156)) := by
                have q9 := c_k_readRow_54 z d (mrow (mrow (mrow (mrow M 54 r147) 57 q57) 58 q58) 59 q59) v34 k150
                try simp only [mput, mrow_same, mrow_hit, mrow_miss, mrow_sw, idr_eq, ne_eq, Nat.reduceEqDiff, not_false_eq_true, Nat.reduceLT, reduceCtorEq, g151] at q9
                exact q9
              refine G.callV (as := [.int v34]) (rest := []) (a := 54) oX12_readRow lk_EvenFindersModel_236 (by decide +kernel) rfl rfl ⟨rfl, rfl⟩ (Nat.le_of_ble_eq_true rfl) rfl ⟨Nat.le_of_ble_eq_true rfl, Nat.le_of_ble_eq_true rfl⟩ t157 (fun v9 N9 h158 => ?_) (fun E9 N9 h158 => by cases h158)
              cases h158
              show G z mX12_town (d + 6) 0 0 124 [some (.ref 54), none, some (.int s2), some (.int v34)] [] (mrow (mrow (mrow (mrow M 54 r153) 57 r154) 58 r155) 59 r156) Q
              refine G.sl [(.aload_n 0, 1, 0, 0, 0, 0), (.bipush 59, 2, 0, 0, 0, nI 59)] [] (pc2 := 127) (ls2 := [some (.ref 54), none, some (.int s2), some (.int v34)]) (st2 := [.int (nI 59), .ref 54]) (M2 := mrow (mrow (mrow (mrow M 54 r153) 57 r154) 58 r155) 59 r156) (Ps := []) (by decide +kernel) rfl rfl trivial ?_
              obtain ⟨k159, hk⟩ := hk
              rcases g160 : k_sign r153 (M.1 56) (nI 59) with ⟨u161, r162⟩
              try simp only [g160] at hk
              have t163 : GM z mX12_sign (d + 5) [.ref 54, .int (nI 59)] (mrow (mrow (mrow (mrow M 54 r153) 57 r154) 58 r155) 59 r156) (fun rs => rs = .inl (none, mrow (mrow (mrow (mrow M 54 r162) 57 r154) 58 r155) 59 r156)) := by
                have q9 := c_k_sign_54 z (d + 4) (mrow (mrow (mrow (mrow M 54 r153) 57 r154) 58 r155) 59 r156) (nI 59) k159
                try simp only [mput, mrow_same, mrow_hit, mrow_miss, mrow_sw, idr_eq, ne_eq, Nat.reduceEqDiff, not_false_eq_true, Nat.reduceLT, reduceCtorEq, g160] at q9
                exact q9
              refine G.callV (as := [.int (nI 59)]) (rest := []) (a := 54) oX12_sign lk_EvenFindersModel_239 (by decide +kernel) rfl rfl ⟨rfl, rfl⟩ (Nat.le_of_ble_eq_true rfl) rfl ⟨Nat.le_of_ble_eq_true rfl, Nat.le_of_ble_eq_true rfl⟩ t163 (fun v9 N9 h164 => ?_) (fun E9 N9 h164 => by cases h164)
              cases h164
              show G z mX12_town (d + 6) 0 0 130 [some (.ref 54), none, some (.int s2), some (.int v34)] [] (mrow (mrow (mrow (mrow M 54 r162) 57 r154) 58 r155) 59 r156) Q
              refine G.sl [(.iinc 2 1, 3, 2, 0, 0, nI 1), (.goto (-89), 3, 44, 0, 0, 0)] [] (pc2 := 44) (ls2 := [some (.ref 54), none, some (.int (s2 + nI 1)), some (.int v34)]) (st2 := []) (M2 := mrow (mrow (mrow (mrow M 54 r162) 57 r154) 58 r155) 59 r156) (Ps := []) (by decide +kernel) rfl rfl trivial ?_
              refine G.loc (ls2 := [some (.ref 54), none, some (.int (s2 + nI 1)), none]) (by simp [subL]) ?_
              simp only [k_town_44, if_neg c24, g26, if_neg c31, g33, if_pos c41, g135, if_neg c143, g145, g151, g160] at hX
              exact ih (s2 + nI 1) r162 r154 r155 r156 hk hX
            · skip
              rw [if_pos c143] at hk
              refine G.sl [(.goto 24, 3, 136, 0, 0, 0)] [] (pc2 := 136) (ls2 := [some (.ref 54), none, some (.int s2), some (.int v34)]) (st2 := []) (M2 := mrow (mrow (mrow (mrow M 54 r137) 57 q57) 58 q58) 59 q59) (Ps := []) (by decide +kernel) rfl rfl trivial ?_
              refine G.loc (ls2 := [some (.ref 54), none, none, none]) (by simp [subL]) ?_
              simp only [k_town_44, if_neg c24, g26, if_neg c31, g33, if_pos c41, g135, if_pos c143] at hX
              exact hX
