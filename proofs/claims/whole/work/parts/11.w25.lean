set_option maxHeartbeats 4000000 in
set_option maxRecDepth 3000 in
theorem c_k_readTwo_54 (z : Zp) (d : Nat) (M : Mem) (x1 : Int32) (x2 : Int32) (fz : (Nat → Int32) → (Nat → Int32) → (Nat → Int32) → (Nat → Int32) → Int32 × (Nat → Int32) × (Nat → Int32) × (Nat → Int32)) (gz : (Nat → Int32) → (Nat → Int32) → (Nat → Int32) → (Nat → Int32) → Prop) (Hz : ∀ (j : Nat) (M : Mem) , gz (M.1 54) (M.1 56) (M.1 63) (M.1 64) → GM z mX12_readSum (d + j) [.ref 54] M (fun rs => rs = .inl (none, mrow (mrow (mrow M 54 ((fz (M.1 54) (M.1 56) (M.1 63) (M.1 64)).2.1)) 63 ((fz (M.1 54) (M.1 56) (M.1 63) (M.1 64)).2.2.1)) 64 ((fz (M.1 54) (M.1 56) (M.1 63) (M.1 64)).2.2.2)))) (hk : k_readTwo_ok fz gz (M.1 54) (M.1 56) (M.1 63) (M.1 64) x1 x2) : GM z mX12_readTwo (d + 2) [.ref 54, .int x1, .int x2] M (fun rs => rs = .inl (none, mrow (mrow (mrow M 54 ((k_readTwo fz (M.1 54) (M.1 56) (M.1 63) (M.1 64) x1 x2).2.1)) 63 ((k_readTwo fz (M.1 54) (M.1 56) (M.1 63) (M.1 64) x1 x2).2.2.1)) 64 ((k_readTwo fz (M.1 54) (M.1 56) (M.1 63) (M.1 64) x1 x2).2.2.2))) := by
  simp only [k_readTwo_ok] at hk
  refine GM.of oX12_readTwo.1 (Nat.le_of_ble_eq_true rfl) ?_
  show G z mX12_readTwo (d + 2) 0 0 0 [some (.ref 54), some (.int x1), some (.int x2)] [] M _
  obtain ⟨Q, hQ⟩ : ∃ Q : Rs → Prop, Q = (fun rs => rs = .inl (none, mrow (mrow (mrow M 54 ((k_readTwo fz (M.1 54) (M.1 56) (M.1 63) (M.1 64) x1 x2).2.1)) 63 ((k_readTwo fz (M.1 54) (M.1 56) (M.1 63) (M.1 64) x1 x2).2.2.1)) 64 ((k_readTwo fz (M.1 54) (M.1 56) (M.1 63) (M.1 64) x1 x2).2.2.2))) := ⟨_, rfl⟩
  rw [← hQ]
  refine G.sl [(.aload_n 0, 1, 0, 0, 0, 0), (.iload_n 1, 1, 1, 0, 0, 0)] [] (pc2 := 2) (ls2 := [some (.ref 54), some (.int x1), some (.int x2)]) (st2 := [.int x1, .ref 54]) (M2 := M) (Ps := []) (by decide +kernel) rfl rfl trivial ?_
  obtain ⟨k1, hk⟩ := hk
  rcases g2 : k_opensOne (M.1 54) x1 with ⟨u3, r4⟩
  try simp only [g2] at hk
  have t5 : GM z mX12_opensOne (d + 1) [.ref 54, .int x1] M (fun rs => rs = .inl (none, mrow M 54 r4)) := by
    have q9 := c_k_opensOne_54 z d M x1
    try simp only [mput, mrow_same, mrow_hit, mrow_miss, mrow_sw, idr_eq, ne_eq, Nat.reduceEqDiff, not_false_eq_true, Nat.reduceLT, reduceCtorEq, g2] at q9
    exact q9
  refine G.callV (as := [.int x1]) (rest := []) (a := 54) oX12_opensOne lk_EvenFindersModel_258 (by decide +kernel) rfl rfl ⟨rfl, rfl⟩ (Nat.le_of_ble_eq_true rfl) rfl ⟨Nat.le_of_ble_eq_true rfl, Nat.le_of_ble_eq_true rfl⟩ t5 (fun v9 N9 h6 => ?_) (fun E9 N9 h6 => by cases h6)
  cases h6
  show G z mX12_readTwo (d + 2) 0 0 5 [some (.ref 54), some (.int x1), some (.int x2)] [] (mrow M 54 r4) Q
  refine G.sl [(.aload_n 0, 1, 0, 0, 0, 0), (.bipush 91, 2, 0, 0, 0, nI 91)] [] (pc2 := 8) (ls2 := [some (.ref 54), some (.int x1), some (.int x2)]) (st2 := [.int (nI 91), .ref 54]) (M2 := mrow M 54 r4) (Ps := []) (by decide +kernel) rfl rfl trivial ?_
  obtain ⟨k7, hk⟩ := hk
  rcases g8 : k_sign r4 (M.1 56) (nI 91) with ⟨u9, r10⟩
  try simp only [g8] at hk
  have t11 : GM z mX12_sign (d + 1) [.ref 54, .int (nI 91)] (mrow M 54 r4) (fun rs => rs = .inl (none, mrow M 54 r10)) := by
    have q9 := c_k_sign_54 z d (mrow M 54 r4) (nI 91) k7
    try simp only [mput, mrow_same, mrow_hit, mrow_miss, mrow_sw, idr_eq, ne_eq, Nat.reduceEqDiff, not_false_eq_true, Nat.reduceLT, reduceCtorEq, g8] at q9
    exact q9
  refine G.callV (as := [.int (nI 91)]) (rest := []) (a := 54) oX12_sign lk_EvenFindersModel_239 (by decide +kernel) rfl rfl ⟨rfl, rfl⟩ (Nat.le_of_ble_eq_true rfl) rfl ⟨Nat.le_of_ble_eq_true rfl, Nat.le_of_ble_eq_true rfl⟩ t11 (fun v9 N9 h12 => ?_) (fun E9 N9 h12 => by cases h12)
  cases h12
  show G z mX12_readTwo (d + 2) 0 0 11 [some (.ref 54), some (.int x1), some (.int x2)] [] (mrow M 54 r10) Q
  refine G.sl [(.aload_n 0, 1, 0, 0, 0, 0)] [] (pc2 := 12) (ls2 := [some (.ref 54), some (.int x1), some (.int x2)]) (st2 := [.ref 54]) (M2 := mrow M 54 r10) (Ps := []) (by decide +kernel) rfl rfl trivial ?_
  obtain ⟨k13, hk⟩ := hk
  rcases g14 : fz r10 (M.1 56) (M.1 63) (M.1 64) with ⟨u15, r16, r17, r18⟩
  try simp only [g14] at hk
  have t19 : GM z mX12_readSum (d + 1) [.ref 54] (mrow M 54 r10) (fun rs => rs = .inl (none, mrow (mrow (mrow M 54 r16) 63 r17) 64 r18)) := by
    have q9 := Hz 1 (mrow M 54 r10) 
    try simp only [mput, mrow_same, mrow_hit, mrow_miss, mrow_sw, idr_eq, ne_eq, Nat.reduceEqDiff, not_false_eq_true, Nat.reduceLT, reduceCtorEq, g14] at q9
    exact q9 (by first | exact k13 | (simp only [mput, mrow_same, mrow_hit, mrow_miss, mrow_sw, idr_eq, ne_eq, Nat.reduceEqDiff, not_false_eq_true, Nat.reduceLT, reduceCtorEq]; exact k13))
  refine G.callV (as := []) (rest := []) (a := 54) oX12_readSum lk_EvenFindersModel_261 (by decide +kernel) rfl rfl ⟨rfl, rfl⟩ (Nat.le_of_ble_eq_true rfl) rfl ⟨Nat.le_of_ble_eq_true rfl, Nat.le_of_ble_eq_true rfl⟩ t19 (fun v9 N9 h20 => ?_) (fun E9 N9 h20 => by cases h20)
  cases h20
  show G z mX12_readTwo (d + 2) 0 0 15 [some (.ref 54), some (.int x1), some (.int x2)] [] (mrow (mrow (mrow M 54 r16) 63 r17) 64 r18) Q
  refine G.sl [(.aload_n 0, 1, 0, 0, 0, 0), (.bipush 44, 2, 0, 0, 0, nI 44)] [] (pc2 := 18) (ls2 := [some (.ref 54), some (.int x1), some (.int x2)]) (st2 := [.int (nI 44), .ref 54]) (M2 := mrow (mrow (mrow M 54 r16) 63 r17) 64 r18) (Ps := []) (by decide +kernel) rfl rfl trivial ?_
  obtain ⟨k21, hk⟩ := hk
  rcases g22 : k_sign r16 (M.1 56) (nI 44) with ⟨u23, r24⟩
  try simp only [g22] at hk
  have t25 : GM z mX12_sign (d + 1) [.ref 54, .int (nI 44)] (mrow (mrow (mrow M 54 r16) 63 r17) 64 r18) (fun rs => rs = .inl (none, mrow (mrow (mrow M 54 r24) 63 r17) 64 r18)) := by
    have q9 := c_k_sign_54 z d (mrow (mrow (mrow M 54 r16) 63 r17) 64 r18) (nI 44) k21
    try simp only [mput, mrow_same, mrow_hit, mrow_miss, mrow_sw, idr_eq, ne_eq, Nat.reduceEqDiff, not_false_eq_true, Nat.reduceLT, reduceCtorEq, g22] at q9
    exact q9
  refine G.callV (as := [.int (nI 44)]) (rest := []) (a := 54) oX12_sign lk_EvenFindersModel_239 (by decide +kernel) rfl rfl ⟨rfl, rfl⟩ (Nat.le_of_ble_eq_true rfl) rfl ⟨Nat.le_of_ble_eq_true rfl, Nat.le_of_ble_eq_true rfl⟩ t25 (fun v9 N9 h26 => ?_) (fun E9 N9 h26 => by cases h26)
  cases h26
  show G z mX12_readTwo (d + 2) 0 0 21 [some (.ref 54), some (.int x1), some (.int x2)] [] (mrow (mrow (mrow M 54 r24) 63 r17) 64 r18) Q
  refine G.sl [(.aload_n 0, 1, 0, 0, 0, 0)] [] (pc2 := 22) (ls2 := [some (.ref 54), some (.int x1), some (.int x2)]) (st2 := [.ref 54]) (M2 := mrow (mrow (mrow M 54 r24) 63 r17) 64 r18) (Ps := []) (by decide +kernel) rfl rfl trivial ?_
  obtain ⟨k27, hk⟩ := hk
  rcases g28 : fz r24 (M.1 56) r17 r18 with ⟨u29, r30, r31, r32⟩
  try simp only [g28] at hk
  have t33 : GM z mX12_readSum (d + 1) [.ref 54] (mrow (mrow (mrow M 54 r24) 63 r17) 64 r18) (fun rs => rs = .inl (none, mrow (mrow (mrow M 54 r30) 63 r31) 64 r32)) := by
    have q9 := Hz 1 (mrow (mrow (mrow M 54 r24) 63 r17) 64 r18) 
    try simp only [mput, mrow_same, mrow_hit, mrow_miss, mrow_sw, idr_eq, ne_eq, Nat.reduceEqDiff, not_false_eq_true, Nat.reduceLT, reduceCtorEq, g28] at q9
    exact q9 (by first | exact k27 | (simp only [mput, mrow_same, mrow_hit, mrow_miss, mrow_sw, idr_eq, ne_eq, Nat.reduceEqDiff, not_false_eq_true, Nat.reduceLT, reduceCtorEq]; exact k27))
  refine G.callV (as := []) (rest := []) (a := 54) oX12_readSum lk_EvenFindersModel_261 (by decide +kernel) rfl rfl ⟨rfl, rfl⟩ (Nat.le_of_ble_eq_true rfl) rfl ⟨Nat.le_of_ble_eq_true rfl, Nat.le_of_ble_eq_true rfl⟩ t33 (fun v9 N9 h34 => ?_) (fun E9 N9 h34 => by cases h34)
  cases h34
  show G z mX12_readTwo (d + 2) 0 0 25 [some (.ref 54), some (.int x1), some (.int x2)] [] (mrow (mrow (mrow M 54 r30) 63 r31) 64 r32) Q
  refine G.sl [(.aload_n 0, 1, 0, 0, 0, 0), (.bipush 93, 2, 0, 0, 0, nI 93)] [] (pc2 := 28) (ls2 := [some (.ref 54), some (.int x1), some (.int x2)]) (st2 := [.int (nI 93), .ref 54]) (M2 := mrow (mrow (mrow M 54 r30) 63 r31) 64 r32) (Ps := []) (by decide +kernel) rfl rfl trivial ?_
  obtain ⟨k35, hk⟩ := hk
  rcases g36 : k_sign r30 (M.1 56) (nI 93) with ⟨u37, r38⟩
  try simp only [g36] at hk
  have t39 : GM z mX12_sign (d + 1) [.ref 54, .int (nI 93)] (mrow (mrow (mrow M 54 r30) 63 r31) 64 r32) (fun rs => rs = .inl (none, mrow (mrow (mrow M 54 r38) 63 r31) 64 r32)) := by
    have q9 := c_k_sign_54 z d (mrow (mrow (mrow M 54 r30) 63 r31) 64 r32) (nI 93) k35
    try simp only [mput, mrow_same, mrow_hit, mrow_miss, mrow_sw, idr_eq, ne_eq, Nat.reduceEqDiff, not_false_eq_true, Nat.reduceLT, reduceCtorEq, g36] at q9
    exact q9
  refine G.callV (as := [.int (nI 93)]) (rest := []) (a := 54) oX12_sign lk_EvenFindersModel_239 (by decide +kernel) rfl rfl ⟨rfl, rfl⟩ (Nat.le_of_ble_eq_true rfl) rfl ⟨Nat.le_of_ble_eq_true rfl, Nat.le_of_ble_eq_true rfl⟩ t39 (fun v9 N9 h40 => ?_) (fun E9 N9 h40 => by cases h40)
  cases h40
  show G z mX12_readTwo (d + 2) 0 0 31 [some (.ref 54), some (.int x1), some (.int x2)] [] (mrow (mrow (mrow M 54 r38) 63 r31) 64 r32) Q
  refine G.sl [(.aload_n 0, 1, 0, 0, 0, 0), (.dup, 1, 0, 0, 0, 0), (.getfield 141, 3, 11, 7, 130, 0), (.iconst 1, 1, 0, 0, 0, nI 1), (.isub, 1, 0, 0, 0, 0), (.putfield 141, 3, 11, 7, 130, 0), (.aload_n 0, 1, 0, 0, 0, 0), (.iload_n 2, 1, 2, 0, 0, 0), (.iconst 0, 1, 0, 0, 0, nI 0)] [] (pc2 := 44) (ls2 := [some (.ref 54), some (.int x1), some (.int x2)]) (st2 := [.int (nI 0), .int x2, .ref 54]) (M2 := mput (mrow (mrow (mrow M 54 r38) 63 r31) 64 r32) 54 7 ((r38 7) - (nI 1))) (Ps := []) (by decide +kernel) rfl rfl trivial ?_
  refine G.mem (M' := mrow (mrow (mrow M 54 (upd r38 7 ((r38 7) - (nI 1)))) 63 r31) 64 r32) (by first | rfl | (simp only [mput, mrow_same, mrow_hit, mrow_miss, mrow_sw, idr_eq, ne_eq, Nat.reduceEqDiff, not_false_eq_true, Nat.reduceLT, reduceCtorEq]; done)) ?_
  obtain ⟨k41, hk⟩ := hk
  rcases g42 : k_emit (upd r38 7 ((r38 7) - (nI 1))) r31 r32 x2 (nI 0) with ⟨u43, r44, r45, r46⟩
  have t47 : GM z mX12_emit (d + 1) [.ref 54, .int x2, .int (nI 0)] (mrow (mrow (mrow M 54 (upd r38 7 ((r38 7) - (nI 1)))) 63 r31) 64 r32) (fun rs => rs = .inl (none, mrow (mrow (mrow M 54 r44) 63 r45) 64 r46)) := by
    have q9 := c_k_emit_54 z d (mrow (mrow (mrow M 54 (upd r38 7 ((r38 7) - (nI 1)))) 63 r31) 64 r32) x2 (nI 0) k41
    try simp only [mput, mrow_same, mrow_hit, mrow_miss, mrow_sw, idr_eq, ne_eq, Nat.reduceEqDiff, not_false_eq_true, Nat.reduceLT, reduceCtorEq, g42] at q9
    exact q9
  refine G.callV (as := [.int x2, .int (nI 0)]) (rest := []) (a := 54) oX12_emit lk_EvenFindersModel_252 (by decide +kernel) rfl rfl ⟨rfl, rfl⟩ (Nat.le_of_ble_eq_true rfl) rfl ⟨Nat.le_of_ble_eq_true rfl, Nat.le_of_ble_eq_true rfl⟩ t47 (fun v9 N9 h48 => ?_) (fun E9 N9 h48 => by cases h48)
  cases h48
  show G z mX12_readTwo (d + 2) 0 0 47 [some (.ref 54), some (.int x1), some (.int x2)] [] (mrow (mrow (mrow M 54 r44) 63 r45) 64 r46) Q
  exact G.retv (by decide +kernel) rfl (Nat.le_of_ble_eq_true rfl) (Nat.le_of_ble_eq_true rfl) ((by rw [hQ]; simp only [k_readTwo, g2, g8, g14, g22, g28, g36, g42, mrow_self]))
set_option maxHeartbeats 4000000 in
set_option maxRecDepth 3000 in
theorem c_k_readUnit_54 (z : Zp) (d : Nat) (M : Mem) (fz : (Nat → Int32) → (Nat → Int32) → (Nat → Int32) → (Nat → Int32) → Int32 × (Nat → Int32) × (Nat → Int32) × (Nat → Int32)) (gz : (Nat → Int32) → (Nat → Int32) → (Nat → Int32) → (Nat → Int32) → Prop) (Hz : ∀ (j : Nat) (M : Mem) , gz (M.1 54) (M.1 56) (M.1 63) (M.1 64) → GM z mX12_readSum (d + j) [.ref 54] M (fun rs => rs = .inl (none, mrow (mrow (mrow M 54 ((fz (M.1 54) (M.1 56) (M.1 63) (M.1 64)).2.1)) 63 ((fz (M.1 54) (M.1 56) (M.1 63) (M.1 64)).2.2.1)) 64 ((fz (M.1 54) (M.1 56) (M.1 63) (M.1 64)).2.2.2)))) (hk : k_readUnit_ok fz gz (M.1 54) (M.1 56) (M.1 63) (M.1 64)) : GM z mX12_readUnit (d + 6) [.ref 54] M (fun rs => rs = .inl (none, mrow (mrow (mrow M 54 ((k_readUnit fz (M.1 54) (M.1 56) (M.1 63) (M.1 64)).2.1)) 63 ((k_readUnit fz (M.1 54) (M.1 56) (M.1 63) (M.1 64)).2.2.1)) 64 ((k_readUnit fz (M.1 54) (M.1 56) (M.1 63) (M.1 64)).2.2.2))) := by
  simp only [k_readUnit_ok] at hk
  refine GM.of oX12_readUnit.1 (Nat.le_of_ble_eq_true rfl) ?_
  show G z mX12_readUnit (d + 6) 0 0 0 [some (.ref 54), none] [] M _
  obtain ⟨Q, hQ⟩ : ∃ Q : Rs → Prop, Q = (fun rs => rs = .inl (none, mrow (mrow (mrow M 54 ((k_readUnit fz (M.1 54) (M.1 56) (M.1 63) (M.1 64)).2.1)) 63 ((k_readUnit fz (M.1 54) (M.1 56) (M.1 63) (M.1 64)).2.2.1)) 64 ((k_readUnit fz (M.1 54) (M.1 56) (M.1 63) (M.1 64)).2.2.2))) := ⟨_, rfl⟩
  rw [← hQ]
  refine G.sl [(.aload_n 0, 1, 0, 0, 0, 0)] [] (pc2 := 1) (ls2 := [some (.ref 54), none]) (st2 := [.ref 54]) (M2 := M) (Ps := []) (by decide +kernel) rfl rfl trivial ?_
  obtain ⟨k1, hk⟩ := hk
  have t2 : GM z mX12_fine (d + 5) [.ref 54] M (fun rs => rs = .inl (some (.int (k_fine (M.1 54))), M)) := by
    have q9 := c_k_fine_54 z (d + 5) M 
    try simp only [mput, mrow_same, mrow_hit, mrow_miss, mrow_sw, idr_eq, ne_eq, Nat.reduceEqDiff, not_false_eq_true, Nat.reduceLT, reduceCtorEq] at q9
    exact q9
  refine G.callV (as := []) (rest := []) (a := 54) oX12_fine lk_EvenFindersModel_130 (by decide +kernel) rfl rfl ⟨rfl, rfl⟩ (Nat.le_of_ble_eq_true rfl) rfl ⟨Nat.le_of_ble_eq_true rfl, Nat.le_of_ble_eq_true rfl⟩ t2 (fun v9 N9 h3 => ?_) (fun E9 N9 h3 => by cases h3)
  cases h3
  show G z mX12_readUnit (d + 6) 0 0 4 [some (.ref 54), none] [.int (k_fine (M.1 54))] M Q
  refine G.if_ne (off := (4)) (tgt := 8) (by decide +kernel) rfl (fun c4 => ?_) (fun c4 => ?_)
  · skip
    rw [if_neg c4] at hk
    refine G.sl [(.aload_n 0, 1, 0, 0, 0, 0)] [] (pc2 := 9) (ls2 := [some (.ref 54), none]) (st2 := [.ref 54]) (M2 := M) (Ps := []) (by decide +kernel) rfl rfl trivial ?_
    obtain ⟨k5, hk⟩ := hk
    rcases g6 : k_here (M.1 54) (M.1 56) with ⟨v7, r8⟩
    try simp only [g6] at hk
    have t9 : GM z mX12_here (d + 5) [.ref 54] M (fun rs => rs = .inl (some (.int v7), mrow M 54 r8)) := by
      have q9 := c_k_here_54 z (d + 5) M k5
      try simp only [mput, mrow_same, mrow_hit, mrow_miss, mrow_sw, idr_eq, ne_eq, Nat.reduceEqDiff, not_false_eq_true, Nat.reduceLT, reduceCtorEq, g6] at q9
      exact q9
    refine G.callV (as := []) (rest := []) (a := 54) oX12_here lk_EvenFindersModel_113 (by decide +kernel) rfl rfl ⟨rfl, rfl⟩ (Nat.le_of_ble_eq_true rfl) rfl ⟨Nat.le_of_ble_eq_true rfl, Nat.le_of_ble_eq_true rfl⟩ t9 (fun v9 N9 h10 => ?_) (fun E9 N9 h10 => by cases h10)
    cases h10
    show G z mX12_readUnit (d + 6) 0 0 12 [some (.ref 54), none] [.int v7] (mrow M 54 r8) Q
    refine G.sl [(.bipush 40, 2, 0, 0, 0, nI 40)] [] (pc2 := 14) (ls2 := [some (.ref 54), none]) (st2 := [.int (nI 40), .int v7]) (M2 := mrow M 54 r8) (Ps := []) (by decide +kernel) rfl rfl trivial ?_
    refine G.ic_ne (off := (31)) (tgt := 45) (by decide +kernel) rfl (fun c11 => ?_) (fun c11 => ?_)
    · skip
      rw [if_neg c11] at hk
      refine G.sl [(.aload_n 0, 1, 0, 0, 0, 0)] [] (pc2 := 46) (ls2 := [some (.ref 54), none]) (st2 := [.ref 54]) (M2 := mrow M 54 r8) (Ps := []) (by decide +kernel) rfl rfl trivial ?_
      obtain ⟨k12, hk⟩ := hk
      rcases g13 : k_here r8 (M.1 56) with ⟨v14, r15⟩
      try simp only [g13] at hk
      have t16 : GM z mX12_here (d + 5) [.ref 54] (mrow M 54 r8) (fun rs => rs = .inl (some (.int v14), mrow M 54 r15)) := by
        have q9 := c_k_here_54 z (d + 5) (mrow M 54 r8) k12
        try simp only [mput, mrow_same, mrow_hit, mrow_miss, mrow_sw, idr_eq, ne_eq, Nat.reduceEqDiff, not_false_eq_true, Nat.reduceLT, reduceCtorEq, g13] at q9
        exact q9
      refine G.callV (as := []) (rest := []) (a := 54) oX12_here lk_EvenFindersModel_113 (by decide +kernel) rfl rfl ⟨rfl, rfl⟩ (Nat.le_of_ble_eq_true rfl) rfl ⟨Nat.le_of_ble_eq_true rfl, Nat.le_of_ble_eq_true rfl⟩ t16 (fun v9 N9 h17 => ?_) (fun E9 N9 h17 => by cases h17)
      cases h17
      show G z mX12_readUnit (d + 6) 0 0 49 [some (.ref 54), none] [.int v14] (mrow M 54 r15) Q
      obtain ⟨k18, hk⟩ := hk
      have t19 : GM z mX12_isDigit (d + 5) [.int v14] (mrow M 54 r15) (fun rs => rs = .inl (some (.int (k_isDigit v14)), mrow M 54 r15)) := by
        have q9 := c_k_isDigit z (d + 5) (mrow M 54 r15) v14
        try simp only [mput, mrow_same, mrow_hit, mrow_miss, mrow_sw, idr_eq, ne_eq, Nat.reduceEqDiff, not_false_eq_true, Nat.reduceLT, reduceCtorEq] at q9
        exact q9
      refine G.callS (as := [.int v14]) (rest := []) oX12_isDigit lk_EvenFindersModel_134 (by decide +kernel) rfl (Nat.le_of_ble_eq_true rfl) rfl ⟨Nat.le_of_ble_eq_true rfl, Nat.le_of_ble_eq_true rfl⟩ t19 (fun v9 N9 h20 => ?_) (fun E9 N9 h20 => by cases h20)
      cases h20
      show G z mX12_readUnit (d + 6) 0 0 52 [some (.ref 54), none] [.int (k_isDigit v14)] (mrow M 54 r15) Q
      refine G.if_eq (off := (19)) (tgt := 71) (by decide +kernel) rfl (fun c21 => ?_) (fun c21 => ?_)
      · skip
        rw [if_pos c21] at hk
        refine G.sl [(.aload_n 0, 1, 0, 0, 0, 0)] [] (pc2 := 72) (ls2 := [some (.ref 54), none]) (st2 := [.ref 54]) (M2 := mrow M 54 r15) (Ps := []) (by decide +kernel) rfl rfl trivial ?_
        obtain ⟨k22, hk⟩ := hk
        rcases g23 : k_word r15 (M.1 56) with ⟨v24, r25⟩
        try simp only [g23] at hk
        have t26 : GM z mX12_word (d + 5) [.ref 54] (mrow M 54 r15) (fun rs => rs = .inl (some (.int v24), mrow M 54 r25)) := by
          have q9 := c_k_word_54 z (d + 4) (mrow M 54 r15) k22
          try simp only [mput, mrow_same, mrow_hit, mrow_miss, mrow_sw, idr_eq, ne_eq, Nat.reduceEqDiff, not_false_eq_true, Nat.reduceLT, reduceCtorEq, g23] at q9
          exact q9
        refine G.callV (as := []) (rest := []) (a := 54) oX12_word lk_EvenFindersModel_224 (by decide +kernel) rfl rfl ⟨rfl, rfl⟩ (Nat.le_of_ble_eq_true rfl) rfl ⟨Nat.le_of_ble_eq_true rfl, Nat.le_of_ble_eq_true rfl⟩ t26 (fun v9 N9 h27 => ?_) (fun E9 N9 h27 => by cases h27)
        cases h27
        show G z mX12_readUnit (d + 6) 0 0 75 [some (.ref 54), none] [.int v24] (mrow M 54 r25) Q
        refine G.sl [(.ldc_w 278, 3, 1, 10, 0, 0)] [] (pc2 := 78) (ls2 := [some (.ref 54), none]) (st2 := [.ref 1010, .int v24]) (M2 := mrow M 54 r25) (Ps := []) (by decide +kernel) rfl rfl trivial ?_
        obtain ⟨k28, hk⟩ := hk
        have t29 : GM z mX12_of (d + 5) [.ref 1010] (mrow M 54 r25) (fun rs => rs = .inl (some (.int k_of_s10), mrow M 54 r25)) := by
          have q9 := c_k_of_s10 z (d + 1) (mrow M 54 r25) 
          try simp only [mput, mrow_same, mrow_hit, mrow_miss, mrow_sw, idr_eq, ne_eq, Nat.reduceEqDiff, not_false_eq_true, Nat.reduceLT, reduceCtorEq] at q9
          exact q9
        refine G.callS (as := [.ref 1010]) (rest := [.int v24]) oX12_of lk_EvenFindersModel_198 (by decide +kernel) rfl (Nat.le_of_ble_eq_true rfl) rfl ⟨Nat.le_of_ble_eq_true rfl, Nat.le_of_ble_eq_true rfl⟩ t29 (fun v9 N9 h30 => ?_) (fun E9 N9 h30 => by cases h30)
        cases h30
        show G z mX12_readUnit (d + 6) 0 0 81 [some (.ref 54), none] [.int k_of_s10, .int v24] (mrow M 54 r25) Q
        refine G.ic_ne (off := (13)) (tgt := 94) (by decide +kernel) rfl (fun c31 => ?_) (fun c31 => ?_)
        · skip
          rw [if_neg c31] at hk
          refine G.sl [(.aload_n 0, 1, 0, 0, 0, 0)] [] (pc2 := 95) (ls2 := [some (.ref 54), none]) (st2 := [.ref 54]) (M2 := mrow M 54 r25) (Ps := []) (by decide +kernel) rfl rfl trivial ?_
          obtain ⟨k32, hk⟩ := hk
          rcases g33 : k_word r25 (M.1 56) with ⟨v34, r35⟩
          try simp only [g33] at hk
          have t36 : GM z mX12_word (d + 5) [.ref 54] (mrow M 54 r25) (fun rs => rs = .inl (some (.int v34), mrow M 54 r35)) := by
            have q9 := c_k_word_54 z (d + 4) (mrow M 54 r25) k32
            try simp only [mput, mrow_same, mrow_hit, mrow_miss, mrow_sw, idr_eq, ne_eq, Nat.reduceEqDiff, not_false_eq_true, Nat.reduceLT, reduceCtorEq, g33] at q9
            exact q9
          refine G.callV (as := []) (rest := []) (a := 54) oX12_word lk_EvenFindersModel_224 (by decide +kernel) rfl rfl ⟨rfl, rfl⟩ (Nat.le_of_ble_eq_true rfl) rfl ⟨Nat.le_of_ble_eq_true rfl, Nat.le_of_ble_eq_true rfl⟩ t36 (fun v9 N9 h37 => ?_) (fun E9 N9 h37 => by cases h37)
          cases h37
          show G z mX12_readUnit (d + 6) 0 0 98 [some (.ref 54), none] [.int v34] (mrow M 54 r35) Q
          refine G.sl [(.ldc_w 283, 3, 1, 11, 0, 0)] [] (pc2 := 101) (ls2 := [some (.ref 54), none]) (st2 := [.ref 1011, .int v34]) (M2 := mrow M 54 r35) (Ps := []) (by decide +kernel) rfl rfl trivial ?_
          obtain ⟨k38, hk⟩ := hk
          have t39 : GM z mX12_of (d + 5) [.ref 1011] (mrow M 54 r35) (fun rs => rs = .inl (some (.int k_of_s11), mrow M 54 r35)) := by
            have q9 := c_k_of_s11 z (d + 1) (mrow M 54 r35) 
            try simp only [mput, mrow_same, mrow_hit, mrow_miss, mrow_sw, idr_eq, ne_eq, Nat.reduceEqDiff, not_false_eq_true, Nat.reduceLT, reduceCtorEq] at q9
            exact q9
          refine G.callS (as := [.ref 1011]) (rest := [.int v34]) oX12_of lk_EvenFindersModel_198 (by decide +kernel) rfl (Nat.le_of_ble_eq_true rfl) rfl ⟨Nat.le_of_ble_eq_true rfl, Nat.le_of_ble_eq_true rfl⟩ t39 (fun v9 N9 h40 => ?_) (fun E9 N9 h40 => by cases h40)
          cases h40
          show G z mX12_readUnit (d + 6) 0 0 104 [some (.ref 54), none] [.int k_of_s11, .int v34] (mrow M 54 r35) Q
          refine G.ic_ne (off := (13)) (tgt := 117) (by decide +kernel) rfl (fun c41 => ?_) (fun c41 => ?_)
          · skip
            rw [if_neg c41] at hk
            refine G.sl [(.aload_n 0, 1, 0, 0, 0, 0)] [] (pc2 := 118) (ls2 := [some (.ref 54), none]) (st2 := [.ref 54]) (M2 := mrow M 54 r35) (Ps := []) (by decide +kernel) rfl rfl trivial ?_
            obtain ⟨k42, hk⟩ := hk
            rcases g43 : k_factHere r35 (M.1 56) with ⟨v44, r45⟩
            try simp only [g43] at hk
            have t46 : GM z mX12_factHere (d + 5) [.ref 54] (mrow M 54 r35) (fun rs => rs = .inl (some (.int v44), mrow M 54 r45)) := by
              have q9 := c_k_factHere_54 z d (mrow M 54 r35) k42
              try simp only [mput, mrow_same, mrow_hit, mrow_miss, mrow_sw, idr_eq, ne_eq, Nat.reduceEqDiff, not_false_eq_true, Nat.reduceLT, reduceCtorEq, g43] at q9
              exact q9
            refine G.callV (as := []) (rest := []) (a := 54) oX12_factHere lk_EvenFindersModel_285 (by decide +kernel) rfl rfl ⟨rfl, rfl⟩ (Nat.le_of_ble_eq_true rfl) rfl ⟨Nat.le_of_ble_eq_true rfl, Nat.le_of_ble_eq_true rfl⟩ t46 (fun v9 N9 h47 => ?_) (fun E9 N9 h47 => by cases h47)
            cases h47
            show G z mX12_readUnit (d + 6) 0 0 121 [some (.ref 54), none] [.int v44] (mrow M 54 r45) Q
            refine G.sl [(.istore_n 1, 1, 1, 0, 0, 0), (.iload_n 1, 1, 1, 0, 0, 0), (.iconst (-1), 1, 0, 0, 0, (-1))] [] (pc2 := 124) (ls2 := [some (.ref 54), some (.int v44)]) (st2 := [.int ((-1)), .int v44]) (M2 := mrow M 54 r45) (Ps := []) (by decide +kernel) rfl rfl trivial ?_
            refine G.ic_ne (off := (12)) (tgt := 136) (by decide +kernel) rfl (fun c48 => ?_) (fun c48 => ?_)
            · skip
              rw [if_neg c48] at hk
              refine G.sl [(.aload_n 0, 1, 0, 0, 0, 0)] [] (pc2 := 137) (ls2 := [some (.ref 54), some (.int v44)]) (st2 := [.ref 54]) (M2 := mrow M 54 r45) (Ps := []) (by decide +kernel) rfl rfl trivial ?_
              obtain ⟨k49, hk⟩ := hk
              have t50 : GM z mX12_fine (d + 5) [.ref 54] (mrow M 54 r45) (fun rs => rs = .inl (some (.int (k_fine r45)), mrow M 54 r45)) := by
                have q9 := c_k_fine_54 z (d + 5) (mrow M 54 r45) 
                try simp only [mput, mrow_same, mrow_hit, mrow_miss, mrow_sw, idr_eq, ne_eq, Nat.reduceEqDiff, not_false_eq_true, Nat.reduceLT, reduceCtorEq] at q9
                exact q9
              refine G.callV (as := []) (rest := []) (a := 54) oX12_fine lk_EvenFindersModel_130 (by decide +kernel) rfl rfl ⟨rfl, rfl⟩ (Nat.le_of_ble_eq_true rfl) rfl ⟨Nat.le_of_ble_eq_true rfl, Nat.le_of_ble_eq_true rfl⟩ t50 (fun v9 N9 h51 => ?_) (fun E9 N9 h51 => by cases h51)
              cases h51
              show G z mX12_readUnit (d + 6) 0 0 140 [some (.ref 54), some (.int v44)] [.int (k_fine r45)] (mrow M 54 r45) Q
              refine G.if_ne (off := (4)) (tgt := 144) (by decide +kernel) rfl (fun c52 => ?_) (fun c52 => ?_)
              · skip
                rw [if_neg c52] at hk
                refine G.sl [(.aload_n 0, 1, 0, 0, 0, 0)] [] (pc2 := 145) (ls2 := [some (.ref 54), some (.int v44)]) (st2 := [.ref 54]) (M2 := mrow M 54 r45) (Ps := []) (by decide +kernel) rfl rfl trivial ?_
                obtain ⟨k53, hk⟩ := hk
                rcases g54 : k_pass r45 (M.1 56) with ⟨u55, r56⟩
                try simp only [g54] at hk
                have t57 : GM z mX12_pass (d + 5) [.ref 54] (mrow M 54 r45) (fun rs => rs = .inl (none, mrow M 54 r56)) := by
                  have q9 := c_k_pass_54 z (d + 4) (mrow M 54 r45) k53
                  try simp only [mput, mrow_same, mrow_hit, mrow_miss, mrow_sw, idr_eq, ne_eq, Nat.reduceEqDiff, not_false_eq_true, Nat.reduceLT, reduceCtorEq, g54] at q9
                  exact q9
                refine G.callV (as := []) (rest := []) (a := 54) oX12_pass lk_EvenFindersModel_233 (by decide +kernel) rfl rfl ⟨rfl, rfl⟩ (Nat.le_of_ble_eq_true rfl) rfl ⟨Nat.le_of_ble_eq_true rfl, Nat.le_of_ble_eq_true rfl⟩ t57 (fun v9 N9 h58 => ?_) (fun E9 N9 h58 => by cases h58)
                cases h58
                show G z mX12_readUnit (d + 6) 0 0 148 [some (.ref 54), some (.int v44)] [] (mrow M 54 r56) Q
                refine G.sl [(.aload_n 0, 1, 0, 0, 0, 0), (.iconst 1, 1, 0, 0, 0, nI 1), (.iload_n 1, 1, 1, 0, 0, 0)] [] (pc2 := 151) (ls2 := [some (.ref 54), some (.int v44)]) (st2 := [.int v44, .int (nI 1), .ref 54]) (M2 := mrow M 54 r56) (Ps := []) (by decide +kernel) rfl rfl trivial ?_
                obtain ⟨k59, hk⟩ := hk
                rcases g60 : k_emit r56 (M.1 63) (M.1 64) (nI 1) v44 with ⟨u61, r62, r63, r64⟩
                have t65 : GM z mX12_emit (d + 5) [.ref 54, .int (nI 1), .int v44] (mrow M 54 r56) (fun rs => rs = .inl (none, mrow (mrow (mrow M 54 r62) 63 r63) 64 r64)) := by
                  have q9 := c_k_emit_54 z (d + 4) (mrow M 54 r56) (nI 1) v44 k59
                  try simp only [mput, mrow_same, mrow_hit, mrow_miss, mrow_sw, idr_eq, ne_eq, Nat.reduceEqDiff, not_false_eq_true, Nat.reduceLT, reduceCtorEq, g60] at q9
                  exact q9
                refine G.callV (as := [.int (nI 1), .int v44]) (rest := []) (a := 54) oX12_emit lk_EvenFindersModel_252 (by decide +kernel) rfl rfl ⟨rfl, rfl⟩ (Nat.le_of_ble_eq_true rfl) rfl ⟨Nat.le_of_ble_eq_true rfl, Nat.le_of_ble_eq_true rfl⟩ t65 (fun v9 N9 h66 => ?_) (fun E9 N9 h66 => by cases h66)
                cases h66
                show G z mX12_readUnit (d + 6) 0 0 154 [some (.ref 54), some (.int v44)] [] (mrow (mrow (mrow M 54 r62) 63 r63) 64 r64) Q
                exact G.retv (by decide +kernel) rfl (Nat.le_of_ble_eq_true rfl) (Nat.le_of_ble_eq_true rfl) ((by rw [hQ]; simp only [k_readUnit, if_neg c4, g6, if_neg c11, g13, if_pos c21, g23, if_neg c31, g33, if_neg c41, g43, if_neg c48, if_neg c52, g54, g60, mrow_self]))
              · skip
                rw [if_pos c52] at hk
                refine G.mem (M' := mrow (mrow (mrow M 54 r45) 63 (M.1 63)) 64 (M.1 64)) ((((mrow_id (N := mrow M 54 r45) (c := 63) (f := M.1 63) (by first | rfl | (simp only [mput, mrow_same, mrow_hit, mrow_miss, mrow_sw, idr_eq, ne_eq, Nat.reduceEqDiff, not_false_eq_true, Nat.reduceLT, reduceCtorEq]; done))).symm).trans (mrow_id (N := mrow (mrow M 54 r45) 63 (M.1 63)) (c := 64) (f := M.1 64) (by first | rfl | (simp only [mput, mrow_same, mrow_hit, mrow_miss, mrow_sw, idr_eq, ne_eq, Nat.reduceEqDiff, not_false_eq_true, Nat.reduceLT, reduceCtorEq]; done))).symm).trans (by first | rfl | (simp only [mput, mrow_same, mrow_hit, mrow_miss, mrow_sw, idr_eq, ne_eq, Nat.reduceEqDiff, not_false_eq_true, Nat.reduceLT, reduceCtorEq]; done))) ?_
                exact G.retv (by decide +kernel) rfl (Nat.le_of_ble_eq_true rfl) (Nat.le_of_ble_eq_true rfl) ((by rw [hQ]; simp only [k_readUnit, if_neg c4, g6, if_neg c11, g13, if_pos c21, g23, if_neg c31, g33, if_neg c41, g43, if_neg c48, if_pos c52, mrow_self]))
            · skip
              rw [if_pos c48] at hk
              refine G.sl [(.aload_n 0, 1, 0, 0, 0, 0), (.iconst 1, 1, 0, 0, 0, nI 1), (.aload_n 0, 1, 0, 0, 0, 0), (.getfield 107, 3, 11, 4, 127, 0)] [] (pc2 := 133) (ls2 := [some (.ref 54), some (.int v44)]) (st2 := [.int (r45 4), .int (nI 1), .ref 54]) (M2 := mrow M 54 r45) (Ps := []) (by decide +kernel) rfl rfl trivial ?_
              obtain ⟨k67, hk⟩ := hk
              rcases g68 : k_wrong r45 (nI 1) (r45 4) with ⟨u69, r70⟩
              try simp only [g68] at hk
              have t71 : GM z mX12_wrong (d + 5) [.ref 54, .int (nI 1), .int (r45 4)] (mrow M 54 r45) (fun rs => rs = .inl (none, mrow M 54 r70)) := by
                have q9 := c_k_wrong_54 z (d + 5) (mrow M 54 r45) (nI 1) (r45 4)
                try simp only [mput, mrow_same, mrow_hit, mrow_miss, mrow_sw, idr_eq, ne_eq, Nat.reduceEqDiff, not_false_eq_true, Nat.reduceLT, reduceCtorEq, g68] at q9
                exact q9
              refine G.callV (as := [.int (nI 1), .int (r45 4)]) (rest := []) (a := 54) oX12_wrong lk_EvenFindersModel_137 (by decide +kernel) rfl rfl ⟨rfl, rfl⟩ (Nat.le_of_ble_eq_true rfl) rfl ⟨Nat.le_of_ble_eq_true rfl, Nat.le_of_ble_eq_true rfl⟩ t71 (fun v9 N9 h72 => ?_) (fun E9 N9 h72 => by cases h72)
              cases h72
              show G z mX12_readUnit (d + 6) 0 0 136 [some (.ref 54), some (.int v44)] [] (mrow M 54 r70) Q
              refine G.sl [(.aload_n 0, 1, 0, 0, 0, 0)] [] (pc2 := 137) (ls2 := [some (.ref 54), some (.int v44)]) (st2 := [.ref 54]) (M2 := mrow M 54 r70) (Ps := []) (by decide +kernel) rfl rfl trivial ?_
              obtain ⟨k73, hk⟩ := hk
              have t74 : GM z mX12_fine (d + 5) [.ref 54] (mrow M 54 r70) (fun rs => rs = .inl (some (.int (k_fine r70)), mrow M 54 r70)) := by
                have q9 := c_k_fine_54 z (d + 5) (mrow M 54 r70) 
                try simp only [mput, mrow_same, mrow_hit, mrow_miss, mrow_sw, idr_eq, ne_eq, Nat.reduceEqDiff, not_false_eq_true, Nat.reduceLT, reduceCtorEq] at q9
                exact q9
              refine G.callV (as := []) (rest := []) (a := 54) oX12_fine lk_EvenFindersModel_130 (by decide +kernel) rfl rfl ⟨rfl, rfl⟩ (Nat.le_of_ble_eq_true rfl) rfl ⟨Nat.le_of_ble_eq_true rfl, Nat.le_of_ble_eq_true rfl⟩ t74 (fun v9 N9 h75 => ?_) (fun E9 N9 h75 => by cases h75)
              cases h75
              show G z mX12_readUnit (d + 6) 0 0 140 [some (.ref 54), some (.int v44)] [.int (k_fine r70)] (mrow M 54 r70) Q
              refine G.if_ne (off := (4)) (tgt := 144) (by decide +kernel) rfl (fun c76 => ?_) (fun c76 => ?_)
              · skip
                rw [if_neg c76] at hk
                refine G.sl [(.aload_n 0, 1, 0, 0, 0, 0)] [] (pc2 := 145) (ls2 := [some (.ref 54), some (.int v44)]) (st2 := [.ref 54]) (M2 := mrow M 54 r70) (Ps := []) (by decide +kernel) rfl rfl trivial ?_
                obtain ⟨k77, hk⟩ := hk
                rcases g78 : k_pass r70 (M.1 56) with ⟨u79, r80⟩
                try simp only [g78] at hk
                have t81 : GM z mX12_pass (d + 5) [.ref 54] (mrow M 54 r70) (fun rs => rs = .inl (none, mrow M 54 r80)) := by
                  have q9 := c_k_pass_54 z (d + 4) (mrow M 54 r70) k77
                  try simp only [mput, mrow_same, mrow_hit, mrow_miss, mrow_sw, idr_eq, ne_eq, Nat.reduceEqDiff, not_false_eq_true, Nat.reduceLT, reduceCtorEq, g78] at q9
                  exact q9
                refine G.callV (as := []) (rest := []) (a := 54) oX12_pass lk_EvenFindersModel_233 (by decide +kernel) rfl rfl ⟨rfl, rfl⟩ (Nat.le_of_ble_eq_true rfl) rfl ⟨Nat.le_of_ble_eq_true rfl, Nat.le_of_ble_eq_true rfl⟩ t81 (fun v9 N9 h82 => ?_) (fun E9 N9 h82 => by cases h82)
                cases h82
                show G z mX12_readUnit (d + 6) 0 0 148 [some (.ref 54), some (.int v44)] [] (mrow M 54 r80) Q
                refine G.sl [(.aload_n 0, 1, 0, 0, 0, 0), (.iconst 1, 1, 0, 0, 0, nI 1), (.iload_n 1, 1, 1, 0, 0, 0)] [] (pc2 := 151) (ls2 := [some (.ref 54), some (.int v44)]) (st2 := [.int v44, .int (nI 1), .ref 54]) (M2 := mrow M 54 r80) (Ps := []) (by decide +kernel) rfl rfl trivial ?_
                obtain ⟨k83, hk⟩ := hk
                rcases g84 : k_emit r80 (M.1 63) (M.1 64) (nI 1) v44 with ⟨u85, r86, r87, r88⟩
                have t89 : GM z mX12_emit (d + 5) [.ref 54, .int (nI 1), .int v44] (mrow M 54 r80) (fun rs => rs = .inl (none, mrow (mrow (mrow M 54 r86) 63 r87) 64 r88)) := by
                  have q9 := c_k_emit_54 z (d + 4) (mrow M 54 r80) (nI 1) v44 k83
                  try simp only [mput, mrow_same, mrow_hit, mrow_miss, mrow_sw, idr_eq, ne_eq, Nat.reduceEqDiff, not_false_eq_true, Nat.reduceLT, reduceCtorEq, g84] at q9
                  exact q9
                refine G.callV (as := [.int (nI 1), .int v44]) (rest := []) (a := 54) oX12_emit lk_EvenFindersModel_252 (by decide +kernel) rfl rfl ⟨rfl, rfl⟩ (Nat.le_of_ble_eq_true rfl) rfl ⟨Nat.le_of_ble_eq_true rfl, Nat.le_of_ble_eq_true rfl⟩ t89 (fun v9 N9 h90 => ?_) (fun E9 N9 h90 => by cases h90)
                cases h90
                show G z mX12_readUnit (d + 6) 0 0 154 [some (.ref 54), some (.int v44)] [] (mrow (mrow (mrow M 54 r86) 63 r87) 64 r88) Q
                exact G.retv (by decide +kernel) rfl (Nat.le_of_ble_eq_true rfl) (Nat.le_of_ble_eq_true rfl) ((by rw [hQ]; simp only [k_readUnit, if_neg c4, g6, if_neg c11, g13, if_pos c21, g23, if_neg c31, g33, if_neg c41, g43, if_pos c48, g68, if_neg c76, g78, g84, mrow_self]))
              · skip
                rw [if_pos c76] at hk
                refine G.mem (M' := mrow (mrow (mrow M 54 r70) 63 (M.1 63)) 64 (M.1 64)) ((((mrow_id (N := mrow M 54 r70) (c := 63) (f := M.1 63) (by first | rfl | (simp only [mput, mrow_same, mrow_hit, mrow_miss, mrow_sw, idr_eq, ne_eq, Nat.reduceEqDiff, not_false_eq_true, Nat.reduceLT, reduceCtorEq]; done))).symm).trans (mrow_id (N := mrow (mrow M 54 r70) 63 (M.1 63)) (c := 64) (f := M.1 64) (by first | rfl | (simp only [mput, mrow_same, mrow_hit, mrow_miss, mrow_sw, idr_eq, ne_eq, Nat.reduceEqDiff, not_false_eq_true, Nat.reduceLT, reduceCtorEq]; done))).symm).trans (by first | rfl | (simp only [mput, mrow_same, mrow_hit, mrow_miss, mrow_sw, idr_eq, ne_eq, Nat.reduceEqDiff, not_false_eq_true, Nat.reduceLT, reduceCtorEq]; done))) ?_
                exact G.retv (by decide +kernel) rfl (Nat.le_of_ble_eq_true rfl) (Nat.le_of_ble_eq_true rfl) ((by rw [hQ]; simp only [k_readUnit, if_neg c4, g6, if_neg c11, g13, if_pos c21, g23, if_neg c31, g33, if_neg c41, g43, if_pos c48, g68, if_pos c76, mrow_self]))
          · skip
            rw [if_pos c41] at hk
            refine G.sl [(.aload_n 0, 1, 0, 0, 0, 0), (.iconst 4, 1, 0, 0, 0, nI 4), (.bipush 7, 2, 0, 0, 0, nI 7)] [] (pc2 := 111) (ls2 := [some (.ref 54), none]) (st2 := [.int (nI 7), .int (nI 4), .ref 54]) (M2 := mrow M 54 r35) (Ps := []) (by decide +kernel) rfl rfl trivial ?_
            obtain ⟨k91, hk⟩ := hk
            rcases g92 : k_readTwo fz r35 (M.1 56) (M.1 63) (M.1 64) (nI 4) (nI 7) with ⟨u93, r94, r95, r96⟩
            have t97 : GM z mX12_readTwo (d + 5) [.ref 54, .int (nI 4), .int (nI 7)] (mrow M 54 r35) (fun rs => rs = .inl (none, mrow (mrow (mrow M 54 r94) 63 r95) 64 r96)) := by
              have q9 := c_k_readTwo_54 z (d + 3) (mrow M 54 r35) (nI 4) (nI 7) fz gz (fun j M   hk => by have q9 := Hz (3 + j) M   hk; rw [show d + (3 + j) = d + 3 + j by omega] at q9; exact q9) k91
              try simp only [mput, mrow_same, mrow_hit, mrow_miss, mrow_sw, idr_eq, ne_eq, Nat.reduceEqDiff, not_false_eq_true, Nat.reduceLT, reduceCtorEq, g92] at q9
              exact q9
            refine G.callV (as := [.int (nI 4), .int (nI 7)]) (rest := []) (a := 54) oX12_readTwo lk_EvenFindersModel_280 (by decide +kernel) rfl rfl ⟨rfl, rfl⟩ (Nat.le_of_ble_eq_true rfl) rfl ⟨Nat.le_of_ble_eq_true rfl, Nat.le_of_ble_eq_true rfl⟩ t97 (fun v9 N9 h98 => ?_) (fun E9 N9 h98 => by cases h98)
            cases h98
            show G z mX12_readUnit (d + 6) 0 0 114 [some (.ref 54), none] [] (mrow (mrow (mrow M 54 r94) 63 r95) 64 r96) Q
            refine G.sl [(.goto 40, 3, 154, 0, 0, 0)] [] (pc2 := 154) (ls2 := [some (.ref 54), none]) (st2 := []) (M2 := mrow (mrow (mrow M 54 r94) 63 r95) 64 r96) (Ps := []) (by decide +kernel) rfl rfl trivial ?_
            exact G.retv (by decide +kernel) rfl (Nat.le_of_ble_eq_true rfl) (Nat.le_of_ble_eq_true rfl) ((by rw [hQ]; simp only [k_readUnit, if_neg c4, g6, if_neg c11, g13, if_pos c21, g23, if_neg c31, g33, if_pos c41, g92, mrow_self]))
        · skip
          rw [if_pos c31] at hk
          refine G.sl [(.aload_n 0, 1, 0, 0, 0, 0), (.iconst 5, 1, 0, 0, 0, nI 5), (.bipush 6, 2, 0, 0, 0, nI 6)] [] (pc2 := 88) (ls2 := [some (.ref 54), none]) (st2 := [.int (nI 6), .int (nI 5), .ref 54]) (M2 := mrow M 54 r25) (Ps := []) (by decide +kernel) rfl rfl trivial ?_
          obtain ⟨k99, hk⟩ := hk
          rcases g100 : k_readTwo fz r25 (M.1 56) (M.1 63) (M.1 64) (nI 5) (nI 6) with ⟨u101, r102, r103, r104⟩
          have t105 : GM z mX12_readTwo (d + 5) [.ref 54, .int (nI 5), .int (nI 6)] (mrow M 54 r25) (fun rs => rs = .inl (none, mrow (mrow (mrow M 54 r102) 63 r103) 64 r104)) := by
            have q9 := c_k_readTwo_54 z (d + 3) (mrow M 54 r25) (nI 5) (nI 6) fz gz (fun j M   hk => by have q9 := Hz (3 + j) M   hk; rw [show d + (3 + j) = d + 3 + j by omega] at q9; exact q9) k99
            try simp only [mput, mrow_same, mrow_hit, mrow_miss, mrow_sw, idr_eq, ne_eq, Nat.reduceEqDiff, not_false_eq_true, Nat.reduceLT, reduceCtorEq, g100] at q9
            exact q9
          refine G.callV (as := [.int (nI 5), .int (nI 6)]) (rest := []) (a := 54) oX12_readTwo lk_EvenFindersModel_280 (by decide +kernel) rfl rfl ⟨rfl, rfl⟩ (Nat.le_of_ble_eq_true rfl) rfl ⟨Nat.le_of_ble_eq_true rfl, Nat.le_of_ble_eq_true rfl⟩ t105 (fun v9 N9 h106 => ?_) (fun E9 N9 h106 => by cases h106)
          cases h106
          show G z mX12_readUnit (d + 6) 0 0 91 [some (.ref 54), none] [] (mrow (mrow (mrow M 54 r102) 63 r103) 64 r104) Q
          refine G.sl [(.goto 63, 3, 154, 0, 0, 0)] [] (pc2 := 154) (ls2 := [some (.ref 54), none]) (st2 := []) (M2 := mrow (mrow (mrow M 54 r102) 63 r103) 64 r104) (Ps := []) (by decide +kernel) rfl rfl trivial ?_
          exact G.retv (by decide +kernel) rfl (Nat.le_of_ble_eq_true rfl) (Nat.le_of_ble_eq_true rfl) ((by rw [hQ]; simp only [k_readUnit, if_neg c4, g6, if_neg c11, g13, if_pos c21, g23, if_pos c31, g100, mrow_self]))
      · skip
        rw [if_neg c21] at hk
        refine G.sl [(.aload_n 0, 1, 0, 0, 0, 0), (.iconst 0, 1, 0, 0, 0, nI 0), (.aload_n 0, 1, 0, 0, 0, 0), (.iconst 0, 1, 0, 0, 0, nI 0), (.sipush 999, 3, 0, 0, 0, nI 999)] [] (pc2 := 62) (ls2 := [some (.ref 54), none]) (st2 := [.int (nI 999), .int (nI 0), .ref 54, .int (nI 0), .ref 54]) (M2 := mrow M 54 r15) (Ps := []) (by decide +kernel) rfl rfl trivial ?_
        obtain ⟨k107, hk⟩ := hk
        rcases g108 : k_readNumber r15 (M.1 56) (nI 0) (nI 999) with ⟨v109, r110⟩
        try simp only [g108] at hk
        have t111 : GM z mX12_readNumber (d + 5) [.ref 54, .int (nI 0), .int (nI 999)] (mrow M 54 r15) (fun rs => rs = .inl (some (.int v109), mrow M 54 r110)) := by
          have q9 := c_k_readNumber_54 z (d + 4) (mrow M 54 r15) (nI 0) (nI 999) k107
          try simp only [mput, mrow_same, mrow_hit, mrow_miss, mrow_sw, idr_eq, ne_eq, Nat.reduceEqDiff, not_false_eq_true, Nat.reduceLT, reduceCtorEq, g108] at q9
          exact q9
        refine G.callV (as := [.int (nI 0), .int (nI 999)]) (rest := [.int (nI 0), .ref 54]) (a := 54) oX12_readNumber lk_EvenFindersModel_190 (by decide +kernel) rfl rfl ⟨rfl, rfl⟩ (Nat.le_of_ble_eq_true rfl) rfl ⟨Nat.le_of_ble_eq_true rfl, Nat.le_of_ble_eq_true rfl⟩ t111 (fun v9 N9 h112 => ?_) (fun E9 N9 h112 => by cases h112)
        cases h112
        show G z mX12_readUnit (d + 6) 0 0 65 [some (.ref 54), none] [.int v109, .int (nI 0), .ref 54] (mrow M 54 r110) Q
        obtain ⟨k113, hk⟩ := hk
        rcases g114 : k_emit r110 (M.1 63) (M.1 64) (nI 0) v109 with ⟨u115, r116, r117, r118⟩
        have t119 : GM z mX12_emit (d + 5) [.ref 54, .int (nI 0), .int v109] (mrow M 54 r110) (fun rs => rs = .inl (none, mrow (mrow (mrow M 54 r116) 63 r117) 64 r118)) := by
          have q9 := c_k_emit_54 z (d + 4) (mrow M 54 r110) (nI 0) v109 k113
          try simp only [mput, mrow_same, mrow_hit, mrow_miss, mrow_sw, idr_eq, ne_eq, Nat.reduceEqDiff, not_false_eq_true, Nat.reduceLT, reduceCtorEq, g114] at q9
          exact q9
        refine G.callV (as := [.int (nI 0), .int v109]) (rest := []) (a := 54) oX12_emit lk_EvenFindersModel_252 (by decide +kernel) rfl rfl ⟨rfl, rfl⟩ (Nat.le_of_ble_eq_true rfl) rfl ⟨Nat.le_of_ble_eq_true rfl, Nat.le_of_ble_eq_true rfl⟩ t119 (fun v9 N9 h120 => ?_) (fun E9 N9 h120 => by cases h120)
        cases h120
        show G z mX12_readUnit (d + 6) 0 0 68 [some (.ref 54), none] [] (mrow (mrow (mrow M 54 r116) 63 r117) 64 r118) Q
        refine G.sl [(.goto 86, 3, 154, 0, 0, 0)] [] (pc2 := 154) (ls2 := [some (.ref 54), none]) (st2 := []) (M2 := mrow (mrow (mrow M 54 r116) 63 r117) 64 r118) (Ps := []) (by decide +kernel) rfl rfl trivial ?_
        exact G.retv (by decide +kernel) rfl (Nat.le_of_ble_eq_true rfl) (Nat.le_of_ble_eq_true rfl) ((by rw [hQ]; simp only [k_readUnit, if_neg c4, g6, if_neg c11, g13, if_neg c21, g108, g114, mrow_self]))
    · skip
      rw [if_pos c11] at hk
      refine G.sl [(.aload_n 0, 1, 0, 0, 0, 0), (.iconst 1, 1, 0, 0, 0, nI 1)] [] (pc2 := 19) (ls2 := [some (.ref 54), none]) (st2 := [.int (nI 1), .ref 54]) (M2 := mrow M 54 r8) (Ps := []) (by decide +kernel) rfl rfl trivial ?_
      obtain ⟨k121, hk⟩ := hk
      rcases g122 : k_opensOne r8 (nI 1) with ⟨u123, r124⟩
      try simp only [g122] at hk
      have t125 : GM z mX12_opensOne (d + 5) [.ref 54, .int (nI 1)] (mrow M 54 r8) (fun rs => rs = .inl (none, mrow M 54 r124)) := by
        have q9 := c_k_opensOne_54 z (d + 4) (mrow M 54 r8) (nI 1)
        try simp only [mput, mrow_same, mrow_hit, mrow_miss, mrow_sw, idr_eq, ne_eq, Nat.reduceEqDiff, not_false_eq_true, Nat.reduceLT, reduceCtorEq, g122] at q9
        exact q9
      refine G.callV (as := [.int (nI 1)]) (rest := []) (a := 54) oX12_opensOne lk_EvenFindersModel_258 (by decide +kernel) rfl rfl ⟨rfl, rfl⟩ (Nat.le_of_ble_eq_true rfl) rfl ⟨Nat.le_of_ble_eq_true rfl, Nat.le_of_ble_eq_true rfl⟩ t125 (fun v9 N9 h126 => ?_) (fun E9 N9 h126 => by cases h126)
      cases h126
      show G z mX12_readUnit (d + 6) 0 0 22 [some (.ref 54), none] [] (mrow M 54 r124) Q
      refine G.sl [(.aload_n 0, 1, 0, 0, 0, 0)] [] (pc2 := 23) (ls2 := [some (.ref 54), none]) (st2 := [.ref 54]) (M2 := mrow M 54 r124) (Ps := []) (by decide +kernel) rfl rfl trivial ?_
      obtain ⟨k127, hk⟩ := hk
      rcases g128 : fz r124 (M.1 56) (M.1 63) (M.1 64) with ⟨u129, r130, r131, r132⟩
      try simp only [g128] at hk
      have t133 : GM z mX12_readSum (d + 5) [.ref 54] (mrow M 54 r124) (fun rs => rs = .inl (none, mrow (mrow (mrow M 54 r130) 63 r131) 64 r132)) := by
        have q9 := Hz 5 (mrow M 54 r124) 
        try simp only [mput, mrow_same, mrow_hit, mrow_miss, mrow_sw, idr_eq, ne_eq, Nat.reduceEqDiff, not_false_eq_true, Nat.reduceLT, reduceCtorEq, g128] at q9
        exact q9 (by first | exact k127 | (simp only [mput, mrow_same, mrow_hit, mrow_miss, mrow_sw, idr_eq, ne_eq, Nat.reduceEqDiff, not_false_eq_true, Nat.reduceLT, reduceCtorEq]; exact k127))
      refine G.callV (as := []) (rest := []) (a := 54) oX12_readSum lk_EvenFindersModel_261 (by decide +kernel) rfl rfl ⟨rfl, rfl⟩ (Nat.le_of_ble_eq_true rfl) rfl ⟨Nat.le_of_ble_eq_true rfl, Nat.le_of_ble_eq_true rfl⟩ t133 (fun v9 N9 h134 => ?_) (fun E9 N9 h134 => by cases h134)
      cases h134
      show G z mX12_readUnit (d + 6) 0 0 26 [some (.ref 54), none] [] (mrow (mrow (mrow M 54 r130) 63 r131) 64 r132) Q
      refine G.sl [(.aload_n 0, 1, 0, 0, 0, 0), (.bipush 41, 2, 0, 0, 0, nI 41)] [] (pc2 := 29) (ls2 := [some (.ref 54), none]) (st2 := [.int (nI 41), .ref 54]) (M2 := mrow (mrow (mrow M 54 r130) 63 r131) 64 r132) (Ps := []) (by decide +kernel) rfl rfl trivial ?_
      obtain ⟨k135, hk⟩ := hk
      rcases g136 : k_sign r130 (M.1 56) (nI 41) with ⟨u137, r138⟩
      have t139 : GM z mX12_sign (d + 5) [.ref 54, .int (nI 41)] (mrow (mrow (mrow M 54 r130) 63 r131) 64 r132) (fun rs => rs = .inl (none, mrow (mrow (mrow M 54 r138) 63 r131) 64 r132)) := by
        have q9 := c_k_sign_54 z (d + 4) (mrow (mrow (mrow M 54 r130) 63 r131) 64 r132) (nI 41) k135
        try simp only [mput, mrow_same, mrow_hit, mrow_miss, mrow_sw, idr_eq, ne_eq, Nat.reduceEqDiff, not_false_eq_true, Nat.reduceLT, reduceCtorEq, g136] at q9
        exact q9
      refine G.callV (as := [.int (nI 41)]) (rest := []) (a := 54) oX12_sign lk_EvenFindersModel_239 (by decide +kernel) rfl rfl ⟨rfl, rfl⟩ (Nat.le_of_ble_eq_true rfl) rfl ⟨Nat.le_of_ble_eq_true rfl, Nat.le_of_ble_eq_true rfl⟩ t139 (fun v9 N9 h140 => ?_) (fun E9 N9 h140 => by cases h140)
      cases h140
      show G z mX12_readUnit (d + 6) 0 0 32 [some (.ref 54), none] [] (mrow (mrow (mrow M 54 r138) 63 r131) 64 r132) Q
      refine G.sl [(.aload_n 0, 1, 0, 0, 0, 0), (.dup, 1, 0, 0, 0, 0), (.getfield 141, 3, 11, 7, 130, 0), (.iconst 1, 1, 0, 0, 0, nI 1), (.isub, 1, 0, 0, 0, 0), (.putfield 141, 3, 11, 7, 130, 0), (.goto 112, 3, 154, 0, 0, 0)] [] (pc2 := 154) (ls2 := [some (.ref 54), none]) (st2 := []) (M2 := mput (mrow (mrow (mrow M 54 r138) 63 r131) 64 r132) 54 7 ((r138 7) - (nI 1))) (Ps := []) (by decide +kernel) rfl rfl trivial ?_
      refine G.mem (M' := mrow (mrow (mrow M 54 (upd r138 7 ((r138 7) - (nI 1)))) 63 r131) 64 r132) (by first | rfl | (simp only [mput, mrow_same, mrow_hit, mrow_miss, mrow_sw, idr_eq, ne_eq, Nat.reduceEqDiff, not_false_eq_true, Nat.reduceLT, reduceCtorEq]; done)) ?_
      exact G.retv (by decide +kernel) rfl (Nat.le_of_ble_eq_true rfl) (Nat.le_of_ble_eq_true rfl) ((by rw [hQ]; simp only [k_readUnit, if_neg c4, g6, if_pos c11, g122, g128, g136, mrow_self]))
  · skip
    rw [if_pos c4] at hk
    refine G.mem (M' := mrow (mrow (mrow M 54 (M.1 54)) 63 (M.1 63)) 64 (M.1 64)) (((((mrow_id (N := M) (c := 54) (f := M.1 54) (by first | rfl | (simp only [mput, mrow_same, mrow_hit, mrow_miss, mrow_sw, idr_eq, ne_eq, Nat.reduceEqDiff, not_false_eq_true, Nat.reduceLT, reduceCtorEq]; done))).symm).trans (mrow_id (N := mrow M 54 (M.1 54)) (c := 63) (f := M.1 63) (by first | rfl | (simp only [mput, mrow_same, mrow_hit, mrow_miss, mrow_sw, idr_eq, ne_eq, Nat.reduceEqDiff, not_false_eq_true, Nat.reduceLT, reduceCtorEq]; done))).symm).trans (mrow_id (N := mrow (mrow M 54 (M.1 54)) 63 (M.1 63)) (c := 64) (f := M.1 64) (by first | rfl | (simp only [mput, mrow_same, mrow_hit, mrow_miss, mrow_sw, idr_eq, ne_eq, Nat.reduceEqDiff, not_false_eq_true, Nat.reduceLT, reduceCtorEq]; done))).symm).trans (by first | rfl | (simp only [mput, mrow_same, mrow_hit, mrow_miss, mrow_sw, idr_eq, ne_eq, Nat.reduceEqDiff, not_false_eq_true, Nat.reduceLT, reduceCtorEq]; done))) ?_
    exact G.retv (by decide +kernel) rfl (Nat.le_of_ble_eq_true rfl) (Nat.le_of_ble_eq_true rfl) ((by rw [hQ]; simp only [k_readUnit, if_pos c4, mrow_self]))
set_option maxHeartbeats 4000000 in
set_option maxRecDepth 3000 in
theorem lp_k_readProduct_54_4 (z : Zp) (d : Nat) (M : Mem) (Q : Rs → Prop) (fz : (Nat → Int32) → (Nat → Int32) → (Nat → Int32) → (Nat → Int32) → Int32 × (Nat → Int32) × (Nat → Int32) × (Nat → Int32)) (gz : (Nat → Int32) → (Nat → Int32) → (Nat → Int32) → (Nat → Int32) → Prop) (Hz : ∀ (j : Nat) (M : Mem) , gz (M.1 54) (M.1 56) (M.1 63) (M.1 64) → GM z mX12_readSum (d + j) [.ref 54] M (fun rs => rs = .inl (none, mrow (mrow (mrow M 54 ((fz (M.1 54) (M.1 56) (M.1 63) (M.1 64)).2.1)) 63 ((fz (M.1 54) (M.1 56) (M.1 63) (M.1 64)).2.2.1)) 64 ((fz (M.1 54) (M.1 56) (M.1 63) (M.1 64)).2.2.2)))) : ∀ (k0 : Nat) (q54 : (Nat → Int32)) (q63 : (Nat → Int32)) (q64 : (Nat → Int32)), k_readProduct_4_ok fz gz (M.1 56) k0 q54 q63 q64 → (match k_readProduct_4 fz (M.1 56) k0 q54 q63 q64 with | (q54', q63', q64') => G z mX12_readProduct (d + 7) 0 0 90 [none, none] [] (mrow (mrow (mrow M 54 (q54')) 63 (q63')) 64 (q64')) Q) → G z mX12_readProduct (d + 7) 0 0 4 [some (.ref 54), none] [] (mrow (mrow (mrow M 54 q54) 63 q63) 64 q64) Q := by
  intro k0
  induction k0 with
  | zero =>
      intro q54 q63 q64 hk hX
      exact (by simpa only [k_readProduct_4_ok] using hk : False).elim
  | succ k0 ih =>
      intro q54 q63 q64 hk hX
      simp only [k_readProduct_4_ok] at hk
      refine G.sl [(.aload_n 0, 1, 0, 0, 0, 0)] [] (pc2 := 5) (ls2 := [some (.ref 54), none]) (st2 := [.ref 54]) (M2 := mrow (mrow (mrow M 54 q54) 63 q63) 64 q64) (Ps := []) (by decide +kernel) rfl rfl trivial ?_
      obtain ⟨k9, hk⟩ := hk
      have t10 : GM z mX12_fine (d + 6) [.ref 54] (mrow (mrow (mrow M 54 q54) 63 q63) 64 q64) (fun rs => rs = .inl (some (.int (k_fine q54)), mrow (mrow (mrow M 54 q54) 63 q63) 64 q64)) := by
        have q9 := c_k_fine_54 z (d + 6) (mrow (mrow (mrow M 54 q54) 63 q63) 64 q64) 
        try simp only [mput, mrow_same, mrow_hit, mrow_miss, mrow_sw, idr_eq, ne_eq, Nat.reduceEqDiff, not_false_eq_true, Nat.reduceLT, reduceCtorEq] at q9
        exact q9
      refine G.callV (as := []) (rest := []) (a := 54) oX12_fine lk_EvenFindersModel_130 (by decide +kernel) rfl rfl ⟨rfl, rfl⟩ (Nat.le_of_ble_eq_true rfl) rfl ⟨Nat.le_of_ble_eq_true rfl, Nat.le_of_ble_eq_true rfl⟩ t10 (fun v9 N9 h11 => ?_) (fun E9 N9 h11 => by cases h11)
      cases h11
      show G z mX12_readProduct (d + 7) 0 0 8 [some (.ref 54), none] [.int (k_fine q54)] (mrow (mrow (mrow M 54 q54) 63 q63) 64 q64) Q
      refine G.if_eq (off := (82)) (tgt := 90) (by decide +kernel) rfl (fun c12 => ?_) (fun c12 => ?_)
      · skip
        rw [if_pos c12] at hk
        refine G.loc (ls2 := [none, none]) (by simp [subL]) ?_
        simp only [k_readProduct_4, if_pos c12] at hX
        exact hX
      · skip
        rw [if_neg c12] at hk
        refine G.sl [(.aload_n 0, 1, 0, 0, 0, 0)] [] (pc2 := 12) (ls2 := [some (.ref 54), none]) (st2 := [.ref 54]) (M2 := mrow (mrow (mrow M 54 q54) 63 q63) 64 q64) (Ps := []) (by decide +kernel) rfl rfl trivial ?_
        obtain ⟨k13, hk⟩ := hk
        rcases g14 : k_here q54 (M.1 56) with ⟨v15, r16⟩
        try simp only [g14] at hk
        have t17 : GM z mX12_here (d + 6) [.ref 54] (mrow (mrow (mrow M 54 q54) 63 q63) 64 q64) (fun rs => rs = .inl (some (.int v15), mrow (mrow (mrow M 54 r16) 63 q63) 64 q64)) := by
          have q9 := c_k_here_54 z (d + 6) (mrow (mrow (mrow M 54 q54) 63 q63) 64 q64) k13
          try simp only [mput, mrow_same, mrow_hit, mrow_miss, mrow_sw, idr_eq, ne_eq, Nat.reduceEqDiff, not_false_eq_true, Nat.reduceLT, reduceCtorEq, g14] at q9
          exact q9
        refine G.callV (as := []) (rest := []) (a := 54) oX12_here lk_EvenFindersModel_113 (by decide +kernel) rfl rfl ⟨rfl, rfl⟩ (Nat.le_of_ble_eq_true rfl) rfl ⟨Nat.le_of_ble_eq_true rfl, Nat.le_of_ble_eq_true rfl⟩ t17 (fun v9 N9 h18 => ?_) (fun E9 N9 h18 => by cases h18)
        cases h18
        show G z mX12_readProduct (d + 7) 0 0 15 [some (.ref 54), none] [.int v15] (mrow (mrow (mrow M 54 r16) 63 q63) 64 q64) Q
        refine G.sl [(.bipush 42, 2, 0, 0, 0, nI 42)] [] (pc2 := 17) (ls2 := [some (.ref 54), none]) (st2 := [.int (nI 42), .int v15]) (M2 := mrow (mrow (mrow M 54 r16) 63 q63) 64 q64) (Ps := []) (by decide +kernel) rfl rfl trivial ?_
        refine G.ic_eq (off := (21)) (tgt := 38) (by decide +kernel) rfl (fun c19 => ?_) (fun c19 => ?_)
        · skip
          rw [if_pos c19] at hk
          refine G.sl [(.aload_n 0, 1, 0, 0, 0, 0)] [] (pc2 := 39) (ls2 := [some (.ref 54), none]) (st2 := [.ref 54]) (M2 := mrow (mrow (mrow M 54 r16) 63 q63) 64 q64) (Ps := []) (by decide +kernel) rfl rfl trivial ?_
          obtain ⟨k20, hk⟩ := hk
          rcases g21 : k_here r16 (M.1 56) with ⟨v22, r23⟩
          try simp only [g21] at hk
          have t24 : GM z mX12_here (d + 6) [.ref 54] (mrow (mrow (mrow M 54 r16) 63 q63) 64 q64) (fun rs => rs = .inl (some (.int v22), mrow (mrow (mrow M 54 r23) 63 q63) 64 q64)) := by
            have q9 := c_k_here_54 z (d + 6) (mrow (mrow (mrow M 54 r16) 63 q63) 64 q64) k20
            try simp only [mput, mrow_same, mrow_hit, mrow_miss, mrow_sw, idr_eq, ne_eq, Nat.reduceEqDiff, not_false_eq_true, Nat.reduceLT, reduceCtorEq, g21] at q9
            exact q9
          refine G.callV (as := []) (rest := []) (a := 54) oX12_here lk_EvenFindersModel_113 (by decide +kernel) rfl rfl ⟨rfl, rfl⟩ (Nat.le_of_ble_eq_true rfl) rfl ⟨Nat.le_of_ble_eq_true rfl, Nat.le_of_ble_eq_true rfl⟩ t24 (fun v9 N9 h25 => ?_) (fun E9 N9 h25 => by cases h25)
          cases h25
          show G z mX12_readProduct (d + 7) 0 0 42 [some (.ref 54), none] [.int v22] (mrow (mrow (mrow M 54 r23) 63 q63) 64 q64) Q
          refine G.sl [(.bipush 42, 2, 0, 0, 0, nI 42)] [] (pc2 := 44) (ls2 := [some (.ref 54), none]) (st2 := [.int (nI 42), .int v22]) (M2 := mrow (mrow (mrow M 54 r23) 63 q63) 64 q64) (Ps := []) (by decide +kernel) rfl rfl trivial ?_
          refine G.ic_ne (off := (7)) (tgt := 51) (by decide +kernel) rfl (fun c26 => ?_) (fun c26 => ?_)
          · skip
            rw [if_neg c26] at hk
            refine G.sl [(.aload_n 0, 1, 0, 0, 0, 0)] [] (pc2 := 52) (ls2 := [some (.ref 54), none]) (st2 := [.ref 54]) (M2 := mrow (mrow (mrow M 54 r23) 63 q63) 64 q64) (Ps := []) (by decide +kernel) rfl rfl trivial ?_
            obtain ⟨k27, hk⟩ := hk
            rcases g28 : k_here r23 (M.1 56) with ⟨v29, r30⟩
            try simp only [g28] at hk
            have t31 : GM z mX12_here (d + 6) [.ref 54] (mrow (mrow (mrow M 54 r23) 63 q63) 64 q64) (fun rs => rs = .inl (some (.int v29), mrow (mrow (mrow M 54 r30) 63 q63) 64 q64)) := by
              have q9 := c_k_here_54 z (d + 6) (mrow (mrow (mrow M 54 r23) 63 q63) 64 q64) k27
              try simp only [mput, mrow_same, mrow_hit, mrow_miss, mrow_sw, idr_eq, ne_eq, Nat.reduceEqDiff, not_false_eq_true, Nat.reduceLT, reduceCtorEq, g28] at q9
              exact q9
            refine G.callV (as := []) (rest := []) (a := 54) oX12_here lk_EvenFindersModel_113 (by decide +kernel) rfl rfl ⟨rfl, rfl⟩ (Nat.le_of_ble_eq_true rfl) rfl ⟨Nat.le_of_ble_eq_true rfl, Nat.le_of_ble_eq_true rfl⟩ t31 (fun v9 N9 h32 => ?_) (fun E9 N9 h32 => by cases h32)
            cases h32
            show G z mX12_readProduct (d + 7) 0 0 55 [some (.ref 54), none] [.int v29] (mrow (mrow (mrow M 54 r30) 63 q63) 64 q64) Q
            refine G.sl [(.bipush 47, 2, 0, 0, 0, nI 47)] [] (pc2 := 57) (ls2 := [some (.ref 54), none]) (st2 := [.int (nI 47), .int v29]) (M2 := mrow (mrow (mrow M 54 r30) 63 q63) 64 q64) (Ps := []) (by decide +kernel) rfl rfl trivial ?_
            refine G.ic_ne (off := (7)) (tgt := 64) (by decide +kernel) rfl (fun c33 => ?_) (fun c33 => ?_)
            · skip
              rw [if_neg c33] at hk
              refine G.sl [(.bipush 8, 2, 0, 0, 0, nI 8), (.istore_n 1, 1, 1, 0, 0, 0), (.aload_n 0, 1, 0, 0, 0, 0), (.dup, 1, 0, 0, 0, 0), (.getfield 107, 3, 11, 4, 127, 0), (.iconst 1, 1, 0, 0, 0, nI 1), (.iadd, 1, 0, 0, 0, 0), (.putfield 107, 3, 11, 4, 127, 0), (.aload_n 0, 1, 0, 0, 0, 0)] [] (pc2 := 78) (ls2 := [some (.ref 54), some (.int (nI 8))]) (st2 := [.ref 54]) (M2 := mput (mrow (mrow (mrow M 54 r30) 63 q63) 64 q64) 54 4 ((r30 4) + (nI 1))) (Ps := []) (by decide +kernel) rfl rfl trivial ?_
              refine G.mem (M' := mrow (mrow (mrow M 54 (upd r30 4 ((r30 4) + (nI 1)))) 63 q63) 64 q64) (by first | rfl | (simp only [mput, mrow_same, mrow_hit, mrow_miss, mrow_sw, idr_eq, ne_eq, Nat.reduceEqDiff, not_false_eq_true, Nat.reduceLT, reduceCtorEq]; done)) ?_
              obtain ⟨k34, hk⟩ := hk
              rcases g35 : k_readUnit fz (upd r30 4 ((r30 4) + (nI 1))) (M.1 56) q63 q64 with ⟨u36, r37, r38, r39⟩
              try simp only [g35] at hk
              have t40 : GM z mX12_readUnit (d + 6) [.ref 54] (mrow (mrow (mrow M 54 (upd r30 4 ((r30 4) + (nI 1)))) 63 q63) 64 q64) (fun rs => rs = .inl (none, mrow (mrow (mrow M 54 r37) 63 r38) 64 r39)) := by
                have q9 := c_k_readUnit_54 z d (mrow (mrow (mrow M 54 (upd r30 4 ((r30 4) + (nI 1)))) 63 q63) 64 q64) fz gz Hz k34
                try simp only [mput, mrow_same, mrow_hit, mrow_miss, mrow_sw, idr_eq, ne_eq, Nat.reduceEqDiff, not_false_eq_true, Nat.reduceLT, reduceCtorEq, g35] at q9
                exact q9
              refine G.callV (as := []) (rest := []) (a := 54) oX12_readUnit lk_EvenFindersModel_255 (by decide +kernel) rfl rfl ⟨rfl, rfl⟩ (Nat.le_of_ble_eq_true rfl) rfl ⟨Nat.le_of_ble_eq_true rfl, Nat.le_of_ble_eq_true rfl⟩ t40 (fun v9 N9 h41 => ?_) (fun E9 N9 h41 => by cases h41)
              cases h41
              show G z mX12_readProduct (d + 7) 0 0 81 [some (.ref 54), some (.int (nI 8))] [] (mrow (mrow (mrow M 54 r37) 63 r38) 64 r39) Q
              refine G.sl [(.aload_n 0, 1, 0, 0, 0, 0), (.iload_n 1, 1, 1, 0, 0, 0), (.iconst 0, 1, 0, 0, 0, nI 0)] [] (pc2 := 84) (ls2 := [some (.ref 54), some (.int (nI 8))]) (st2 := [.int (nI 0), .int (nI 8), .ref 54]) (M2 := mrow (mrow (mrow M 54 r37) 63 r38) 64 r39) (Ps := []) (by decide +kernel) rfl rfl trivial ?_
              obtain ⟨k42, hk⟩ := hk
              rcases g43 : k_emit r37 r38 r39 (nI 8) (nI 0) with ⟨u44, r45, r46, r47⟩
              try simp only [g43] at hk
              have t48 : GM z mX12_emit (d + 6) [.ref 54, .int (nI 8), .int (nI 0)] (mrow (mrow (mrow M 54 r37) 63 r38) 64 r39) (fun rs => rs = .inl (none, mrow (mrow (mrow M 54 r45) 63 r46) 64 r47)) := by
                have q9 := c_k_emit_54 z (d + 5) (mrow (mrow (mrow M 54 r37) 63 r38) 64 r39) (nI 8) (nI 0) k42
                try simp only [mput, mrow_same, mrow_hit, mrow_miss, mrow_sw, idr_eq, ne_eq, Nat.reduceEqDiff, not_false_eq_true, Nat.reduceLT, reduceCtorEq, g43] at q9
                exact q9
              refine G.callV (as := [.int (nI 8), .int (nI 0)]) (rest := []) (a := 54) oX12_emit lk_EvenFindersModel_252 (by decide +kernel) rfl rfl ⟨rfl, rfl⟩ (Nat.le_of_ble_eq_true rfl) rfl ⟨Nat.le_of_ble_eq_true rfl, Nat.le_of_ble_eq_true rfl⟩ t48 (fun v9 N9 h49 => ?_) (fun E9 N9 h49 => by cases h49)
              cases h49
              show G z mX12_readProduct (d + 7) 0 0 87 [some (.ref 54), some (.int (nI 8))] [] (mrow (mrow (mrow M 54 r45) 63 r46) 64 r47) Q
              refine G.sl [(.goto (-83), 3, 4, 0, 0, 0)] [] (pc2 := 4) (ls2 := [some (.ref 54), some (.int (nI 8))]) (st2 := []) (M2 := mrow (mrow (mrow M 54 r45) 63 r46) 64 r47) (Ps := []) (by decide +kernel) rfl rfl trivial ?_
              refine G.loc (ls2 := [some (.ref 54), none]) (by simp [subL]) ?_
              simp only [k_readProduct_4, if_neg c12, g14, if_pos c19, g21, if_neg c26, g28, if_neg c33, g35, g43] at hX
              exact ih r45 r46 r47 hk hX
            · skip
              rw [if_pos c33] at hk
              refine G.sl [(.iconst 5, 1, 0, 0, 0, nI 5), (.goto 5, 3, 66, 0, 0, 0), (.istore_n 1, 1, 1, 0, 0, 0), (.aload_n 0, 1, 0, 0, 0, 0), (.dup, 1, 0, 0, 0, 0), (.getfield 107, 3, 11, 4, 127, 0), (.iconst 1, 1, 0, 0, 0, nI 1), (.iadd, 1, 0, 0, 0, 0), (.putfield 107, 3, 11, 4, 127, 0), (.aload_n 0, 1, 0, 0, 0, 0)] [] (pc2 := 78) (ls2 := [some (.ref 54), some (.int (nI 5))]) (st2 := [.ref 54]) (M2 := mput (mrow (mrow (mrow M 54 r30) 63 q63) 64 q64) 54 4 ((r30 4) + (nI 1))) (Ps := []) (by decide +kernel) rfl rfl trivial ?_
              refine G.mem (M' := mrow (mrow (mrow M 54 (upd r30 4 ((r30 4) + (nI 1)))) 63 q63) 64 q64) (by first | rfl | (simp only [mput, mrow_same, mrow_hit, mrow_miss, mrow_sw, idr_eq, ne_eq, Nat.reduceEqDiff, not_false_eq_true, Nat.reduceLT, reduceCtorEq]; done)) ?_
              obtain ⟨k50, hk⟩ := hk
              rcases g51 : k_readUnit fz (upd r30 4 ((r30 4) + (nI 1))) (M.1 56) q63 q64 with ⟨u52, r53, r54, r55⟩
              try simp only [g51] at hk
              have t56 : GM z mX12_readUnit (d + 6) [.ref 54] (mrow (mrow (mrow M 54 (upd r30 4 ((r30 4) + (nI 1)))) 63 q63) 64 q64) (fun rs => rs = .inl (none, mrow (mrow (mrow M 54 r53) 63 r54) 64 r55)) := by
                have q9 := c_k_readUnit_54 z d (mrow (mrow (mrow M 54 (upd r30 4 ((r30 4) + (nI 1)))) 63 q63) 64 q64) fz gz Hz k50
                try simp only [mput, mrow_same, mrow_hit, mrow_miss, mrow_sw, idr_eq, ne_eq, Nat.reduceEqDiff, not_false_eq_true, Nat.reduceLT, reduceCtorEq, g51] at q9
                exact q9
              refine G.callV (as := []) (rest := []) (a := 54) oX12_readUnit lk_EvenFindersModel_255 (by decide +kernel) rfl rfl ⟨rfl, rfl⟩ (Nat.le_of_ble_eq_true rfl) rfl ⟨Nat.le_of_ble_eq_true rfl, Nat.le_of_ble_eq_true rfl⟩ t56 (fun v9 N9 h57 => ?_) (fun E9 N9 h57 => by cases h57)
              cases h57
              show G z mX12_readProduct (d + 7) 0 0 81 [some (.ref 54), some (.int (nI 5))] [] (mrow (mrow (mrow M 54 r53) 63 r54) 64 r55) Q
              refine G.sl [(.aload_n 0, 1, 0, 0, 0, 0), (.iload_n 1, 1, 1, 0, 0, 0), (.iconst 0, 1, 0, 0, 0, nI 0)] [] (pc2 := 84) (ls2 := [some (.ref 54), some (.int (nI 5))]) (st2 := [.int (nI 0), .int (nI 5), .ref 54]) (M2 := mrow (mrow (mrow M 54 r53) 63 r54) 64 r55) (Ps := []) (by decide +kernel) rfl rfl trivial ?_
              obtain ⟨k58, hk⟩ := hk
              rcases g59 : k_emit r53 r54 r55 (nI 5) (nI 0) with ⟨u60, r61, r62, r63⟩
              try simp only [g59] at hk
              have t64 : GM z mX12_emit (d + 6) [.ref 54, .int (nI 5), .int (nI 0)] (mrow (mrow (mrow M 54 r53) 63 r54) 64 r55) (fun rs => rs = .inl (none, mrow (mrow (mrow M 54 r61) 63 r62) 64 r63)) := by
                have q9 := c_k_emit_54 z (d + 5) (mrow (mrow (mrow M 54 r53) 63 r54) 64 r55) (nI 5) (nI 0) k58
                try simp only [mput, mrow_same, mrow_hit, mrow_miss, mrow_sw, idr_eq, ne_eq, Nat.reduceEqDiff, not_false_eq_true, Nat.reduceLT, reduceCtorEq, g59] at q9
                exact q9
              refine G.callV (as := [.int (nI 5), .int (nI 0)]) (rest := []) (a := 54) oX12_emit lk_EvenFindersModel_252 (by decide +kernel) rfl rfl ⟨rfl, rfl⟩ (Nat.le_of_ble_eq_true rfl) rfl ⟨Nat.le_of_ble_eq_true rfl, Nat.le_of_ble_eq_true rfl⟩ t64 (fun v9 N9 h65 => ?_) (fun E9 N9 h65 => by cases h65)
              cases h65
              show G z mX12_readProduct (d + 7) 0 0 87 [some (.ref 54), some (.int (nI 5))] [] (mrow (mrow (mrow M 54 r61) 63 r62) 64 r63) Q
              refine G.sl [(.goto (-83), 3, 4, 0, 0, 0)] [] (pc2 := 4) (ls2 := [some (.ref 54), some (.int (nI 5))]) (st2 := []) (M2 := mrow (mrow (mrow M 54 r61) 63 r62) 64 r63) (Ps := []) (by decide +kernel) rfl rfl trivial ?_
              refine G.loc (ls2 := [some (.ref 54), none]) (by simp [subL]) ?_
              simp only [k_readProduct_4, if_neg c12, g14, if_pos c19, g21, if_neg c26, g28, if_pos c33, g51, g59] at hX
              exact ih r61 r62 r63 hk hX
          · skip
            rw [if_pos c26] at hk
            refine G.sl [(.iconst 4, 1, 0, 0, 0, nI 4), (.goto 18, 3, 66, 0, 0, 0), (.istore_n 1, 1, 1, 0, 0, 0), (.aload_n 0, 1, 0, 0, 0, 0), (.dup, 1, 0, 0, 0, 0), (.getfield 107, 3, 11, 4, 127, 0), (.iconst 1, 1, 0, 0, 0, nI 1), (.iadd, 1, 0, 0, 0, 0), (.putfield 107, 3, 11, 4, 127, 0), (.aload_n 0, 1, 0, 0, 0, 0)] [] (pc2 := 78) (ls2 := [some (.ref 54), some (.int (nI 4))]) (st2 := [.ref 54]) (M2 := mput (mrow (mrow (mrow M 54 r23) 63 q63) 64 q64) 54 4 ((r23 4) + (nI 1))) (Ps := []) (by decide +kernel) rfl rfl trivial ?_
            refine G.mem (M' := mrow (mrow (mrow M 54 (upd r23 4 ((r23 4) + (nI 1)))) 63 q63) 64 q64) (by first | rfl | (simp only [mput, mrow_same, mrow_hit, mrow_miss, mrow_sw, idr_eq, ne_eq, Nat.reduceEqDiff, not_false_eq_true, Nat.reduceLT, reduceCtorEq]; done)) ?_
            obtain ⟨k66, hk⟩ := hk
            rcases g67 : k_readUnit fz (upd r23 4 ((r23 4) + (nI 1))) (M.1 56) q63 q64 with ⟨u68, r69, r70, r71⟩
            try simp only [g67] at hk
            have t72 : GM z mX12_readUnit (d + 6) [.ref 54] (mrow (mrow (mrow M 54 (upd r23 4 ((r23 4) + (nI 1)))) 63 q63) 64 q64) (fun rs => rs = .inl (none, mrow (mrow (mrow M 54 r69) 63 r70) 64 r71)) := by
              have q9 := c_k_readUnit_54 z d (mrow (mrow (mrow M 54 (upd r23 4 ((r23 4) + (nI 1)))) 63 q63) 64 q64) fz gz Hz k66
              try simp only [mput, mrow_same, mrow_hit, mrow_miss, mrow_sw, idr_eq, ne_eq, Nat.reduceEqDiff, not_false_eq_true, Nat.reduceLT, reduceCtorEq, g67] at q9
              exact q9
            refine G.callV (as := []) (rest := []) (a := 54) oX12_readUnit lk_EvenFindersModel_255 (by decide +kernel) rfl rfl ⟨rfl, rfl⟩ (Nat.le_of_ble_eq_true rfl) rfl ⟨Nat.le_of_ble_eq_true rfl, Nat.le_of_ble_eq_true rfl⟩ t72 (fun v9 N9 h73 => ?_) (fun E9 N9 h73 => by cases h73)
            cases h73
            show G z mX12_readProduct (d + 7) 0 0 81 [some (.ref 54), some (.int (nI 4))] [] (mrow (mrow (mrow M 54 r69) 63 r70) 64 r71) Q
            refine G.sl [(.aload_n 0, 1, 0, 0, 0, 0), (.iload_n 1, 1, 1, 0, 0, 0), (.iconst 0, 1, 0, 0, 0, nI 0)] [] (pc2 := 84) (ls2 := [some (.ref 54), some (.int (nI 4))]) (st2 := [.int (nI 0), .int (nI 4), .ref 54]) (M2 := mrow (mrow (mrow M 54 r69) 63 r70) 64 r71) (Ps := []) (by decide +kernel) rfl rfl trivial ?_
            obtain ⟨k74, hk⟩ := hk
            rcases g75 : k_emit r69 r70 r71 (nI 4) (nI 0) with ⟨u76, r77, r78, r79⟩
            try simp only [g75] at hk
            have t80 : GM z mX12_emit (d + 6) [.ref 54, .int (nI 4), .int (nI 0)] (mrow (mrow (mrow M 54 r69) 63 r70) 64 r71) (fun rs => rs = .inl (none, mrow (mrow (mrow M 54 r77) 63 r78) 64 r79)) := by
              have q9 := c_k_emit_54 z (d + 5) (mrow (mrow (mrow M 54 r69) 63 r70) 64 r71) (nI 4) (nI 0) k74
              try simp only [mput, mrow_same, mrow_hit, mrow_miss, mrow_sw, idr_eq, ne_eq, Nat.reduceEqDiff, not_false_eq_true, Nat.reduceLT, reduceCtorEq, g75] at q9
              exact q9
            refine G.callV (as := [.int (nI 4), .int (nI 0)]) (rest := []) (a := 54) oX12_emit lk_EvenFindersModel_252 (by decide +kernel) rfl rfl ⟨rfl, rfl⟩ (Nat.le_of_ble_eq_true rfl) rfl ⟨Nat.le_of_ble_eq_true rfl, Nat.le_of_ble_eq_true rfl⟩ t80 (fun v9 N9 h81 => ?_) (fun E9 N9 h81 => by cases h81)
            cases h81
            show G z mX12_readProduct (d + 7) 0 0 87 [some (.ref 54), some (.int (nI 4))] [] (mrow (mrow (mrow M 54 r77) 63 r78) 64 r79) Q
            refine G.sl [(.goto (-83), 3, 4, 0, 0, 0)] [] (pc2 := 4) (ls2 := [some (.ref 54), some (.int (nI 4))]) (st2 := []) (M2 := mrow (mrow (mrow M 54 r77) 63 r78) 64 r79) (Ps := []) (by decide +kernel) rfl rfl trivial ?_
            refine G.loc (ls2 := [some (.ref 54), none]) (by simp [subL]) ?_
            simp only [k_readProduct_4, if_neg c12, g14, if_pos c19, g21, if_pos c26, g67, g75] at hX
            exact ih r77 r78 r79 hk hX
        · skip
          rw [if_neg c19] at hk
          refine G.sl [(.aload_n 0, 1, 0, 0, 0, 0)] [] (pc2 := 21) (ls2 := [some (.ref 54), none]) (st2 := [.ref 54]) (M2 := mrow (mrow (mrow M 54 r16) 63 q63) 64 q64) (Ps := []) (by decide +kernel) rfl rfl trivial ?_
          obtain ⟨k82, hk⟩ := hk
          rcases g83 : k_here r16 (M.1 56) with ⟨v84, r85⟩
          try simp only [g83] at hk
          have t86 : GM z mX12_here (d + 6) [.ref 54] (mrow (mrow (mrow M 54 r16) 63 q63) 64 q64) (fun rs => rs = .inl (some (.int v84), mrow (mrow (mrow M 54 r85) 63 q63) 64 q64)) := by
            have q9 := c_k_here_54 z (d + 6) (mrow (mrow (mrow M 54 r16) 63 q63) 64 q64) k82
            try simp only [mput, mrow_same, mrow_hit, mrow_miss, mrow_sw, idr_eq, ne_eq, Nat.reduceEqDiff, not_false_eq_true, Nat.reduceLT, reduceCtorEq, g83] at q9
            exact q9
          refine G.callV (as := []) (rest := []) (a := 54) oX12_here lk_EvenFindersModel_113 (by decide +kernel) rfl rfl ⟨rfl, rfl⟩ (Nat.le_of_ble_eq_true rfl) rfl ⟨Nat.le_of_ble_eq_true rfl, Nat.le_of_ble_eq_true rfl⟩ t86 (fun v9 N9 h87 => ?_) (fun E9 N9 h87 => by cases h87)
          cases h87
          show G z mX12_readProduct (d + 7) 0 0 24 [some (.ref 54), none] [.int v84] (mrow (mrow (mrow M 54 r85) 63 q63) 64 q64) Q
          refine G.sl [(.bipush 47, 2, 0, 0, 0, nI 47)] [] (pc2 := 26) (ls2 := [some (.ref 54), none]) (st2 := [.int (nI 47), .int v84]) (M2 := mrow (mrow (mrow M 54 r85) 63 q63) 64 q64) (Ps := []) (by decide +kernel) rfl rfl trivial ?_
          refine G.ic_eq (off := (12)) (tgt := 38) (by decide +kernel) rfl (fun c88 => ?_) (fun c88 => ?_)
          · skip
            rw [if_pos c88] at hk
            refine G.sl [(.aload_n 0, 1, 0, 0, 0, 0)] [] (pc2 := 39) (ls2 := [some (.ref 54), none]) (st2 := [.ref 54]) (M2 := mrow (mrow (mrow M 54 r85) 63 q63) 64 q64) (Ps := []) (by decide +kernel) rfl rfl trivial ?_
            obtain ⟨k89, hk⟩ := hk
            rcases g90 : k_here r85 (M.1 56) with ⟨v91, r92⟩
            try simp only [g90] at hk
            have t93 : GM z mX12_here (d + 6) [.ref 54] (mrow (mrow (mrow M 54 r85) 63 q63) 64 q64) (fun rs => rs = .inl (some (.int v91), mrow (mrow (mrow M 54 r92) 63 q63) 64 q64)) := by
              have q9 := c_k_here_54 z (d + 6) (mrow (mrow (mrow M 54 r85) 63 q63) 64 q64) k89
              try simp only [mput, mrow_same, mrow_hit, mrow_miss, mrow_sw, idr_eq, ne_eq, Nat.reduceEqDiff, not_false_eq_true, Nat.reduceLT, reduceCtorEq, g90] at q9
              exact q9
            refine G.callV (as := []) (rest := []) (a := 54) oX12_here lk_EvenFindersModel_113 (by decide +kernel) rfl rfl ⟨rfl, rfl⟩ (Nat.le_of_ble_eq_true rfl) rfl ⟨Nat.le_of_ble_eq_true rfl, Nat.le_of_ble_eq_true rfl⟩ t93 (fun v9 N9 h94 => ?_) (fun E9 N9 h94 => by cases h94)
            cases h94
            show G z mX12_readProduct (d + 7) 0 0 42 [some (.ref 54), none] [.int v91] (mrow (mrow (mrow M 54 r92) 63 q63) 64 q64) Q
            refine G.sl [(.bipush 42, 2, 0, 0, 0, nI 42)] [] (pc2 := 44) (ls2 := [some (.ref 54), none]) (st2 := [.int (nI 42), .int v91]) (M2 := mrow (mrow (mrow M 54 r92) 63 q63) 64 q64) (Ps := []) (by decide +kernel) rfl rfl trivial ?_
            refine G.ic_ne (off := (7)) (tgt := 51) (by decide +kernel) rfl (fun c95 => ?_) (fun c95 => ?_)
            · skip
              rw [if_neg c95] at hk
              refine G.sl [(.aload_n 0, 1, 0, 0, 0, 0)] [] (pc2 := 52) (ls2 := [some (.ref 54), none]) (st2 := [.ref 54]) (M2 := mrow (mrow (mrow M 54 r92) 63 q63) 64 q64) (Ps := []) (by decide +kernel) rfl rfl trivial ?_
              obtain ⟨k96, hk⟩ := hk
              rcases g97 : k_here r92 (M.1 56) with ⟨v98, r99⟩
              try simp only [g97] at hk
              have t100 : GM z mX12_here (d + 6) [.ref 54] (mrow (mrow (mrow M 54 r92) 63 q63) 64 q64) (fun rs => rs = .inl (some (.int v98), mrow (mrow (mrow M 54 r99) 63 q63) 64 q64)) := by
                have q9 := c_k_here_54 z (d + 6) (mrow (mrow (mrow M 54 r92) 63 q63) 64 q64) k96
                try simp only [mput, mrow_same, mrow_hit, mrow_miss, mrow_sw, idr_eq, ne_eq, Nat.reduceEqDiff, not_false_eq_true, Nat.reduceLT, reduceCtorEq, g97] at q9
                exact q9
              refine G.callV (as := []) (rest := []) (a := 54) oX12_here lk_EvenFindersModel_113 (by decide +kernel) rfl rfl ⟨rfl, rfl⟩ (Nat.le_of_ble_eq_true rfl) rfl ⟨Nat.le_of_ble_eq_true rfl, Nat.le_of_ble_eq_true rfl⟩ t100 (fun v9 N9 h101 => ?_) (fun E9 N9 h101 => by cases h101)
              cases h101
              show G z mX12_readProduct (d + 7) 0 0 55 [some (.ref 54), none] [.int v98] (mrow (mrow (mrow M 54 r99) 63 q63) 64 q64) Q
              refine G.sl [(.bipush 47, 2, 0, 0, 0, nI 47)] [] (pc2 := 57) (ls2 := [some (.ref 54), none]) (st2 := [.int (nI 47), .int v98]) (M2 := mrow (mrow (mrow M 54 r99) 63 q63) 64 q64) (Ps := []) (by decide +kernel) rfl rfl trivial ?_
              refine G.ic_ne (off := (7)) (tgt := 64) (by decide +kernel) rfl (fun c102 => ?_) (fun c102 => ?_)
              · skip
                rw [if_neg c102] at hk
                refine G.sl [(.bipush 8, 2, 0, 0, 0, nI 8), (.istore_n 1, 1, 1, 0, 0, 0), (.aload_n 0, 1, 0, 0, 0, 0), (.dup, 1, 0, 0, 0, 0), (.getfield 107, 3, 11, 4, 127, 0), (.iconst 1, 1, 0, 0, 0, nI 1), (.iadd, 1, 0, 0, 0, 0), (.putfield 107, 3, 11, 4, 127, 0), (.aload_n 0, 1, 0, 0, 0, 0)] [] (pc2 := 78) (ls2 := [some (.ref 54), some (.int (nI 8))]) (st2 := [.ref 54]) (M2 := mput (mrow (mrow (mrow M 54 r99) 63 q63) 64 q64) 54 4 ((r99 4) + (nI 1))) (Ps := []) (by decide +kernel) rfl rfl trivial ?_
                refine G.mem (M' := mrow (mrow (mrow M 54 (upd r99 4 ((r99 4) + (nI 1)))) 63 q63) 64 q64) (by first | rfl | (simp only [mput, mrow_same, mrow_hit, mrow_miss, mrow_sw, idr_eq, ne_eq, Nat.reduceEqDiff, not_false_eq_true, Nat.reduceLT, reduceCtorEq]; done)) ?_
                obtain ⟨k103, hk⟩ := hk
                rcases g104 : k_readUnit fz (upd r99 4 ((r99 4) + (nI 1))) (M.1 56) q63 q64 with ⟨u105, r106, r107, r108⟩
                try simp only [g104] at hk
                have t109 : GM z mX12_readUnit (d + 6) [.ref 54] (mrow (mrow (mrow M 54 (upd r99 4 ((r99 4) + (nI 1)))) 63 q63) 64 q64) (fun rs => rs = .inl (none, mrow (mrow (mrow M 54 r106) 63 r107) 64 r108)) := by
                  have q9 := c_k_readUnit_54 z d (mrow (mrow (mrow M 54 (upd r99 4 ((r99 4) + (nI 1)))) 63 q63) 64 q64) fz gz Hz k103
                  try simp only [mput, mrow_same, mrow_hit, mrow_miss, mrow_sw, idr_eq, ne_eq, Nat.reduceEqDiff, not_false_eq_true, Nat.reduceLT, reduceCtorEq, g104] at q9
                  exact q9
                refine G.callV (as := []) (rest := []) (a := 54) oX12_readUnit lk_EvenFindersModel_255 (by decide +kernel) rfl rfl ⟨rfl, rfl⟩ (Nat.le_of_ble_eq_true rfl) rfl ⟨Nat.le_of_ble_eq_true rfl, Nat.le_of_ble_eq_true rfl⟩ t109 (fun v9 N9 h110 => ?_) (fun E9 N9 h110 => by cases h110)
                cases h110
                show G z mX12_readProduct (d + 7) 0 0 81 [some (.ref 54), some (.int (nI 8))] [] (mrow (mrow (mrow M 54 r106) 63 r107) 64 r108) Q
                refine G.sl [(.aload_n 0, 1, 0, 0, 0, 0), (.iload_n 1, 1, 1, 0, 0, 0), (.iconst 0, 1, 0, 0, 0, nI 0)] [] (pc2 := 84) (ls2 := [some (.ref 54), some (.int (nI 8))]) (st2 := [.int (nI 0), .int (nI 8), .ref 54]) (M2 := mrow (mrow (mrow M 54 r106) 63 r107) 64 r108) (Ps := []) (by decide +kernel) rfl rfl trivial ?_
                obtain ⟨k111, hk⟩ := hk
                rcases g112 : k_emit r106 r107 r108 (nI 8) (nI 0) with ⟨u113, r114, r115, r116⟩
                try simp only [g112] at hk
                have t117 : GM z mX12_emit (d + 6) [.ref 54, .int (nI 8), .int (nI 0)] (mrow (mrow (mrow M 54 r106) 63 r107) 64 r108) (fun rs => rs = .inl (none, mrow (mrow (mrow M 54 r114) 63 r115) 64 r116)) := by
                  have q9 := c_k_emit_54 z (d + 5) (mrow (mrow (mrow M 54 r106) 63 r107) 64 r108) (nI 8) (nI 0) k111
                  try simp only [mput, mrow_same, mrow_hit, mrow_miss, mrow_sw, idr_eq, ne_eq, Nat.reduceEqDiff, not_false_eq_true, Nat.reduceLT, reduceCtorEq, g112] at q9
                  exact q9
                refine G.callV (as := [.int (nI 8), .int (nI 0)]) (rest := []) (a := 54) oX12_emit lk_EvenFindersModel_252 (by decide +kernel) rfl rfl ⟨rfl, rfl⟩ (Nat.le_of_ble_eq_true rfl) rfl ⟨Nat.le_of_ble_eq_true rfl, Nat.le_of_ble_eq_true rfl⟩ t117 (fun v9 N9 h118 => ?_) (fun E9 N9 h118 => by cases h118)
                cases h118
                show G z mX12_readProduct (d + 7) 0 0 87 [some (.ref 54), some (.int (nI 8))] [] (mrow (mrow (mrow M 54 r114) 63 r115) 64 r116) Q
                refine G.sl [(.goto (-83), 3, 4, 0, 0, 0)] [] (pc2 := 4) (ls2 := [some (.ref 54), some (.int (nI 8))]) (st2 := []) (M2 := mrow (mrow (mrow M 54 r114) 63 r115) 64 r116) (Ps := []) (by decide +kernel) rfl rfl trivial ?_
                refine G.loc (ls2 := [some (.ref 54), none]) (by simp [subL]) ?_
                simp only [k_readProduct_4, if_neg c12, g14, if_neg c19, g83, if_pos c88, g90, if_neg c95, g97, if_neg c102, g104, g112] at hX
                exact ih r114 r115 r116 hk hX
              · skip
                rw [if_pos c102] at hk
                refine G.sl [(.iconst 5, 1, 0, 0, 0, nI 5), (.goto 5, 3, 66, 0, 0, 0), (.istore_n 1, 1, 1, 0, 0, 0), (.aload_n 0, 1, 0, 0, 0, 0), (.dup, 1, 0, 0, 0, 0), (.getfield 107, 3, 11, 4, 127, 0), (.iconst 1, 1, 0, 0, 0, nI 1), (.iadd, 1, 0, 0, 0, 0), (.putfield 107, 3, 11, 4, 127, 0), (.aload_n 0, 1, 0, 0, 0, 0)] [] (pc2 := 78) (ls2 := [some (.ref 54), some (.int (nI 5))]) (st2 := [.ref 54]) (M2 := mput (mrow (mrow (mrow M 54 r99) 63 q63) 64 q64) 54 4 ((r99 4) + (nI 1))) (Ps := []) (by decide +kernel) rfl rfl trivial ?_
                refine G.mem (M' := mrow (mrow (mrow M 54 (upd r99 4 ((r99 4) + (nI 1)))) 63 q63) 64 q64) (by first | rfl | (simp only [mput, mrow_same, mrow_hit, mrow_miss, mrow_sw, idr_eq, ne_eq, Nat.reduceEqDiff, not_false_eq_true, Nat.reduceLT, reduceCtorEq]; done)) ?_
                obtain ⟨k119, hk⟩ := hk
                rcases g120 : k_readUnit fz (upd r99 4 ((r99 4) + (nI 1))) (M.1 56) q63 q64 with ⟨u121, r122, r123, r124⟩
                try simp only [g120] at hk
                have t125 : GM z mX12_readUnit (d + 6) [.ref 54] (mrow (mrow (mrow M 54 (upd r99 4 ((r99 4) + (nI 1)))) 63 q63) 64 q64) (fun rs => rs = .inl (none, mrow (mrow (mrow M 54 r122) 63 r123) 64 r124)) := by
                  have q9 := c_k_readUnit_54 z d (mrow (mrow (mrow M 54 (upd r99 4 ((r99 4) + (nI 1)))) 63 q63) 64 q64) fz gz Hz k119
                  try simp only [mput, mrow_same, mrow_hit, mrow_miss, mrow_sw, idr_eq, ne_eq, Nat.reduceEqDiff, not_false_eq_true, Nat.reduceLT, reduceCtorEq, g120] at q9
                  exact q9
                refine G.callV (as := []) (rest := []) (a := 54) oX12_readUnit lk_EvenFindersModel_255 (by decide +kernel) rfl rfl ⟨rfl, rfl⟩ (Nat.le_of_ble_eq_true rfl) rfl ⟨Nat.le_of_ble_eq_true rfl, Nat.le_of_ble_eq_true rfl⟩ t125 (fun v9 N9 h126 => ?_) (fun E9 N9 h126 => by cases h126)
                cases h126
                show G z mX12_readProduct (d + 7) 0 0 81 [some (.ref 54), some (.int (nI 5))] [] (mrow (mrow (mrow M 54 r122) 63 r123) 64 r124) Q
                refine G.sl [(.aload_n 0, 1, 0, 0, 0, 0), (.iload_n 1, 1, 1, 0, 0, 0), (.iconst 0, 1, 0, 0, 0, nI 0)] [] (pc2 := 84) (ls2 := [some (.ref 54), some (.int (nI 5))]) (st2 := [.int (nI 0), .int (nI 5), .ref 54]) (M2 := mrow (mrow (mrow M 54 r122) 63 r123) 64 r124) (Ps := []) (by decide +kernel) rfl rfl trivial ?_
                obtain ⟨k127, hk⟩ := hk
                rcases g128 : k_emit r122 r123 r124 (nI 5) (nI 0) with ⟨u129, r130, r131, r132⟩
                try simp only [g128] at hk
                have t133 : GM z mX12_emit (d + 6) [.ref 54, .int (nI 5), .int (nI 0)] (mrow (mrow (mrow M 54 r122) 63 r123) 64 r124) (fun rs => rs = .inl (none, mrow (mrow (mrow M 54 r130) 63 r131) 64 r132)) := by
                  have q9 := c_k_emit_54 z (d + 5) (mrow (mrow (mrow M 54 r122) 63 r123) 64 r124) (nI 5) (nI 0) k127
                  try simp only [mput, mrow_same, mrow_hit, mrow_miss, mrow_sw, idr_eq, ne_eq, Nat.reduceEqDiff, not_false_eq_true, Nat.reduceLT, reduceCtorEq, g128] at q9
                  exact q9
                refine G.callV (as := [.int (nI 5), .int (nI 0)]) (rest := []) (a := 54) oX12_emit lk_EvenFindersModel_252 (by decide +kernel) rfl rfl ⟨rfl, rfl⟩ (Nat.le_of_ble_eq_true rfl) rfl ⟨Nat.le_of_ble_eq_true rfl, Nat.le_of_ble_eq_true rfl⟩ t133 (fun v9 N9 h134 => ?_) (fun E9 N9 h134 => by cases h134)
                cases h134
                show G z mX12_readProduct (d + 7) 0 0 87 [some (.ref 54), some (.int (nI 5))] [] (mrow (mrow (mrow M 54 r130) 63 r131) 64 r132) Q
                refine G.sl [(.goto (-83), 3, 4, 0, 0, 0)] [] (pc2 := 4) (ls2 := [some (.ref 54), some (.int (nI 5))]) (st2 := []) (M2 := mrow (mrow (mrow M 54 r130) 63 r131) 64 r132) (Ps := []) (by decide +kernel) rfl rfl trivial ?_
                refine G.loc (ls2 := [some (.ref 54), none]) (by simp [subL]) ?_
                simp only [k_readProduct_4, if_neg c12, g14, if_neg c19, g83, if_pos c88, g90, if_neg c95, g97, if_pos c102, g120, g128] at hX
                exact ih r130 r131 r132 hk hX
            · skip
              rw [if_pos c95] at hk
              refine G.sl [(.iconst 4, 1, 0, 0, 0, nI 4), (.goto 18, 3, 66, 0, 0, 0), (.istore_n 1, 1, 1, 0, 0, 0), (.aload_n 0, 1, 0, 0, 0, 0), (.dup, 1, 0, 0, 0, 0), (.getfield 107, 3, 11, 4, 127, 0), (.iconst 1, 1, 0, 0, 0, nI 1), (.iadd, 1, 0, 0, 0, 0), (.putfield 107, 3, 11, 4, 127, 0), (.aload_n 0, 1, 0, 0, 0, 0)] [] (pc2 := 78) (ls2 := [some (.ref 54), some (.int (nI 4))]) (st2 := [.ref 54]) (M2 := mput (mrow (mrow (mrow M 54 r92) 63 q63) 64 q64) 54 4 ((r92 4) + (nI 1))) (Ps := []) (by decide +kernel) rfl rfl trivial ?_
              refine G.mem (M' := mrow (mrow (mrow M 54 (upd r92 4 ((r92 4) + (nI 1)))) 63 q63) 64 q64) (by first | rfl | (simp only [mput, mrow_same, mrow_hit, mrow_miss, mrow_sw, idr_eq, ne_eq, Nat.reduceEqDiff, not_false_eq_true, Nat.reduceLT, reduceCtorEq]; done)) ?_
              obtain ⟨k135, hk⟩ := hk
              rcases g136 : k_readUnit fz (upd r92 4 ((r92 4) + (nI 1))) (M.1 56) q63 q64 with ⟨u137, r138, r139, r140⟩
              try simp only [g136] at hk
              have t141 : GM z mX12_readUnit (d + 6) [.ref 54] (mrow (mrow (mrow M 54 (upd r92 4 ((r92 4) + (nI 1)))) 63 q63) 64 q64) (fun rs => rs = .inl (none, mrow (mrow (mrow M 54 r138) 63 r139) 64 r140)) := by
                have q9 := c_k_readUnit_54 z d (mrow (mrow (mrow M 54 (upd r92 4 ((r92 4) + (nI 1)))) 63 q63) 64 q64) fz gz Hz k135
                try simp only [mput, mrow_same, mrow_hit, mrow_miss, mrow_sw, idr_eq, ne_eq, Nat.reduceEqDiff, not_false_eq_true, Nat.reduceLT, reduceCtorEq, g136] at q9
                exact q9
              refine G.callV (as := []) (rest := []) (a := 54) oX12_readUnit lk_EvenFindersModel_255 (by decide +kernel) rfl rfl ⟨rfl, rfl⟩ (Nat.le_of_ble_eq_true rfl) rfl ⟨Nat.le_of_ble_eq_true rfl, Nat.le_of_ble_eq_true rfl⟩ t141 (fun v9 N9 h142 => ?_) (fun E9 N9 h142 => by cases h142)
              cases h142
              show G z mX12_readProduct (d + 7) 0 0 81 [some (.ref 54), some (.int (nI 4))] [] (mrow (mrow (mrow M 54 r138) 63 r139) 64 r140) Q
              refine G.sl [(.aload_n 0, 1, 0, 0, 0, 0), (.iload_n 1, 1, 1, 0, 0, 0), (.iconst 0, 1, 0, 0, 0, nI 0)] [] (pc2 := 84) (ls2 := [some (.ref 54), some (.int (nI 4))]) (st2 := [.int (nI 0), .int (nI 4), .ref 54]) (M2 := mrow (mrow (mrow M 54 r138) 63 r139) 64 r140) (Ps := []) (by decide +kernel) rfl rfl trivial ?_
              obtain ⟨k143, hk⟩ := hk
              rcases g144 : k_emit r138 r139 r140 (nI 4) (nI 0) with ⟨u145, r146, r147, r148⟩
              try simp only [g144] at hk
              have t149 : GM z mX12_emit (d + 6) [.ref 54, .int (nI 4), .int (nI 0)] (mrow (mrow (mrow M 54 r138) 63 r139) 64 r140) (fun rs => rs = .inl (none, mrow (mrow (mrow M 54 r146) 63 r147) 64 r148)) := by
                have q9 := c_k_emit_54 z (d + 5) (mrow (mrow (mrow M 54 r138) 63 r139) 64 r140) (nI 4) (nI 0) k143
                try simp only [mput, mrow_same, mrow_hit, mrow_miss, mrow_sw, idr_eq, ne_eq, Nat.reduceEqDiff, not_false_eq_true, Nat.reduceLT, reduceCtorEq, g144] at q9
                exact q9
              refine G.callV (as := [.int (nI 4), .int (nI 0)]) (rest := []) (a := 54) oX12_emit lk_EvenFindersModel_252 (by decide +kernel) rfl rfl ⟨rfl, rfl⟩ (Nat.le_of_ble_eq_true rfl) rfl ⟨Nat.le_of_ble_eq_true rfl, Nat.le_of_ble_eq_true rfl⟩ t149 (fun v9 N9 h150 => ?_) (fun E9 N9 h150 => by cases h150)
              cases h150
              show G z mX12_readProduct (d + 7) 0 0 87 [some (.ref 54), some (.int (nI 4))] [] (mrow (mrow (mrow M 54 r146) 63 r147) 64 r148) Q
              refine G.sl [(.goto (-83), 3, 4, 0, 0, 0)] [] (pc2 := 4) (ls2 := [some (.ref 54), some (.int (nI 4))]) (st2 := []) (M2 := mrow (mrow (mrow M 54 r146) 63 r147) 64 r148) (Ps := []) (by decide +kernel) rfl rfl trivial ?_
              refine G.loc (ls2 := [some (.ref 54), none]) (by simp [subL]) ?_
              simp only [k_readProduct_4, if_neg c12, g14, if_neg c19, g83, if_pos c88, g90, if_pos c95, g136, g144] at hX
              exact ih r146 r147 r148 hk hX
          · skip
            rw [if_neg c88] at hk
            refine G.sl [(.aload_n 0, 1, 0, 0, 0, 0)] [] (pc2 := 30) (ls2 := [some (.ref 54), none]) (st2 := [.ref 54]) (M2 := mrow (mrow (mrow M 54 r85) 63 q63) 64 q64) (Ps := []) (by decide +kernel) rfl rfl trivial ?_
            obtain ⟨k151, hk⟩ := hk
            rcases g152 : k_here r85 (M.1 56) with ⟨v153, r154⟩
            try simp only [g152] at hk
            have t155 : GM z mX12_here (d + 6) [.ref 54] (mrow (mrow (mrow M 54 r85) 63 q63) 64 q64) (fun rs => rs = .inl (some (.int v153), mrow (mrow (mrow M 54 r154) 63 q63) 64 q64)) := by
              have q9 := c_k_here_54 z (d + 6) (mrow (mrow (mrow M 54 r85) 63 q63) 64 q64) k151
              try simp only [mput, mrow_same, mrow_hit, mrow_miss, mrow_sw, idr_eq, ne_eq, Nat.reduceEqDiff, not_false_eq_true, Nat.reduceLT, reduceCtorEq, g152] at q9
              exact q9
            refine G.callV (as := []) (rest := []) (a := 54) oX12_here lk_EvenFindersModel_113 (by decide +kernel) rfl rfl ⟨rfl, rfl⟩ (Nat.le_of_ble_eq_true rfl) rfl ⟨Nat.le_of_ble_eq_true rfl, Nat.le_of_ble_eq_true rfl⟩ t155 (fun v9 N9 h156 => ?_) (fun E9 N9 h156 => by cases h156)
            cases h156
            show G z mX12_readProduct (d + 7) 0 0 33 [some (.ref 54), none] [.int v153] (mrow (mrow (mrow M 54 r154) 63 q63) 64 q64) Q
            refine G.sl [(.bipush 37, 2, 0, 0, 0, nI 37)] [] (pc2 := 35) (ls2 := [some (.ref 54), none]) (st2 := [.int (nI 37), .int v153]) (M2 := mrow (mrow (mrow M 54 r154) 63 q63) 64 q64) (Ps := []) (by decide +kernel) rfl rfl trivial ?_
            refine G.ic_ne (off := (55)) (tgt := 90) (by decide +kernel) rfl (fun c157 => ?_) (fun c157 => ?_)
            · skip
              rw [if_neg c157] at hk
              refine G.loc (ls2 := [none, none]) (by simp [subL]) ?_
              simp only [k_readProduct_4, if_neg c12, g14, if_neg c19, g83, if_neg c88, g152, if_neg c157] at hX
              exact hX
            · skip
              rw [if_pos c157] at hk
              refine G.sl [(.aload_n 0, 1, 0, 0, 0, 0)] [] (pc2 := 39) (ls2 := [some (.ref 54), none]) (st2 := [.ref 54]) (M2 := mrow (mrow (mrow M 54 r154) 63 q63) 64 q64) (Ps := []) (by decide +kernel) rfl rfl trivial ?_
              obtain ⟨k158, hk⟩ := hk
              rcases g159 : k_here r154 (M.1 56) with ⟨v160, r161⟩
              try simp only [g159] at hk
              have t162 : GM z mX12_here (d + 6) [.ref 54] (mrow (mrow (mrow M 54 r154) 63 q63) 64 q64) (fun rs => rs = .inl (some (.int v160), mrow (mrow (mrow M 54 r161) 63 q63) 64 q64)) := by
                have q9 := c_k_here_54 z (d + 6) (mrow (mrow (mrow M 54 r154) 63 q63) 64 q64) k158
                try simp only [mput, mrow_same, mrow_hit, mrow_miss, mrow_sw, idr_eq, ne_eq, Nat.reduceEqDiff, not_false_eq_true, Nat.reduceLT, reduceCtorEq, g159] at q9
                exact q9
              refine G.callV (as := []) (rest := []) (a := 54) oX12_here lk_EvenFindersModel_113 (by decide +kernel) rfl rfl ⟨rfl, rfl⟩ (Nat.le_of_ble_eq_true rfl) rfl ⟨Nat.le_of_ble_eq_true rfl, Nat.le_of_ble_eq_true rfl⟩ t162 (fun v9 N9 h163 => ?_) (fun E9 N9 h163 => by cases h163)
              cases h163
              show G z mX12_readProduct (d + 7) 0 0 42 [some (.ref 54), none] [.int v160] (mrow (mrow (mrow M 54 r161) 63 q63) 64 q64) Q
              refine G.sl [(.bipush 42, 2, 0, 0, 0, nI 42)] [] (pc2 := 44) (ls2 := [some (.ref 54), none]) (st2 := [.int (nI 42), .int v160]) (M2 := mrow (mrow (mrow M 54 r161) 63 q63) 64 q64) (Ps := []) (by decide +kernel) rfl rfl trivial ?_
              refine G.ic_ne (off := (7)) (tgt := 51) (by decide +kernel) rfl (fun c164 => ?_) (fun c164 => ?_)
              · skip
                rw [if_neg c164] at hk
                refine G.sl [(.aload_n 0, 1, 0, 0, 0, 0)] [] (pc2 := 52) (ls2 := [some (.ref 54), none]) (st2 := [.ref 54]) (M2 := mrow (mrow (mrow M 54 r161) 63 q63) 64 q64) (Ps := []) (by decide +kernel) rfl rfl trivial ?_
                obtain ⟨k165, hk⟩ := hk
                rcases g166 : k_here r161 (M.1 56) with ⟨v167, r168⟩
                try simp only [g166] at hk
                have t169 : GM z mX12_here (d + 6) [.ref 54] (mrow (mrow (mrow M 54 r161) 63 q63) 64 q64) (fun rs => rs = .inl (some (.int v167), mrow (mrow (mrow M 54 r168) 63 q63) 64 q64)) := by
                  have q9 := c_k_here_54 z (d + 6) (mrow (mrow (mrow M 54 r161) 63 q63) 64 q64) k165
                  try simp only [mput, mrow_same, mrow_hit, mrow_miss, mrow_sw, idr_eq, ne_eq, Nat.reduceEqDiff, not_false_eq_true, Nat.reduceLT, reduceCtorEq, g166] at q9
                  exact q9
                refine G.callV (as := []) (rest := []) (a := 54) oX12_here lk_EvenFindersModel_113 (by decide +kernel) rfl rfl ⟨rfl, rfl⟩ (Nat.le_of_ble_eq_true rfl) rfl ⟨Nat.le_of_ble_eq_true rfl, Nat.le_of_ble_eq_true rfl⟩ t169 (fun v9 N9 h170 => ?_) (fun E9 N9 h170 => by cases h170)
                cases h170
                show G z mX12_readProduct (d + 7) 0 0 55 [some (.ref 54), none] [.int v167] (mrow (mrow (mrow M 54 r168) 63 q63) 64 q64) Q
                refine G.sl [(.bipush 47, 2, 0, 0, 0, nI 47)] [] (pc2 := 57) (ls2 := [some (.ref 54), none]) (st2 := [.int (nI 47), .int v167]) (M2 := mrow (mrow (mrow M 54 r168) 63 q63) 64 q64) (Ps := []) (by decide +kernel) rfl rfl trivial ?_
                refine G.ic_ne (off := (7)) (tgt := 64) (by decide +kernel) rfl (fun c171 => ?_) (fun c171 => ?_)
                · skip
                  rw [if_neg c171] at hk
                  refine G.sl [(.bipush 8, 2, 0, 0, 0, nI 8), (.istore_n 1, 1, 1, 0, 0, 0), (.aload_n 0, 1, 0, 0, 0, 0), (.dup, 1, 0, 0, 0, 0), (.getfield 107, 3, 11, 4, 127, 0), (.iconst 1, 1, 0, 0, 0, nI 1), (.iadd, 1, 0, 0, 0, 0), (.putfield 107, 3, 11, 4, 127, 0), (.aload_n 0, 1, 0, 0, 0, 0)] [] (pc2 := 78) (ls2 := [some (.ref 54), some (.int (nI 8))]) (st2 := [.ref 54]) (M2 := mput (mrow (mrow (mrow M 54 r168) 63 q63) 64 q64) 54 4 ((r168 4) + (nI 1))) (Ps := []) (by decide +kernel) rfl rfl trivial ?_
                  refine G.mem (M' := mrow (mrow (mrow M 54 (upd r168 4 ((r168 4) + (nI 1)))) 63 q63) 64 q64) (by first | rfl | (simp only [mput, mrow_same, mrow_hit, mrow_miss, mrow_sw, idr_eq, ne_eq, Nat.reduceEqDiff, not_false_eq_true, Nat.reduceLT, reduceCtorEq]; done)) ?_
                  obtain ⟨k172, hk⟩ := hk
                  rcases g173 : k_readUnit fz (upd r168 4 ((r168 4) + (nI 1))) (M.1 56) q63 q64 with ⟨u174, r175, r176, r177⟩
                  try simp only [g173] at hk
                  have t178 : GM z mX12_readUnit (d + 6) [.ref 54] (mrow (mrow (mrow M 54 (upd r168 4 ((r168 4) + (nI 1)))) 63 q63) 64 q64) (fun rs => rs = .inl (none, mrow (mrow (mrow M 54 r175) 63 r176) 64 r177)) := by
                    have q9 := c_k_readUnit_54 z d (mrow (mrow (mrow M 54 (upd r168 4 ((r168 4) + (nI 1)))) 63 q63) 64 q64) fz gz Hz k172
                    try simp only [mput, mrow_same, mrow_hit, mrow_miss, mrow_sw, idr_eq, ne_eq, Nat.reduceEqDiff, not_false_eq_true, Nat.reduceLT, reduceCtorEq, g173] at q9
                    exact q9
                  refine G.callV (as := []) (rest := []) (a := 54) oX12_readUnit lk_EvenFindersModel_255 (by decide +kernel) rfl rfl ⟨rfl, rfl⟩ (Nat.le_of_ble_eq_true rfl) rfl ⟨Nat.le_of_ble_eq_true rfl, Nat.le_of_ble_eq_true rfl⟩ t178 (fun v9 N9 h179 => ?_) (fun E9 N9 h179 => by cases h179)
                  cases h179
                  show G z mX12_readProduct (d + 7) 0 0 81 [some (.ref 54), some (.int (nI 8))] [] (mrow (mrow (mrow M 54 r175) 63 r176) 64 r177) Q
                  refine G.sl [(.aload_n 0, 1, 0, 0, 0, 0), (.iload_n 1, 1, 1, 0, 0, 0), (.iconst 0, 1, 0, 0, 0, nI 0)] [] (pc2 := 84) (ls2 := [some (.ref 54), some (.int (nI 8))]) (st2 := [.int (nI 0), .int (nI 8), .ref 54]) (M2 := mrow (mrow (mrow M 54 r175) 63 r176) 64 r177) (Ps := []) (by decide +kernel) rfl rfl trivial ?_
                  obtain ⟨k180, hk⟩ := hk
                  rcases g181 : k_emit r175 r176 r177 (nI 8) (nI 0) with ⟨u182, r183, r184, r185⟩
                  try simp only [g181] at hk
                  have t186 : GM z mX12_emit (d + 6) [.ref 54, .int (nI 8), .int (nI 0)] (mrow (mrow (mrow M 54 r175) 63 r176) 64 r177) (fun rs => rs = .inl (none, mrow (mrow (mrow M 54 r183) 63 r184) 64 r185)) := by
                    have q9 := c_k_emit_54 z (d + 5) (mrow (mrow (mrow M 54 r175) 63 r176) 64 r177) (nI 8) (nI 0) k180
                    try simp only [mput, mrow_same, mrow_hit, mrow_miss, mrow_sw, idr_eq, ne_eq, Nat.reduceEqDiff, not_false_eq_true, Nat.reduceLT, reduceCtorEq, g181] at q9
                    exact q9
                  refine G.callV (as := [.int (nI 8), .int (nI 0)]) (rest := []) (a := 54) oX12_emit lk_EvenFindersModel_252 (by decide +kernel) rfl rfl ⟨rfl, rfl⟩ (Nat.le_of_ble_eq_true rfl) rfl ⟨Nat.le_of_ble_eq_true rfl, Nat.le_of_ble_eq_true rfl⟩ t186 (fun v9 N9 h187 => ?_) (fun E9 N9 h187 => by cases h187)
                  cases h187
                  show G z mX12_readProduct (d + 7) 0 0 87 [some (.ref 54), some (.int (nI 8))] [] (mrow (mrow (mrow M 54 r183) 63 r184) 64 r185) Q
                  refine G.sl [(.goto (-83), 3, 4, 0, 0, 0)] [] (pc2 := 4) (ls2 := [some (.ref 54), some (.int (nI 8))]) (st2 := []) (M2 := mrow (mrow (mrow M 54 r183) 63 r184) 64 r185) (Ps := []) (by decide +kernel) rfl rfl trivial ?_
                  refine G.loc (ls2 := [some (.ref 54), none]) (by simp [subL]) ?_
                  simp only [k_readProduct_4, if_neg c12, g14, if_neg c19, g83, if_neg c88, g152, if_pos c157, g159, if_neg c164, g166, if_neg c171, g173, g181] at hX
                  exact ih r183 r184 r185 hk hX
                · skip
                  rw [if_pos c171] at hk
                  refine G.sl [(.iconst 5, 1, 0, 0, 0, nI 5), (.goto 5, 3, 66, 0, 0, 0), (.istore_n 1, 1, 1, 0, 0, 0), (.aload_n 0, 1, 0, 0, 0, 0), (.dup, 1, 0, 0, 0, 0), (.getfield 107, 3, 11, 4, 127, 0), (.iconst 1, 1, 0, 0, 0, nI 1), (.iadd, 1, 0, 0, 0, 0), (.putfield 107, 3, 11, 4, 127, 0), (.aload_n 0, 1, 0, 0, 0, 0)] [] (pc2 := 78) (ls2 := [some (.ref 54), some (.int (nI 5))]) (st2 := [.ref 54]) (M2 := mput (mrow (mrow (mrow M 54 r168) 63 q63) 64 q64) 54 4 ((r168 4) + (nI 1))) (Ps := []) (by decide +kernel) rfl rfl trivial ?_
                  refine G.mem (M' := mrow (mrow (mrow M 54 (upd r168 4 ((r168 4) + (nI 1)))) 63 q63) 64 q64) (by first | rfl | (simp only [mput, mrow_same, mrow_hit, mrow_miss, mrow_sw, idr_eq, ne_eq, Nat.reduceEqDiff, not_false_eq_true, Nat.reduceLT, reduceCtorEq]; done)) ?_
                  obtain ⟨k188, hk⟩ := hk
                  rcases g189 : k_readUnit fz (upd r168 4 ((r168 4) + (nI 1))) (M.1 56) q63 q64 with ⟨u190, r191, r192, r193⟩
                  try simp only [g189] at hk
                  have t194 : GM z mX12_readUnit (d + 6) [.ref 54] (mrow (mrow (mrow M 54 (upd r168 4 ((r168 4) + (nI 1)))) 63 q63) 64 q64) (fun rs => rs = .inl (none, mrow (mrow (mrow M 54 r191) 63 r192) 64 r193)) := by
                    have q9 := c_k_readUnit_54 z d (mrow (mrow (mrow M 54 (upd r168 4 ((r168 4) + (nI 1)))) 63 q63) 64 q64) fz gz Hz k188
                    try simp only [mput, mrow_same, mrow_hit, mrow_miss, mrow_sw, idr_eq, ne_eq, Nat.reduceEqDiff, not_false_eq_true, Nat.reduceLT, reduceCtorEq, g189] at q9
                    exact q9
                  refine G.callV (as := []) (rest := []) (a := 54) oX12_readUnit lk_EvenFindersModel_255 (by decide +kernel) rfl rfl ⟨rfl, rfl⟩ (Nat.le_of_ble_eq_true rfl) rfl ⟨Nat.le_of_ble_eq_true rfl, Nat.le_of_ble_eq_true rfl⟩ t194 (fun v9 N9 h195 => ?_) (fun E9 N9 h195 => by cases h195)
                  cases h195
                  show G z mX12_readProduct (d + 7) 0 0 81 [some (.ref 54), some (.int (nI 5))] [] (mrow (mrow (mrow M 54 r191) 63 r192) 64 r193) Q
                  refine G.sl [(.aload_n 0, 1, 0, 0, 0, 0), (.iload_n 1, 1, 1, 0, 0, 0), (.iconst 0, 1, 0, 0, 0, nI 0)] [] (pc2 := 84) (ls2 := [some (.ref 54), some (.int (nI 5))]) (st2 := [.int (nI 0), .int (nI 5), .ref 54]) (M2 := mrow (mrow (mrow M 54 r191) 63 r192) 64 r193) (Ps := []) (by decide +kernel) rfl rfl trivial ?_
                  obtain ⟨k196, hk⟩ := hk
                  rcases g197 : k_emit r191 r192 r193 (nI 5) (nI 0) with ⟨u198, r199, r200, r201⟩
                  try simp only [g197] at hk
                  have t202 : GM z mX12_emit (d + 6) [.ref 54, .int (nI 5), .int (nI 0)] (mrow (mrow (mrow M 54 r191) 63 r192) 64 r193) (fun rs => rs = .inl (none, mrow (mrow (mrow M 54 r199) 63 r200) 64 r201)) := by
                    have q9 := c_k_emit_54 z (d + 5) (mrow (mrow (mrow M 54 r191) 63 r192) 64 r193) (nI 5) (nI 0) k196
                    try simp only [mput, mrow_same, mrow_hit, mrow_miss, mrow_sw, idr_eq, ne_eq, Nat.reduceEqDiff, not_false_eq_true, Nat.reduceLT, reduceCtorEq, g197] at q9
                    exact q9
                  refine G.callV (as := [.int (nI 5), .int (nI 0)]) (rest := []) (a := 54) oX12_emit lk_EvenFindersModel_252 (by decide +kernel) rfl rfl ⟨rfl, rfl⟩ (Nat.le_of_ble_eq_true rfl) rfl ⟨Nat.le_of_ble_eq_true rfl, Nat.le_of_ble_eq_true rfl⟩ t202 (fun v9 N9 h203 => ?_) (fun E9 N9 h203 => by cases h203)
                  cases h203
                  show G z mX12_readProduct (d + 7) 0 0 87 [some (.ref 54), some (.int (nI 5))] [] (mrow (mrow (mrow M 54 r199) 63 r200) 64 r201) Q
                  refine G.sl [(.goto (-83), 3, 4, 0, 0, 0)] [] (pc2 := 4) (ls2 := [some (.ref 54), some (.int (nI 5))]) (st2 := []) (M2 := mrow (mrow (mrow M 54 r199) 63 r200) 64 r201) (Ps := []) (by decide +kernel) rfl rfl trivial ?_
                  refine G.loc (ls2 := [some (.ref 54), none]) (by simp [subL]) ?_
                  simp only [k_readProduct_4, if_neg c12, g14, if_neg c19, g83, if_neg c88, g152, if_pos c157, g159, if_neg c164, g166, if_pos c171, g189, g197] at hX
                  exact ih r199 r200 r201 hk hX
              · skip
                rw [if_pos c164] at hk
                refine G.sl [(.iconst 4, 1, 0, 0, 0, nI 4), (.goto 18, 3, 66, 0, 0, 0), (.istore_n 1, 1, 1, 0, 0, 0), (.aload_n 0, 1, 0, 0, 0, 0), (.dup, 1, 0, 0, 0, 0), (.getfield 107, 3, 11, 4, 127, 0), (.iconst 1, 1, 0, 0, 0, nI 1), (.iadd, 1, 0, 0, 0, 0), (.putfield 107, 3, 11, 4, 127, 0), (.aload_n 0, 1, 0, 0, 0, 0)] [] (pc2 := 78) (ls2 := [some (.ref 54), some (.int (nI 4))]) (st2 := [.ref 54]) (M2 := mput (mrow (mrow (mrow M 54 r161) 63 q63) 64 q64) 54 4 ((r161 4) + (nI 1))) (Ps := []) (by decide +kernel) rfl rfl trivial ?_
                refine G.mem (M' := mrow (mrow (mrow M 54 (upd r161 4 ((r161 4) + (nI 1)))) 63 q63) 64 q64) (by first | rfl | (simp only [mput, mrow_same, mrow_hit, mrow_miss, mrow_sw, idr_eq, ne_eq, Nat.reduceEqDiff, not_false_eq_true, Nat.reduceLT, reduceCtorEq]; done)) ?_
                obtain ⟨k204, hk⟩ := hk
                rcases g205 : k_readUnit fz (upd r161 4 ((r161 4) + (nI 1))) (M.1 56) q63 q64 with ⟨u206, r207, r208, r209⟩
                try simp only [g205] at hk
                have t210 : GM z mX12_readUnit (d + 6) [.ref 54] (mrow (mrow (mrow M 54 (upd r161 4 ((r161 4) + (nI 1)))) 63 q63) 64 q64) (fun rs => rs = .inl (none, mrow (mrow (mrow M 54 r207) 63 r208) 64 r209)) := by
                  have q9 := c_k_readUnit_54 z d (mrow (mrow (mrow M 54 (upd r161 4 ((r161 4) + (nI 1)))) 63 q63) 64 q64) fz gz Hz k204
                  try simp only [mput, mrow_same, mrow_hit, mrow_miss, mrow_sw, idr_eq, ne_eq, Nat.reduceEqDiff, not_false_eq_true, Nat.reduceLT, reduceCtorEq, g205] at q9
                  exact q9
                refine G.callV (as := []) (rest := []) (a := 54) oX12_readUnit lk_EvenFindersModel_255 (by decide +kernel) rfl rfl ⟨rfl, rfl⟩ (Nat.le_of_ble_eq_true rfl) rfl ⟨Nat.le_of_ble_eq_true rfl, Nat.le_of_ble_eq_true rfl⟩ t210 (fun v9 N9 h211 => ?_) (fun E9 N9 h211 => by cases h211)
                cases h211
                show G z mX12_readProduct (d + 7) 0 0 81 [some (.ref 54), some (.int (nI 4))] [] (mrow (mrow (mrow M 54 r207) 63 r208) 64 r209) Q
                refine G.sl [(.aload_n 0, 1, 0, 0, 0, 0), (.iload_n 1, 1, 1, 0, 0, 0), (.iconst 0, 1, 0, 0, 0, nI 0)] [] (pc2 := 84) (ls2 := [some (.ref 54), some (.int (nI 4))]) (st2 := [.int (nI 0), .int (nI 4), .ref 54]) (M2 := mrow (mrow (mrow M 54 r207) 63 r208) 64 r209) (Ps := []) (by decide +kernel) rfl rfl trivial ?_
                obtain ⟨k212, hk⟩ := hk
                rcases g213 : k_emit r207 r208 r209 (nI 4) (nI 0) with ⟨u214, r215, r216, r217⟩
                try simp only [g213] at hk
                have t218 : GM z mX12_emit (d + 6) [.ref 54, .int (nI 4), .int (nI 0)] (mrow (mrow (mrow M 54 r207) 63 r208) 64 r209) (fun rs => rs = .inl (none, mrow (mrow (mrow M 54 r215) 63 r216) 64 r217)) := by
                  have q9 := c_k_emit_54 z (d + 5) (mrow (mrow (mrow M 54 r207) 63 r208) 64 r209) (nI 4) (nI 0) k212
                  try simp only [mput, mrow_same, mrow_hit, mrow_miss, mrow_sw, idr_eq, ne_eq, Nat.reduceEqDiff, not_false_eq_true, Nat.reduceLT, reduceCtorEq, g213] at q9
                  exact q9
                refine G.callV (as := [.int (nI 4), .int (nI 0)]) (rest := []) (a := 54) oX12_emit lk_EvenFindersModel_252 (by decide +kernel) rfl rfl ⟨rfl, rfl⟩ (Nat.le_of_ble_eq_true rfl) rfl ⟨Nat.le_of_ble_eq_true rfl, Nat.le_of_ble_eq_true rfl⟩ t218 (fun v9 N9 h219 => ?_) (fun E9 N9 h219 => by cases h219)
                cases h219
                show G z mX12_readProduct (d + 7) 0 0 87 [some (.ref 54), some (.int (nI 4))] [] (mrow (mrow (mrow M 54 r215) 63 r216) 64 r217) Q
                refine G.sl [(.goto (-83), 3, 4, 0, 0, 0)] [] (pc2 := 4) (ls2 := [some (.ref 54), some (.int (nI 4))]) (st2 := []) (M2 := mrow (mrow (mrow M 54 r215) 63 r216) 64 r217) (Ps := []) (by decide +kernel) rfl rfl trivial ?_
                refine G.loc (ls2 := [some (.ref 54), none]) (by simp [subL]) ?_
                simp only [k_readProduct_4, if_neg c12, g14, if_neg c19, g83, if_neg c88, g152, if_pos c157, g159, if_pos c164, g205, g213] at hX
                exact ih r215 r216 r217 hk hX
