set_option maxHeartbeats 4000000 in
set_option maxRecDepth 3000 in
theorem c_k_readProduct_54 (z : Zp) (d : Nat) (M : Mem) (fz : (Nat → Int32) → (Nat → Int32) → (Nat → Int32) → (Nat → Int32) → Int32 × (Nat → Int32) × (Nat → Int32) × (Nat → Int32)) (gz : (Nat → Int32) → (Nat → Int32) → (Nat → Int32) → (Nat → Int32) → Prop) (Hz : ∀ (j : Nat) (M : Mem) , gz (M.1 54) (M.1 56) (M.1 63) (M.1 64) → GM z mX12_readSum (d + j) [.ref 54] M (fun rs => rs = .inl (none, mrow (mrow (mrow M 54 ((fz (M.1 54) (M.1 56) (M.1 63) (M.1 64)).2.1)) 63 ((fz (M.1 54) (M.1 56) (M.1 63) (M.1 64)).2.2.1)) 64 ((fz (M.1 54) (M.1 56) (M.1 63) (M.1 64)).2.2.2)))) (hk : k_readProduct_ok fz gz (M.1 54) (M.1 56) (M.1 63) (M.1 64)) : GM z mX12_readProduct (d + 7) [.ref 54] M (fun rs => rs = .inl (none, mrow (mrow (mrow M 54 ((k_readProduct fz (M.1 54) (M.1 56) (M.1 63) (M.1 64)).2.1)) 63 ((k_readProduct fz (M.1 54) (M.1 56) (M.1 63) (M.1 64)).2.2.1)) 64 ((k_readProduct fz (M.1 54) (M.1 56) (M.1 63) (M.1 64)).2.2.2))) := by
  simp only [k_readProduct_ok] at hk
  refine GM.of oX12_readProduct.1 (Nat.le_of_ble_eq_true rfl) ?_
  show G z mX12_readProduct (d + 7) 0 0 0 [some (.ref 54), none] [] M _
  obtain ⟨Q, hQ⟩ : ∃ Q : Rs → Prop, Q = (fun rs => rs = .inl (none, mrow (mrow (mrow M 54 ((k_readProduct fz (M.1 54) (M.1 56) (M.1 63) (M.1 64)).2.1)) 63 ((k_readProduct fz (M.1 54) (M.1 56) (M.1 63) (M.1 64)).2.2.1)) 64 ((k_readProduct fz (M.1 54) (M.1 56) (M.1 63) (M.1 64)).2.2.2))) := ⟨_, rfl⟩
  rw [← hQ]
  refine G.sl [(.aload_n 0, 1, 0, 0, 0, 0)] [] (pc2 := 1) (ls2 := [some (.ref 54), none]) (st2 := [.ref 54]) (M2 := M) (Ps := []) (by decide +kernel) rfl rfl trivial ?_
  obtain ⟨k1, hk⟩ := hk
  rcases g2 : k_readUnit fz (M.1 54) (M.1 56) (M.1 63) (M.1 64) with ⟨u3, r4, r5, r6⟩
  try simp only [g2] at hk
  have t7 : GM z mX12_readUnit (d + 6) [.ref 54] M (fun rs => rs = .inl (none, mrow (mrow (mrow M 54 r4) 63 r5) 64 r6)) := by
    have q9 := c_k_readUnit_54 z d M fz gz Hz k1
    try simp only [mput, mrow_same, mrow_hit, mrow_miss, mrow_sw, idr_eq, ne_eq, Nat.reduceEqDiff, not_false_eq_true, Nat.reduceLT, reduceCtorEq, g2] at q9
    exact q9
  refine G.callV (as := []) (rest := []) (a := 54) oX12_readUnit lk_EvenFindersModel_255 (by decide +kernel) rfl rfl ⟨rfl, rfl⟩ (Nat.le_of_ble_eq_true rfl) rfl ⟨Nat.le_of_ble_eq_true rfl, Nat.le_of_ble_eq_true rfl⟩ t7 (fun v9 N9 h8 => ?_) (fun E9 N9 h8 => by cases h8)
  cases h8
  show G z mX12_readProduct (d + 7) 0 0 4 [some (.ref 54), none] [] (mrow (mrow (mrow M 54 r4) 63 r5) 64 r6) Q
  obtain ⟨k220, hk⟩ := hk
  refine G.mem (M' := mrow (mrow (mrow (mrow (mrow (mrow M 54 r4) 63 r5) 64 r6) 54 ((mrow (mrow (mrow M 54 r4) 63 r5) 64 r6).1 54)) 63 ((mrow (mrow (mrow M 54 r4) 63 r5) 64 r6).1 63)) 64 ((mrow (mrow (mrow M 54 r4) 63 r5) 64 r6).1 64)) (by simp only [mrow_self]) ?_
  refine lp_k_readProduct_54_4 z d (mrow (mrow (mrow M 54 r4) 63 r5) 64 r6) Q fz gz Hz FU ((mrow (mrow (mrow M 54 r4) 63 r5) 64 r6).1 54) ((mrow (mrow (mrow M 54 r4) 63 r5) 64 r6).1 63) ((mrow (mrow (mrow M 54 r4) 63 r5) 64 r6).1 64) (by first | (simp only [mput, mrow_same, mrow_hit, mrow_miss, mrow_sw, idr_eq, ne_eq, Nat.reduceEqDiff, not_false_eq_true, Nat.reduceLT, reduceCtorEq]; exact k220) | exact k220) ?_
  try simp only [mput, mrow_same, mrow_hit, mrow_miss, mrow_sw, idr_eq, ne_eq, Nat.reduceEqDiff, not_false_eq_true, Nat.reduceLT, reduceCtorEq]
  rcases g221 : k_readProduct_4 fz (M.1 56) FU r4 r5 r6 with ⟨r222, r223, r224⟩
  show G z mX12_readProduct (d + 7) 0 0 90 [none, none] [] (mrow (mrow (mrow M 54 r222) 63 r223) 64 r224) Q
  exact G.retv (by decide +kernel) rfl (Nat.le_of_ble_eq_true rfl) (Nat.le_of_ble_eq_true rfl) ((by rw [hQ]; simp only [k_readProduct, g2, g221, mrow_self]))
set_option maxHeartbeats 4000000 in
set_option maxRecDepth 3000 in
theorem lp_k_readSum_54_st_4 (z : Zp) (d : Nat) (M : Mem) (Q : Rs → Prop) (fz : (Nat → Int32) → (Nat → Int32) → (Nat → Int32) → (Nat → Int32) → Int32 × (Nat → Int32) × (Nat → Int32) × (Nat → Int32)) (gz : (Nat → Int32) → (Nat → Int32) → (Nat → Int32) → (Nat → Int32) → Prop) (Hz : ∀ (j : Nat) (M : Mem) , gz (M.1 54) (M.1 56) (M.1 63) (M.1 64) → GM z mX12_readSum (d + j) [.ref 54] M (fun rs => rs = .inl (none, mrow (mrow (mrow M 54 ((fz (M.1 54) (M.1 56) (M.1 63) (M.1 64)).2.1)) 63 ((fz (M.1 54) (M.1 56) (M.1 63) (M.1 64)).2.2.1)) 64 ((fz (M.1 54) (M.1 56) (M.1 63) (M.1 64)).2.2.2)))) : ∀ (k0 : Nat) (q54 : (Nat → Int32)) (q63 : (Nat → Int32)) (q64 : (Nat → Int32)), k_readSum_st_4_ok fz gz (M.1 56) k0 q54 q63 q64 → (match k_readSum_st_4 fz (M.1 56) k0 q54 q63 q64 with | (q54', q63', q64') => G z mX12_readSum (d + 8) 0 0 67 [none, none] [] (mrow (mrow (mrow M 54 (q54')) 63 (q63')) 64 (q64')) Q) → G z mX12_readSum (d + 8) 0 0 4 [some (.ref 54), none] [] (mrow (mrow (mrow M 54 q54) 63 q63) 64 q64) Q := by
  intro k0
  induction k0 with
  | zero =>
      intro q54 q63 q64 hk hX
      exact (by simpa only [k_readSum_st_4_ok] using hk : False).elim
  | succ k0 ih =>
      intro q54 q63 q64 hk hX
      simp only [k_readSum_st_4_ok] at hk
      refine G.sl [(.aload_n 0, 1, 0, 0, 0, 0)] [] (pc2 := 5) (ls2 := [some (.ref 54), none]) (st2 := [.ref 54]) (M2 := mrow (mrow (mrow M 54 q54) 63 q63) 64 q64) (Ps := []) (by decide +kernel) rfl rfl trivial ?_
      obtain ⟨k9, hk⟩ := hk
      have t10 : GM z mX12_fine (d + 7) [.ref 54] (mrow (mrow (mrow M 54 q54) 63 q63) 64 q64) (fun rs => rs = .inl (some (.int (k_fine q54)), mrow (mrow (mrow M 54 q54) 63 q63) 64 q64)) := by
        have q9 := c_k_fine_54 z (d + 7) (mrow (mrow (mrow M 54 q54) 63 q63) 64 q64) 
        try simp only [mput, mrow_same, mrow_hit, mrow_miss, mrow_sw, idr_eq, ne_eq, Nat.reduceEqDiff, not_false_eq_true, Nat.reduceLT, reduceCtorEq] at q9
        exact q9
      refine G.callV (as := []) (rest := []) (a := 54) oX12_fine lk_EvenFindersModel_130 (by decide +kernel) rfl rfl ⟨rfl, rfl⟩ (Nat.le_of_ble_eq_true rfl) rfl ⟨Nat.le_of_ble_eq_true rfl, Nat.le_of_ble_eq_true rfl⟩ t10 (fun v9 N9 h11 => ?_) (fun E9 N9 h11 => by cases h11)
      cases h11
      show G z mX12_readSum (d + 8) 0 0 8 [some (.ref 54), none] [.int (k_fine q54)] (mrow (mrow (mrow M 54 q54) 63 q63) 64 q64) Q
      refine G.if_eq (off := (59)) (tgt := 67) (by decide +kernel) rfl (fun c12 => ?_) (fun c12 => ?_)
      · skip
        rw [if_pos c12] at hk
        refine G.loc (ls2 := [none, none]) (by simp [subL]) ?_
        simp only [k_readSum_st_4, if_pos c12] at hX
        exact hX
      · skip
        rw [if_neg c12] at hk
        refine G.sl [(.aload_n 0, 1, 0, 0, 0, 0)] [] (pc2 := 12) (ls2 := [some (.ref 54), none]) (st2 := [.ref 54]) (M2 := mrow (mrow (mrow M 54 q54) 63 q63) 64 q64) (Ps := []) (by decide +kernel) rfl rfl trivial ?_
        obtain ⟨k13, hk⟩ := hk
        rcases g14 : k_here q54 (M.1 56) with ⟨v15, r16⟩
        try simp only [g14] at hk
        have t17 : GM z mX12_here (d + 7) [.ref 54] (mrow (mrow (mrow M 54 q54) 63 q63) 64 q64) (fun rs => rs = .inl (some (.int v15), mrow (mrow (mrow M 54 r16) 63 q63) 64 q64)) := by
          have q9 := c_k_here_54 z (d + 7) (mrow (mrow (mrow M 54 q54) 63 q63) 64 q64) k13
          try simp only [mput, mrow_same, mrow_hit, mrow_miss, mrow_sw, idr_eq, ne_eq, Nat.reduceEqDiff, not_false_eq_true, Nat.reduceLT, reduceCtorEq, g14] at q9
          exact q9
        refine G.callV (as := []) (rest := []) (a := 54) oX12_here lk_EvenFindersModel_113 (by decide +kernel) rfl rfl ⟨rfl, rfl⟩ (Nat.le_of_ble_eq_true rfl) rfl ⟨Nat.le_of_ble_eq_true rfl, Nat.le_of_ble_eq_true rfl⟩ t17 (fun v9 N9 h18 => ?_) (fun E9 N9 h18 => by cases h18)
        cases h18
        show G z mX12_readSum (d + 8) 0 0 15 [some (.ref 54), none] [.int v15] (mrow (mrow (mrow M 54 r16) 63 q63) 64 q64) Q
        refine G.sl [(.bipush 43, 2, 0, 0, 0, nI 43)] [] (pc2 := 17) (ls2 := [some (.ref 54), none]) (st2 := [.int (nI 43), .int v15]) (M2 := mrow (mrow (mrow M 54 r16) 63 q63) 64 q64) (Ps := []) (by decide +kernel) rfl rfl trivial ?_
        refine G.ic_eq (off := (12)) (tgt := 29) (by decide +kernel) rfl (fun c19 => ?_) (fun c19 => ?_)
        · skip
          rw [if_pos c19] at hk
          refine G.sl [(.aload_n 0, 1, 0, 0, 0, 0)] [] (pc2 := 30) (ls2 := [some (.ref 54), none]) (st2 := [.ref 54]) (M2 := mrow (mrow (mrow M 54 r16) 63 q63) 64 q64) (Ps := []) (by decide +kernel) rfl rfl trivial ?_
          obtain ⟨k20, hk⟩ := hk
          rcases g21 : k_here r16 (M.1 56) with ⟨v22, r23⟩
          try simp only [g21] at hk
          have t24 : GM z mX12_here (d + 7) [.ref 54] (mrow (mrow (mrow M 54 r16) 63 q63) 64 q64) (fun rs => rs = .inl (some (.int v22), mrow (mrow (mrow M 54 r23) 63 q63) 64 q64)) := by
            have q9 := c_k_here_54 z (d + 7) (mrow (mrow (mrow M 54 r16) 63 q63) 64 q64) k20
            try simp only [mput, mrow_same, mrow_hit, mrow_miss, mrow_sw, idr_eq, ne_eq, Nat.reduceEqDiff, not_false_eq_true, Nat.reduceLT, reduceCtorEq, g21] at q9
            exact q9
          refine G.callV (as := []) (rest := []) (a := 54) oX12_here lk_EvenFindersModel_113 (by decide +kernel) rfl rfl ⟨rfl, rfl⟩ (Nat.le_of_ble_eq_true rfl) rfl ⟨Nat.le_of_ble_eq_true rfl, Nat.le_of_ble_eq_true rfl⟩ t24 (fun v9 N9 h25 => ?_) (fun E9 N9 h25 => by cases h25)
          cases h25
          show G z mX12_readSum (d + 8) 0 0 33 [some (.ref 54), none] [.int v22] (mrow (mrow (mrow M 54 r23) 63 q63) 64 q64) Q
          refine G.sl [(.bipush 43, 2, 0, 0, 0, nI 43)] [] (pc2 := 35) (ls2 := [some (.ref 54), none]) (st2 := [.int (nI 43), .int v22]) (M2 := mrow (mrow (mrow M 54 r23) 63 q63) 64 q64) (Ps := []) (by decide +kernel) rfl rfl trivial ?_
          refine G.ic_ne (off := (7)) (tgt := 42) (by decide +kernel) rfl (fun c26 => ?_) (fun c26 => ?_)
          · skip
            rw [if_neg c26] at hk
            refine G.sl [(.iconst 3, 1, 0, 0, 0, nI 3), (.istore_n 1, 1, 1, 0, 0, 0), (.aload_n 0, 1, 0, 0, 0, 0), (.dup, 1, 0, 0, 0, 0), (.getfield 107, 3, 11, 4, 127, 0), (.iconst 1, 1, 0, 0, 0, nI 1), (.iadd, 1, 0, 0, 0, 0), (.putfield 107, 3, 11, 4, 127, 0), (.aload_n 0, 1, 0, 0, 0, 0)] [] (pc2 := 55) (ls2 := [some (.ref 54), some (.int (nI 3))]) (st2 := [.ref 54]) (M2 := mput (mrow (mrow (mrow M 54 r23) 63 q63) 64 q64) 54 4 ((r23 4) + (nI 1))) (Ps := []) (by decide +kernel) rfl rfl trivial ?_
            refine G.mem (M' := mrow (mrow (mrow M 54 (upd r23 4 ((r23 4) + (nI 1)))) 63 q63) 64 q64) (by first | rfl | (simp only [mput, mrow_same, mrow_hit, mrow_miss, mrow_sw, idr_eq, ne_eq, Nat.reduceEqDiff, not_false_eq_true, Nat.reduceLT, reduceCtorEq]; done)) ?_
            obtain ⟨k27, hk⟩ := hk
            rcases g28 : k_readProduct fz (upd r23 4 ((r23 4) + (nI 1))) (M.1 56) q63 q64 with ⟨u29, r30, r31, r32⟩
            try simp only [g28] at hk
            have t33 : GM z mX12_readProduct (d + 7) [.ref 54] (mrow (mrow (mrow M 54 (upd r23 4 ((r23 4) + (nI 1)))) 63 q63) 64 q64) (fun rs => rs = .inl (none, mrow (mrow (mrow M 54 r30) 63 r31) 64 r32)) := by
              have q9 := c_k_readProduct_54 z d (mrow (mrow (mrow M 54 (upd r23 4 ((r23 4) + (nI 1)))) 63 q63) 64 q64) fz gz Hz k27
              try simp only [mput, mrow_same, mrow_hit, mrow_miss, mrow_sw, idr_eq, ne_eq, Nat.reduceEqDiff, not_false_eq_true, Nat.reduceLT, reduceCtorEq, g28] at q9
              exact q9
            refine G.callV (as := []) (rest := []) (a := 54) oX12_readProduct lk_EvenFindersModel_249 (by decide +kernel) rfl rfl ⟨rfl, rfl⟩ (Nat.le_of_ble_eq_true rfl) rfl ⟨Nat.le_of_ble_eq_true rfl, Nat.le_of_ble_eq_true rfl⟩ t33 (fun v9 N9 h34 => ?_) (fun E9 N9 h34 => by cases h34)
            cases h34
            show G z mX12_readSum (d + 8) 0 0 58 [some (.ref 54), some (.int (nI 3))] [] (mrow (mrow (mrow M 54 r30) 63 r31) 64 r32) Q
            refine G.sl [(.aload_n 0, 1, 0, 0, 0, 0), (.iload_n 1, 1, 1, 0, 0, 0), (.iconst 0, 1, 0, 0, 0, nI 0)] [] (pc2 := 61) (ls2 := [some (.ref 54), some (.int (nI 3))]) (st2 := [.int (nI 0), .int (nI 3), .ref 54]) (M2 := mrow (mrow (mrow M 54 r30) 63 r31) 64 r32) (Ps := []) (by decide +kernel) rfl rfl trivial ?_
            obtain ⟨k35, hk⟩ := hk
            rcases g36 : k_emit r30 r31 r32 (nI 3) (nI 0) with ⟨u37, r38, r39, r40⟩
            try simp only [g36] at hk
            have t41 : GM z mX12_emit (d + 7) [.ref 54, .int (nI 3), .int (nI 0)] (mrow (mrow (mrow M 54 r30) 63 r31) 64 r32) (fun rs => rs = .inl (none, mrow (mrow (mrow M 54 r38) 63 r39) 64 r40)) := by
              have q9 := c_k_emit_54 z (d + 6) (mrow (mrow (mrow M 54 r30) 63 r31) 64 r32) (nI 3) (nI 0) k35
              try simp only [mput, mrow_same, mrow_hit, mrow_miss, mrow_sw, idr_eq, ne_eq, Nat.reduceEqDiff, not_false_eq_true, Nat.reduceLT, reduceCtorEq, g36] at q9
              exact q9
            refine G.callV (as := [.int (nI 3), .int (nI 0)]) (rest := []) (a := 54) oX12_emit lk_EvenFindersModel_252 (by decide +kernel) rfl rfl ⟨rfl, rfl⟩ (Nat.le_of_ble_eq_true rfl) rfl ⟨Nat.le_of_ble_eq_true rfl, Nat.le_of_ble_eq_true rfl⟩ t41 (fun v9 N9 h42 => ?_) (fun E9 N9 h42 => by cases h42)
            cases h42
            show G z mX12_readSum (d + 8) 0 0 64 [some (.ref 54), some (.int (nI 3))] [] (mrow (mrow (mrow M 54 r38) 63 r39) 64 r40) Q
            refine G.sl [(.goto (-60), 3, 4, 0, 0, 0)] [] (pc2 := 4) (ls2 := [some (.ref 54), some (.int (nI 3))]) (st2 := []) (M2 := mrow (mrow (mrow M 54 r38) 63 r39) 64 r40) (Ps := []) (by decide +kernel) rfl rfl trivial ?_
            refine G.loc (ls2 := [some (.ref 54), none]) (by simp [subL]) ?_
            simp only [k_readSum_st_4, if_neg c12, g14, if_pos c19, g21, if_neg c26, g28, g36] at hX
            exact ih r38 r39 r40 hk hX
          · skip
            rw [if_pos c26] at hk
            refine G.sl [(.iconst 2, 1, 0, 0, 0, nI 2), (.goto 4, 3, 43, 0, 0, 0), (.istore_n 1, 1, 1, 0, 0, 0), (.aload_n 0, 1, 0, 0, 0, 0), (.dup, 1, 0, 0, 0, 0), (.getfield 107, 3, 11, 4, 127, 0), (.iconst 1, 1, 0, 0, 0, nI 1), (.iadd, 1, 0, 0, 0, 0), (.putfield 107, 3, 11, 4, 127, 0), (.aload_n 0, 1, 0, 0, 0, 0)] [] (pc2 := 55) (ls2 := [some (.ref 54), some (.int (nI 2))]) (st2 := [.ref 54]) (M2 := mput (mrow (mrow (mrow M 54 r23) 63 q63) 64 q64) 54 4 ((r23 4) + (nI 1))) (Ps := []) (by decide +kernel) rfl rfl trivial ?_
            refine G.mem (M' := mrow (mrow (mrow M 54 (upd r23 4 ((r23 4) + (nI 1)))) 63 q63) 64 q64) (by first | rfl | (simp only [mput, mrow_same, mrow_hit, mrow_miss, mrow_sw, idr_eq, ne_eq, Nat.reduceEqDiff, not_false_eq_true, Nat.reduceLT, reduceCtorEq]; done)) ?_
            obtain ⟨k43, hk⟩ := hk
            rcases g44 : k_readProduct fz (upd r23 4 ((r23 4) + (nI 1))) (M.1 56) q63 q64 with ⟨u45, r46, r47, r48⟩
            try simp only [g44] at hk
            have t49 : GM z mX12_readProduct (d + 7) [.ref 54] (mrow (mrow (mrow M 54 (upd r23 4 ((r23 4) + (nI 1)))) 63 q63) 64 q64) (fun rs => rs = .inl (none, mrow (mrow (mrow M 54 r46) 63 r47) 64 r48)) := by
              have q9 := c_k_readProduct_54 z d (mrow (mrow (mrow M 54 (upd r23 4 ((r23 4) + (nI 1)))) 63 q63) 64 q64) fz gz Hz k43
              try simp only [mput, mrow_same, mrow_hit, mrow_miss, mrow_sw, idr_eq, ne_eq, Nat.reduceEqDiff, not_false_eq_true, Nat.reduceLT, reduceCtorEq, g44] at q9
              exact q9
            refine G.callV (as := []) (rest := []) (a := 54) oX12_readProduct lk_EvenFindersModel_249 (by decide +kernel) rfl rfl ⟨rfl, rfl⟩ (Nat.le_of_ble_eq_true rfl) rfl ⟨Nat.le_of_ble_eq_true rfl, Nat.le_of_ble_eq_true rfl⟩ t49 (fun v9 N9 h50 => ?_) (fun E9 N9 h50 => by cases h50)
            cases h50
            show G z mX12_readSum (d + 8) 0 0 58 [some (.ref 54), some (.int (nI 2))] [] (mrow (mrow (mrow M 54 r46) 63 r47) 64 r48) Q
            refine G.sl [(.aload_n 0, 1, 0, 0, 0, 0), (.iload_n 1, 1, 1, 0, 0, 0), (.iconst 0, 1, 0, 0, 0, nI 0)] [] (pc2 := 61) (ls2 := [some (.ref 54), some (.int (nI 2))]) (st2 := [.int (nI 0), .int (nI 2), .ref 54]) (M2 := mrow (mrow (mrow M 54 r46) 63 r47) 64 r48) (Ps := []) (by decide +kernel) rfl rfl trivial ?_
            obtain ⟨k51, hk⟩ := hk
            rcases g52 : k_emit r46 r47 r48 (nI 2) (nI 0) with ⟨u53, r54, r55, r56⟩
            try simp only [g52] at hk
            have t57 : GM z mX12_emit (d + 7) [.ref 54, .int (nI 2), .int (nI 0)] (mrow (mrow (mrow M 54 r46) 63 r47) 64 r48) (fun rs => rs = .inl (none, mrow (mrow (mrow M 54 r54) 63 r55) 64 r56)) := by
              have q9 := c_k_emit_54 z (d + 6) (mrow (mrow (mrow M 54 r46) 63 r47) 64 r48) (nI 2) (nI 0) k51
              try simp only [mput, mrow_same, mrow_hit, mrow_miss, mrow_sw, idr_eq, ne_eq, Nat.reduceEqDiff, not_false_eq_true, Nat.reduceLT, reduceCtorEq, g52] at q9
              exact q9
            refine G.callV (as := [.int (nI 2), .int (nI 0)]) (rest := []) (a := 54) oX12_emit lk_EvenFindersModel_252 (by decide +kernel) rfl rfl ⟨rfl, rfl⟩ (Nat.le_of_ble_eq_true rfl) rfl ⟨Nat.le_of_ble_eq_true rfl, Nat.le_of_ble_eq_true rfl⟩ t57 (fun v9 N9 h58 => ?_) (fun E9 N9 h58 => by cases h58)
            cases h58
            show G z mX12_readSum (d + 8) 0 0 64 [some (.ref 54), some (.int (nI 2))] [] (mrow (mrow (mrow M 54 r54) 63 r55) 64 r56) Q
            refine G.sl [(.goto (-60), 3, 4, 0, 0, 0)] [] (pc2 := 4) (ls2 := [some (.ref 54), some (.int (nI 2))]) (st2 := []) (M2 := mrow (mrow (mrow M 54 r54) 63 r55) 64 r56) (Ps := []) (by decide +kernel) rfl rfl trivial ?_
            refine G.loc (ls2 := [some (.ref 54), none]) (by simp [subL]) ?_
            simp only [k_readSum_st_4, if_neg c12, g14, if_pos c19, g21, if_pos c26, g44, g52] at hX
            exact ih r54 r55 r56 hk hX
        · skip
          rw [if_neg c19] at hk
          refine G.sl [(.aload_n 0, 1, 0, 0, 0, 0)] [] (pc2 := 21) (ls2 := [some (.ref 54), none]) (st2 := [.ref 54]) (M2 := mrow (mrow (mrow M 54 r16) 63 q63) 64 q64) (Ps := []) (by decide +kernel) rfl rfl trivial ?_
          obtain ⟨k59, hk⟩ := hk
          rcases g60 : k_here r16 (M.1 56) with ⟨v61, r62⟩
          try simp only [g60] at hk
          have t63 : GM z mX12_here (d + 7) [.ref 54] (mrow (mrow (mrow M 54 r16) 63 q63) 64 q64) (fun rs => rs = .inl (some (.int v61), mrow (mrow (mrow M 54 r62) 63 q63) 64 q64)) := by
            have q9 := c_k_here_54 z (d + 7) (mrow (mrow (mrow M 54 r16) 63 q63) 64 q64) k59
            try simp only [mput, mrow_same, mrow_hit, mrow_miss, mrow_sw, idr_eq, ne_eq, Nat.reduceEqDiff, not_false_eq_true, Nat.reduceLT, reduceCtorEq, g60] at q9
            exact q9
          refine G.callV (as := []) (rest := []) (a := 54) oX12_here lk_EvenFindersModel_113 (by decide +kernel) rfl rfl ⟨rfl, rfl⟩ (Nat.le_of_ble_eq_true rfl) rfl ⟨Nat.le_of_ble_eq_true rfl, Nat.le_of_ble_eq_true rfl⟩ t63 (fun v9 N9 h64 => ?_) (fun E9 N9 h64 => by cases h64)
          cases h64
          show G z mX12_readSum (d + 8) 0 0 24 [some (.ref 54), none] [.int v61] (mrow (mrow (mrow M 54 r62) 63 q63) 64 q64) Q
          refine G.sl [(.bipush 45, 2, 0, 0, 0, nI 45)] [] (pc2 := 26) (ls2 := [some (.ref 54), none]) (st2 := [.int (nI 45), .int v61]) (M2 := mrow (mrow (mrow M 54 r62) 63 q63) 64 q64) (Ps := []) (by decide +kernel) rfl rfl trivial ?_
          refine G.ic_ne (off := (41)) (tgt := 67) (by decide +kernel) rfl (fun c65 => ?_) (fun c65 => ?_)
          · skip
            rw [if_neg c65] at hk
            refine G.loc (ls2 := [none, none]) (by simp [subL]) ?_
            simp only [k_readSum_st_4, if_neg c12, g14, if_neg c19, g60, if_neg c65] at hX
            exact hX
          · skip
            rw [if_pos c65] at hk
            refine G.sl [(.aload_n 0, 1, 0, 0, 0, 0)] [] (pc2 := 30) (ls2 := [some (.ref 54), none]) (st2 := [.ref 54]) (M2 := mrow (mrow (mrow M 54 r62) 63 q63) 64 q64) (Ps := []) (by decide +kernel) rfl rfl trivial ?_
            obtain ⟨k66, hk⟩ := hk
            rcases g67 : k_here r62 (M.1 56) with ⟨v68, r69⟩
            try simp only [g67] at hk
            have t70 : GM z mX12_here (d + 7) [.ref 54] (mrow (mrow (mrow M 54 r62) 63 q63) 64 q64) (fun rs => rs = .inl (some (.int v68), mrow (mrow (mrow M 54 r69) 63 q63) 64 q64)) := by
              have q9 := c_k_here_54 z (d + 7) (mrow (mrow (mrow M 54 r62) 63 q63) 64 q64) k66
              try simp only [mput, mrow_same, mrow_hit, mrow_miss, mrow_sw, idr_eq, ne_eq, Nat.reduceEqDiff, not_false_eq_true, Nat.reduceLT, reduceCtorEq, g67] at q9
              exact q9
            refine G.callV (as := []) (rest := []) (a := 54) oX12_here lk_EvenFindersModel_113 (by decide +kernel) rfl rfl ⟨rfl, rfl⟩ (Nat.le_of_ble_eq_true rfl) rfl ⟨Nat.le_of_ble_eq_true rfl, Nat.le_of_ble_eq_true rfl⟩ t70 (fun v9 N9 h71 => ?_) (fun E9 N9 h71 => by cases h71)
            cases h71
            show G z mX12_readSum (d + 8) 0 0 33 [some (.ref 54), none] [.int v68] (mrow (mrow (mrow M 54 r69) 63 q63) 64 q64) Q
            refine G.sl [(.bipush 43, 2, 0, 0, 0, nI 43)] [] (pc2 := 35) (ls2 := [some (.ref 54), none]) (st2 := [.int (nI 43), .int v68]) (M2 := mrow (mrow (mrow M 54 r69) 63 q63) 64 q64) (Ps := []) (by decide +kernel) rfl rfl trivial ?_
            refine G.ic_ne (off := (7)) (tgt := 42) (by decide +kernel) rfl (fun c72 => ?_) (fun c72 => ?_)
            · skip
              rw [if_neg c72] at hk
              refine G.sl [(.iconst 3, 1, 0, 0, 0, nI 3), (.istore_n 1, 1, 1, 0, 0, 0), (.aload_n 0, 1, 0, 0, 0, 0), (.dup, 1, 0, 0, 0, 0), (.getfield 107, 3, 11, 4, 127, 0), (.iconst 1, 1, 0, 0, 0, nI 1), (.iadd, 1, 0, 0, 0, 0), (.putfield 107, 3, 11, 4, 127, 0), (.aload_n 0, 1, 0, 0, 0, 0)] [] (pc2 := 55) (ls2 := [some (.ref 54), some (.int (nI 3))]) (st2 := [.ref 54]) (M2 := mput (mrow (mrow (mrow M 54 r69) 63 q63) 64 q64) 54 4 ((r69 4) + (nI 1))) (Ps := []) (by decide +kernel) rfl rfl trivial ?_
              refine G.mem (M' := mrow (mrow (mrow M 54 (upd r69 4 ((r69 4) + (nI 1)))) 63 q63) 64 q64) (by first | rfl | (simp only [mput, mrow_same, mrow_hit, mrow_miss, mrow_sw, idr_eq, ne_eq, Nat.reduceEqDiff, not_false_eq_true, Nat.reduceLT, reduceCtorEq]; done)) ?_
              obtain ⟨k73, hk⟩ := hk
              rcases g74 : k_readProduct fz (upd r69 4 ((r69 4) + (nI 1))) (M.1 56) q63 q64 with ⟨u75, r76, r77, r78⟩
              try simp only [g74] at hk
              have t79 : GM z mX12_readProduct (d + 7) [.ref 54] (mrow (mrow (mrow M 54 (upd r69 4 ((r69 4) + (nI 1)))) 63 q63) 64 q64) (fun rs => rs = .inl (none, mrow (mrow (mrow M 54 r76) 63 r77) 64 r78)) := by
                have q9 := c_k_readProduct_54 z d (mrow (mrow (mrow M 54 (upd r69 4 ((r69 4) + (nI 1)))) 63 q63) 64 q64) fz gz Hz k73
                try simp only [mput, mrow_same, mrow_hit, mrow_miss, mrow_sw, idr_eq, ne_eq, Nat.reduceEqDiff, not_false_eq_true, Nat.reduceLT, reduceCtorEq, g74] at q9
                exact q9
              refine G.callV (as := []) (rest := []) (a := 54) oX12_readProduct lk_EvenFindersModel_249 (by decide +kernel) rfl rfl ⟨rfl, rfl⟩ (Nat.le_of_ble_eq_true rfl) rfl ⟨Nat.le_of_ble_eq_true rfl, Nat.le_of_ble_eq_true rfl⟩ t79 (fun v9 N9 h80 => ?_) (fun E9 N9 h80 => by cases h80)
              cases h80
              show G z mX12_readSum (d + 8) 0 0 58 [some (.ref 54), some (.int (nI 3))] [] (mrow (mrow (mrow M 54 r76) 63 r77) 64 r78) Q
              refine G.sl [(.aload_n 0, 1, 0, 0, 0, 0), (.iload_n 1, 1, 1, 0, 0, 0), (.iconst 0, 1, 0, 0, 0, nI 0)] [] (pc2 := 61) (ls2 := [some (.ref 54), some (.int (nI 3))]) (st2 := [.int (nI 0), .int (nI 3), .ref 54]) (M2 := mrow (mrow (mrow M 54 r76) 63 r77) 64 r78) (Ps := []) (by decide +kernel) rfl rfl trivial ?_
              obtain ⟨k81, hk⟩ := hk
              rcases g82 : k_emit r76 r77 r78 (nI 3) (nI 0) with ⟨u83, r84, r85, r86⟩
              try simp only [g82] at hk
              have t87 : GM z mX12_emit (d + 7) [.ref 54, .int (nI 3), .int (nI 0)] (mrow (mrow (mrow M 54 r76) 63 r77) 64 r78) (fun rs => rs = .inl (none, mrow (mrow (mrow M 54 r84) 63 r85) 64 r86)) := by
                have q9 := c_k_emit_54 z (d + 6) (mrow (mrow (mrow M 54 r76) 63 r77) 64 r78) (nI 3) (nI 0) k81
                try simp only [mput, mrow_same, mrow_hit, mrow_miss, mrow_sw, idr_eq, ne_eq, Nat.reduceEqDiff, not_false_eq_true, Nat.reduceLT, reduceCtorEq, g82] at q9
                exact q9
              refine G.callV (as := [.int (nI 3), .int (nI 0)]) (rest := []) (a := 54) oX12_emit lk_EvenFindersModel_252 (by decide +kernel) rfl rfl ⟨rfl, rfl⟩ (Nat.le_of_ble_eq_true rfl) rfl ⟨Nat.le_of_ble_eq_true rfl, Nat.le_of_ble_eq_true rfl⟩ t87 (fun v9 N9 h88 => ?_) (fun E9 N9 h88 => by cases h88)
              cases h88
              show G z mX12_readSum (d + 8) 0 0 64 [some (.ref 54), some (.int (nI 3))] [] (mrow (mrow (mrow M 54 r84) 63 r85) 64 r86) Q
              refine G.sl [(.goto (-60), 3, 4, 0, 0, 0)] [] (pc2 := 4) (ls2 := [some (.ref 54), some (.int (nI 3))]) (st2 := []) (M2 := mrow (mrow (mrow M 54 r84) 63 r85) 64 r86) (Ps := []) (by decide +kernel) rfl rfl trivial ?_
              refine G.loc (ls2 := [some (.ref 54), none]) (by simp [subL]) ?_
              simp only [k_readSum_st_4, if_neg c12, g14, if_neg c19, g60, if_pos c65, g67, if_neg c72, g74, g82] at hX
              exact ih r84 r85 r86 hk hX
            · skip
              rw [if_pos c72] at hk
              refine G.sl [(.iconst 2, 1, 0, 0, 0, nI 2), (.goto 4, 3, 43, 0, 0, 0), (.istore_n 1, 1, 1, 0, 0, 0), (.aload_n 0, 1, 0, 0, 0, 0), (.dup, 1, 0, 0, 0, 0), (.getfield 107, 3, 11, 4, 127, 0), (.iconst 1, 1, 0, 0, 0, nI 1), (.iadd, 1, 0, 0, 0, 0), (.putfield 107, 3, 11, 4, 127, 0), (.aload_n 0, 1, 0, 0, 0, 0)] [] (pc2 := 55) (ls2 := [some (.ref 54), some (.int (nI 2))]) (st2 := [.ref 54]) (M2 := mput (mrow (mrow (mrow M 54 r69) 63 q63) 64 q64) 54 4 ((r69 4) + (nI 1))) (Ps := []) (by decide +kernel) rfl rfl trivial ?_
              refine G.mem (M' := mrow (mrow (mrow M 54 (upd r69 4 ((r69 4) + (nI 1)))) 63 q63) 64 q64) (by first | rfl | (simp only [mput, mrow_same, mrow_hit, mrow_miss, mrow_sw, idr_eq, ne_eq, Nat.reduceEqDiff, not_false_eq_true, Nat.reduceLT, reduceCtorEq]; done)) ?_
              obtain ⟨k89, hk⟩ := hk
              rcases g90 : k_readProduct fz (upd r69 4 ((r69 4) + (nI 1))) (M.1 56) q63 q64 with ⟨u91, r92, r93, r94⟩
              try simp only [g90] at hk
              have t95 : GM z mX12_readProduct (d + 7) [.ref 54] (mrow (mrow (mrow M 54 (upd r69 4 ((r69 4) + (nI 1)))) 63 q63) 64 q64) (fun rs => rs = .inl (none, mrow (mrow (mrow M 54 r92) 63 r93) 64 r94)) := by
                have q9 := c_k_readProduct_54 z d (mrow (mrow (mrow M 54 (upd r69 4 ((r69 4) + (nI 1)))) 63 q63) 64 q64) fz gz Hz k89
                try simp only [mput, mrow_same, mrow_hit, mrow_miss, mrow_sw, idr_eq, ne_eq, Nat.reduceEqDiff, not_false_eq_true, Nat.reduceLT, reduceCtorEq, g90] at q9
                exact q9
              refine G.callV (as := []) (rest := []) (a := 54) oX12_readProduct lk_EvenFindersModel_249 (by decide +kernel) rfl rfl ⟨rfl, rfl⟩ (Nat.le_of_ble_eq_true rfl) rfl ⟨Nat.le_of_ble_eq_true rfl, Nat.le_of_ble_eq_true rfl⟩ t95 (fun v9 N9 h96 => ?_) (fun E9 N9 h96 => by cases h96)
              cases h96
              show G z mX12_readSum (d + 8) 0 0 58 [some (.ref 54), some (.int (nI 2))] [] (mrow (mrow (mrow M 54 r92) 63 r93) 64 r94) Q
              refine G.sl [(.aload_n 0, 1, 0, 0, 0, 0), (.iload_n 1, 1, 1, 0, 0, 0), (.iconst 0, 1, 0, 0, 0, nI 0)] [] (pc2 := 61) (ls2 := [some (.ref 54), some (.int (nI 2))]) (st2 := [.int (nI 0), .int (nI 2), .ref 54]) (M2 := mrow (mrow (mrow M 54 r92) 63 r93) 64 r94) (Ps := []) (by decide +kernel) rfl rfl trivial ?_
              obtain ⟨k97, hk⟩ := hk
              rcases g98 : k_emit r92 r93 r94 (nI 2) (nI 0) with ⟨u99, r100, r101, r102⟩
              try simp only [g98] at hk
              have t103 : GM z mX12_emit (d + 7) [.ref 54, .int (nI 2), .int (nI 0)] (mrow (mrow (mrow M 54 r92) 63 r93) 64 r94) (fun rs => rs = .inl (none, mrow (mrow (mrow M 54 r100) 63 r101) 64 r102)) := by
                have q9 := c_k_emit_54 z (d + 6) (mrow (mrow (mrow M 54 r92) 63 r93) 64 r94) (nI 2) (nI 0) k97
                try simp only [mput, mrow_same, mrow_hit, mrow_miss, mrow_sw, idr_eq, ne_eq, Nat.reduceEqDiff, not_false_eq_true, Nat.reduceLT, reduceCtorEq, g98] at q9
                exact q9
              refine G.callV (as := [.int (nI 2), .int (nI 0)]) (rest := []) (a := 54) oX12_emit lk_EvenFindersModel_252 (by decide +kernel) rfl rfl ⟨rfl, rfl⟩ (Nat.le_of_ble_eq_true rfl) rfl ⟨Nat.le_of_ble_eq_true rfl, Nat.le_of_ble_eq_true rfl⟩ t103 (fun v9 N9 h104 => ?_) (fun E9 N9 h104 => by cases h104)
              cases h104
              show G z mX12_readSum (d + 8) 0 0 64 [some (.ref 54), some (.int (nI 2))] [] (mrow (mrow (mrow M 54 r100) 63 r101) 64 r102) Q
              refine G.sl [(.goto (-60), 3, 4, 0, 0, 0)] [] (pc2 := 4) (ls2 := [some (.ref 54), some (.int (nI 2))]) (st2 := []) (M2 := mrow (mrow (mrow M 54 r100) 63 r101) 64 r102) (Ps := []) (by decide +kernel) rfl rfl trivial ?_
              refine G.loc (ls2 := [some (.ref 54), none]) (by simp [subL]) ?_
              simp only [k_readSum_st_4, if_neg c12, g14, if_neg c19, g60, if_pos c65, g67, if_pos c72, g90, g98] at hX
              exact ih r100 r101 r102 hk hX
set_option maxHeartbeats 4000000 in
set_option maxRecDepth 3000 in
theorem c_k_readSum_54_st (z : Zp) (d : Nat) (M : Mem) (fz : (Nat → Int32) → (Nat → Int32) → (Nat → Int32) → (Nat → Int32) → Int32 × (Nat → Int32) × (Nat → Int32) × (Nat → Int32)) (gz : (Nat → Int32) → (Nat → Int32) → (Nat → Int32) → (Nat → Int32) → Prop) (Hz : ∀ (j : Nat) (M : Mem) , gz (M.1 54) (M.1 56) (M.1 63) (M.1 64) → GM z mX12_readSum (d + j) [.ref 54] M (fun rs => rs = .inl (none, mrow (mrow (mrow M 54 ((fz (M.1 54) (M.1 56) (M.1 63) (M.1 64)).2.1)) 63 ((fz (M.1 54) (M.1 56) (M.1 63) (M.1 64)).2.2.1)) 64 ((fz (M.1 54) (M.1 56) (M.1 63) (M.1 64)).2.2.2)))) (hk : k_readSum_st_ok fz gz (M.1 54) (M.1 56) (M.1 63) (M.1 64)) : GM z mX12_readSum (d + 8) [.ref 54] M (fun rs => rs = .inl (none, mrow (mrow (mrow M 54 ((k_readSum_st fz (M.1 54) (M.1 56) (M.1 63) (M.1 64)).2.1)) 63 ((k_readSum_st fz (M.1 54) (M.1 56) (M.1 63) (M.1 64)).2.2.1)) 64 ((k_readSum_st fz (M.1 54) (M.1 56) (M.1 63) (M.1 64)).2.2.2))) := by
  simp only [k_readSum_st_ok] at hk
  refine GM.of oX12_readSum.1 (Nat.le_of_ble_eq_true rfl) ?_
  show G z mX12_readSum (d + 8) 0 0 0 [some (.ref 54), none] [] M _
  obtain ⟨Q, hQ⟩ : ∃ Q : Rs → Prop, Q = (fun rs => rs = .inl (none, mrow (mrow (mrow M 54 ((k_readSum_st fz (M.1 54) (M.1 56) (M.1 63) (M.1 64)).2.1)) 63 ((k_readSum_st fz (M.1 54) (M.1 56) (M.1 63) (M.1 64)).2.2.1)) 64 ((k_readSum_st fz (M.1 54) (M.1 56) (M.1 63) (M.1 64)).2.2.2))) := ⟨_, rfl⟩
  rw [← hQ]
  refine G.sl [(.aload_n 0, 1, 0, 0, 0, 0)] [] (pc2 := 1) (ls2 := [some (.ref 54), none]) (st2 := [.ref 54]) (M2 := M) (Ps := []) (by decide +kernel) rfl rfl trivial ?_
  obtain ⟨k1, hk⟩ := hk
  rcases g2 : k_readProduct fz (M.1 54) (M.1 56) (M.1 63) (M.1 64) with ⟨u3, r4, r5, r6⟩
  try simp only [g2] at hk
  have t7 : GM z mX12_readProduct (d + 7) [.ref 54] M (fun rs => rs = .inl (none, mrow (mrow (mrow M 54 r4) 63 r5) 64 r6)) := by
    have q9 := c_k_readProduct_54 z d M fz gz Hz k1
    try simp only [mput, mrow_same, mrow_hit, mrow_miss, mrow_sw, idr_eq, ne_eq, Nat.reduceEqDiff, not_false_eq_true, Nat.reduceLT, reduceCtorEq, g2] at q9
    exact q9
  refine G.callV (as := []) (rest := []) (a := 54) oX12_readProduct lk_EvenFindersModel_249 (by decide +kernel) rfl rfl ⟨rfl, rfl⟩ (Nat.le_of_ble_eq_true rfl) rfl ⟨Nat.le_of_ble_eq_true rfl, Nat.le_of_ble_eq_true rfl⟩ t7 (fun v9 N9 h8 => ?_) (fun E9 N9 h8 => by cases h8)
  cases h8
  show G z mX12_readSum (d + 8) 0 0 4 [some (.ref 54), none] [] (mrow (mrow (mrow M 54 r4) 63 r5) 64 r6) Q
  obtain ⟨k105, hk⟩ := hk
  refine G.mem (M' := mrow (mrow (mrow (mrow (mrow (mrow M 54 r4) 63 r5) 64 r6) 54 ((mrow (mrow (mrow M 54 r4) 63 r5) 64 r6).1 54)) 63 ((mrow (mrow (mrow M 54 r4) 63 r5) 64 r6).1 63)) 64 ((mrow (mrow (mrow M 54 r4) 63 r5) 64 r6).1 64)) (by simp only [mrow_self]) ?_
  refine lp_k_readSum_54_st_4 z d (mrow (mrow (mrow M 54 r4) 63 r5) 64 r6) Q fz gz Hz FU ((mrow (mrow (mrow M 54 r4) 63 r5) 64 r6).1 54) ((mrow (mrow (mrow M 54 r4) 63 r5) 64 r6).1 63) ((mrow (mrow (mrow M 54 r4) 63 r5) 64 r6).1 64) (by first | (simp only [mput, mrow_same, mrow_hit, mrow_miss, mrow_sw, idr_eq, ne_eq, Nat.reduceEqDiff, not_false_eq_true, Nat.reduceLT, reduceCtorEq]; exact k105) | exact k105) ?_
  try simp only [mput, mrow_same, mrow_hit, mrow_miss, mrow_sw, idr_eq, ne_eq, Nat.reduceEqDiff, not_false_eq_true, Nat.reduceLT, reduceCtorEq]
  rcases g106 : k_readSum_st_4 fz (M.1 56) FU r4 r5 r6 with ⟨r107, r108, r109⟩
  show G z mX12_readSum (d + 8) 0 0 67 [none, none] [] (mrow (mrow (mrow M 54 r107) 63 r108) 64 r109) Q
  exact G.retv (by decide +kernel) rfl (Nat.le_of_ble_eq_true rfl) (Nat.le_of_ble_eq_true rfl) ((by rw [hQ]; simp only [k_readSum_st, g2, g106, mrow_self]))
theorem c_k_readSum_54_rec (z : Zp)  : ∀ (k0 d : Nat) (M : Mem) , k_readSum_rec_ok k0 (M.1 54) (M.1 56) (M.1 63) (M.1 64) → GM z mX12_readSum (d + 8 * k0) [.ref 54] M (fun rs => rs = .inl (none, mrow (mrow (mrow M 54 ((k_readSum_rec k0 (M.1 54) (M.1 56) (M.1 63) (M.1 64)).2.1)) 63 ((k_readSum_rec k0 (M.1 54) (M.1 56) (M.1 63) (M.1 64)).2.2.1)) 64 ((k_readSum_rec k0 (M.1 54) (M.1 56) (M.1 63) (M.1 64)).2.2.2))) := by
  intro k0
  induction k0 with
  | zero =>
    intro d M   hk
    exact (by simpa only [k_readSum_rec_ok] using hk : False).elim
  | succ k0 ih =>
    intro d M   hk
    have e9 : d + 8 * (k0 + 1) = (d + 8 * k0) + 8 := by omega
    rw [e9]
    simp only [k_readSum_rec_ok] at hk
    have q9 := c_k_readSum_54_st z (d + 8 * k0) M   (k_readSum_rec k0) (k_readSum_rec_ok k0) (fun j M   hk => by
      have q9 := ih (d + j) M   hk
      rw [show d + j + 8 * k0 = d + 8 * k0 + j by omega] at q9
      exact q9)  hk
    simp only [k_readSum_rec]
    exact q9
theorem c_k_readSum_54 (z : Zp) (d : Nat) (M : Mem)   (hk : k_readSum_ok (M.1 54) (M.1 56) (M.1 63) (M.1 64)) : GM z mX12_readSum (d + 80) [.ref 54] M (fun rs => rs = .inl (none, mrow (mrow (mrow M 54 ((k_readSum (M.1 54) (M.1 56) (M.1 63) (M.1 64)).2.1)) 63 ((k_readSum (M.1 54) (M.1 56) (M.1 63) (M.1 64)).2.2.1)) 64 ((k_readSum (M.1 54) (M.1 56) (M.1 63) (M.1 64)).2.2.2))) := by
  have q9 := c_k_readSum_54_rec z  (cN 10) d M   hk
  rw [show d + 8 * cN 10 = d + 80 from by rw [cN_eq]] at q9
  exact q9
set_option maxHeartbeats 4000000 in
set_option maxRecDepth 3000 in
theorem lp_k_copies_L150_L150_54_63_65_3 (z : Zp) (d : Nat) (M : Mem) (Q : Rs → Prop) (n3 : Nat) (b3 : n3 < 3000) (hk : ∀ i4, i4 < n3 → k_copies_L150_L150_3_ok (M.1 63) (M.1 65) n3 i4) (hX : G z mX12_copies (d) 0 0 23 [none, none, none, none, none] [] (mrow M 65 (k_copies_L150_L150_3 (M.1 63) (M.1 65) n3 n3)) Q) : G z mX12_copies (d) 0 0 3 [none, some (.ref 63), some (.ref 65), some (.int (nI n3)), some (.int (nI 0))] [] M Q := by
  refine G.mem (M' := mrow M 65 (M.1 65)) (by simp only [mrow_self]) ?_
  refine down (n := n3) (P := fun i4 => G z mX12_copies (d) 0 0 3 [none, some (.ref 63), some (.ref 65), some (.int (nI n3)), some (.int (nI i4))] [] (mrow M 65 (k_copies_L150_L150_3 (M.1 63) (M.1 65) n3 i4)) Q) ?_ ?_ 0 (Nat.zero_le _)
  · skip
    refine G.sl [(.iload 4, 2, 4, 0, 0, 0), (.iload_n 3, 1, 3, 0, 0, 0)] [] (pc2 := 6) (ls2 := [none, some (.ref 63), some (.ref 65), some (.int (nI n3)), some (.int (nI n3))]) (st2 := [.int (nI n3), .int (nI n3)]) (M2 := mrow M 65 (k_copies_L150_L150_3 (M.1 63) (M.1 65) n3 n3)) (Ps := []) (by decide +kernel) rfl rfl trivial ?_
    refine G.ic_ge (off := (17)) (tgt := 23) (by decide +kernel) rfl (fun _ => ?_) (fun h9 => absurd (nI_le (by omega) (by omega)) h9)
    refine G.loc (ls2 := [none, none, none, none, none]) (by simp [subL]) ?_
    exact hX
  · skip
    intro i4 hi ih
    have hk := hk i4 hi
    simp only [k_copies_L150_L150_3_ok] at hk
    show G z mX12_copies (d) 0 0 3 [none, some (.ref 63), some (.ref 65), some (.int (nI n3)), some (.int (nI i4))] [] (mrow M 65 (k_copies_L150_L150_3 (M.1 63) (M.1 65) n3 i4)) Q
    refine G.sl [(.iload 4, 2, 4, 0, 0, 0), (.iload_n 3, 1, 3, 0, 0, 0)] [] (pc2 := 6) (ls2 := [none, some (.ref 63), some (.ref 65), some (.int (nI n3)), some (.int (nI i4))]) (st2 := [.int (nI n3), .int (nI i4)]) (M2 := mrow M 65 (k_copies_L150_L150_3 (M.1 63) (M.1 65) n3 i4)) (Ps := []) (by decide +kernel) rfl rfl trivial ?_
    refine G.ic_ge (off := (17)) (tgt := 23) (by decide +kernel) rfl (fun h9 => absurd h9 (nI_ge (by omega) (by omega))) (fun _ => ?_)
    obtain ⟨k1, hk⟩ := hk
    refine G.sl [(.aload_n 2, 1, 2, 0, 0, 0), (.iload 4, 2, 4, 0, 0, 0), (.aload_n 1, 1, 1, 0, 0, 0), (.iload 4, 2, 4, 0, 0, 0), (.iaload, 1, 0, 0, 0, 0), (.iastore, 1, 0, 0, 0, 0), (.iinc 4 1, 3, 4, 0, 0, nI 1), (.goto (-17), 3, 3, 0, 0, 0)] [i4, i4] (pc2 := 3) (ls2 := [none, some (.ref 63), some (.ref 65), some (.int (nI n3)), some (.int ((nI i4) + nI 1))]) (st2 := []) (M2 := mput (mrow M 65 (k_copies_L150_L150_3 (M.1 63) (M.1 65) n3 i4)) 65 i4 (M.1 63 i4)) (Ps := [(nI i4) = nI i4 ∧ i4 < 150, (nI i4) = nI i4 ∧ i4 < 150]) (by decide +kernel) rfl rfl ⟨⟨rfl, k1⟩, ⟨rfl, k1⟩, trivial⟩ ?_
    refine G.mem (M' := mrow M 65 (upd (k_copies_L150_L150_3 (M.1 63) (M.1 65) n3 i4) i4 (M.1 63 i4))) (by first | rfl | (simp only [mput, mrow_same, mrow_hit, mrow_miss, mrow_sw, idr_eq, ne_eq, Nat.reduceEqDiff, not_false_eq_true, Nat.reduceLT, reduceCtorEq]; done)) ?_
    rw [nI_add i4 1]
    simp only [k_copies_L150_L150_3] at ih
    exact ih
set_option maxHeartbeats 4000000 in
set_option maxRecDepth 3000 in
theorem c_k_copies_L150_L150_54_63_65 (z : Zp) (d : Nat) (M : Mem) (n3 : Nat) (b3 : n3 < 3000) (hk : k_copies_L150_L150_ok (M.1 63) (M.1 65) n3) : GM z mX12_copies (d) [.ref 54, .ref 63, .ref 65, .int (nI n3)] M (fun rs => rs = .inl (none, mrow M 65 ((k_copies_L150_L150 (M.1 63) (M.1 65) n3).2))) := by
  simp only [k_copies_L150_L150_ok] at hk
  refine GM.of oX12_copies.1 (Nat.le_of_ble_eq_true rfl) ?_
  show G z mX12_copies (d) 0 0 0 [some (.ref 54), some (.ref 63), some (.ref 65), some (.int (nI n3)), none] [] M _
  obtain ⟨Q, hQ⟩ : ∃ Q : Rs → Prop, Q = (fun rs => rs = .inl (none, mrow M 65 ((k_copies_L150_L150 (M.1 63) (M.1 65) n3).2))) := ⟨_, rfl⟩
  rw [← hQ]
  refine G.sl [(.iconst 0, 1, 0, 0, 0, nI 0), (.istore 4, 2, 4, 0, 0, 0)] [] (pc2 := 3) (ls2 := [some (.ref 54), some (.ref 63), some (.ref 65), some (.int (nI n3)), some (.int (nI 0))]) (st2 := []) (M2 := M) (Ps := []) (by decide +kernel) rfl rfl trivial ?_
  refine G.loc (ls2 := [none, some (.ref 63), some (.ref 65), some (.int (nI n3)), some (.int (nI 0))]) (by simp [subL]) ?_
  obtain ⟨k2, hk⟩ := hk
  refine lp_k_copies_L150_L150_54_63_65_3 z d M Q n3 (by omega) (by first | (simp only [mput, mrow_same, mrow_hit, mrow_miss, mrow_sw, idr_eq, ne_eq, Nat.reduceEqDiff, not_false_eq_true, Nat.reduceLT, reduceCtorEq]; exact k2) | exact k2) ?_
  try simp only [mput, mrow_same, mrow_hit, mrow_miss, mrow_sw, idr_eq, ne_eq, Nat.reduceEqDiff, not_false_eq_true, Nat.reduceLT, reduceCtorEq]
  show G z mX12_copies (d) 0 0 23 [none, none, none, none, none] [] (mrow M 65 (k_copies_L150_L150_3 (M.1 63) (M.1 65) n3 n3)) Q
  exact G.retv (by decide +kernel) rfl (Nat.le_of_ble_eq_true rfl) (Nat.le_of_ble_eq_true rfl) ((by rw [hQ]; simp only [k_copies_L150_L150, mrow_self]))
set_option maxHeartbeats 4000000 in
set_option maxRecDepth 3000 in
theorem lp_k_copies_L150_L150_54_64_66_3 (z : Zp) (d : Nat) (M : Mem) (Q : Rs → Prop) (n3 : Nat) (b3 : n3 < 3000) (hk : ∀ i4, i4 < n3 → k_copies_L150_L150_3_ok (M.1 64) (M.1 66) n3 i4) (hX : G z mX12_copies (d) 0 0 23 [none, none, none, none, none] [] (mrow M 66 (k_copies_L150_L150_3 (M.1 64) (M.1 66) n3 n3)) Q) : G z mX12_copies (d) 0 0 3 [none, some (.ref 64), some (.ref 66), some (.int (nI n3)), some (.int (nI 0))] [] M Q := by
  refine G.mem (M' := mrow M 66 (M.1 66)) (by simp only [mrow_self]) ?_
  refine down (n := n3) (P := fun i4 => G z mX12_copies (d) 0 0 3 [none, some (.ref 64), some (.ref 66), some (.int (nI n3)), some (.int (nI i4))] [] (mrow M 66 (k_copies_L150_L150_3 (M.1 64) (M.1 66) n3 i4)) Q) ?_ ?_ 0 (Nat.zero_le _)
  · skip
    refine G.sl [(.iload 4, 2, 4, 0, 0, 0), (.iload_n 3, 1, 3, 0, 0, 0)] [] (pc2 := 6) (ls2 := [none, some (.ref 64), some (.ref 66), some (.int (nI n3)), some (.int (nI n3))]) (st2 := [.int (nI n3), .int (nI n3)]) (M2 := mrow M 66 (k_copies_L150_L150_3 (M.1 64) (M.1 66) n3 n3)) (Ps := []) (by decide +kernel) rfl rfl trivial ?_
    refine G.ic_ge (off := (17)) (tgt := 23) (by decide +kernel) rfl (fun _ => ?_) (fun h9 => absurd (nI_le (by omega) (by omega)) h9)
    refine G.loc (ls2 := [none, none, none, none, none]) (by simp [subL]) ?_
    exact hX
  · skip
    intro i4 hi ih
    have hk := hk i4 hi
    simp only [k_copies_L150_L150_3_ok] at hk
    show G z mX12_copies (d) 0 0 3 [none, some (.ref 64), some (.ref 66), some (.int (nI n3)), some (.int (nI i4))] [] (mrow M 66 (k_copies_L150_L150_3 (M.1 64) (M.1 66) n3 i4)) Q
    refine G.sl [(.iload 4, 2, 4, 0, 0, 0), (.iload_n 3, 1, 3, 0, 0, 0)] [] (pc2 := 6) (ls2 := [none, some (.ref 64), some (.ref 66), some (.int (nI n3)), some (.int (nI i4))]) (st2 := [.int (nI n3), .int (nI i4)]) (M2 := mrow M 66 (k_copies_L150_L150_3 (M.1 64) (M.1 66) n3 i4)) (Ps := []) (by decide +kernel) rfl rfl trivial ?_
    refine G.ic_ge (off := (17)) (tgt := 23) (by decide +kernel) rfl (fun h9 => absurd h9 (nI_ge (by omega) (by omega))) (fun _ => ?_)
    obtain ⟨k1, hk⟩ := hk
    refine G.sl [(.aload_n 2, 1, 2, 0, 0, 0), (.iload 4, 2, 4, 0, 0, 0), (.aload_n 1, 1, 1, 0, 0, 0), (.iload 4, 2, 4, 0, 0, 0), (.iaload, 1, 0, 0, 0, 0), (.iastore, 1, 0, 0, 0, 0), (.iinc 4 1, 3, 4, 0, 0, nI 1), (.goto (-17), 3, 3, 0, 0, 0)] [i4, i4] (pc2 := 3) (ls2 := [none, some (.ref 64), some (.ref 66), some (.int (nI n3)), some (.int ((nI i4) + nI 1))]) (st2 := []) (M2 := mput (mrow M 66 (k_copies_L150_L150_3 (M.1 64) (M.1 66) n3 i4)) 66 i4 (M.1 64 i4)) (Ps := [(nI i4) = nI i4 ∧ i4 < 150, (nI i4) = nI i4 ∧ i4 < 150]) (by decide +kernel) rfl rfl ⟨⟨rfl, k1⟩, ⟨rfl, k1⟩, trivial⟩ ?_
    refine G.mem (M' := mrow M 66 (upd (k_copies_L150_L150_3 (M.1 64) (M.1 66) n3 i4) i4 (M.1 64 i4))) (by first | rfl | (simp only [mput, mrow_same, mrow_hit, mrow_miss, mrow_sw, idr_eq, ne_eq, Nat.reduceEqDiff, not_false_eq_true, Nat.reduceLT, reduceCtorEq]; done)) ?_
    rw [nI_add i4 1]
    simp only [k_copies_L150_L150_3] at ih
    exact ih
set_option maxHeartbeats 4000000 in
set_option maxRecDepth 3000 in
theorem c_k_copies_L150_L150_54_64_66 (z : Zp) (d : Nat) (M : Mem) (n3 : Nat) (b3 : n3 < 3000) (hk : k_copies_L150_L150_ok (M.1 64) (M.1 66) n3) : GM z mX12_copies (d) [.ref 54, .ref 64, .ref 66, .int (nI n3)] M (fun rs => rs = .inl (none, mrow M 66 ((k_copies_L150_L150 (M.1 64) (M.1 66) n3).2))) := by
  simp only [k_copies_L150_L150_ok] at hk
  refine GM.of oX12_copies.1 (Nat.le_of_ble_eq_true rfl) ?_
  show G z mX12_copies (d) 0 0 0 [some (.ref 54), some (.ref 64), some (.ref 66), some (.int (nI n3)), none] [] M _
  obtain ⟨Q, hQ⟩ : ∃ Q : Rs → Prop, Q = (fun rs => rs = .inl (none, mrow M 66 ((k_copies_L150_L150 (M.1 64) (M.1 66) n3).2))) := ⟨_, rfl⟩
  rw [← hQ]
  refine G.sl [(.iconst 0, 1, 0, 0, 0, nI 0), (.istore 4, 2, 4, 0, 0, 0)] [] (pc2 := 3) (ls2 := [some (.ref 54), some (.ref 64), some (.ref 66), some (.int (nI n3)), some (.int (nI 0))]) (st2 := []) (M2 := M) (Ps := []) (by decide +kernel) rfl rfl trivial ?_
  refine G.loc (ls2 := [none, some (.ref 64), some (.ref 66), some (.int (nI n3)), some (.int (nI 0))]) (by simp [subL]) ?_
  obtain ⟨k2, hk⟩ := hk
  refine lp_k_copies_L150_L150_54_64_66_3 z d M Q n3 (by omega) (by first | (simp only [mput, mrow_same, mrow_hit, mrow_miss, mrow_sw, idr_eq, ne_eq, Nat.reduceEqDiff, not_false_eq_true, Nat.reduceLT, reduceCtorEq]; exact k2) | exact k2) ?_
  try simp only [mput, mrow_same, mrow_hit, mrow_miss, mrow_sw, idr_eq, ne_eq, Nat.reduceEqDiff, not_false_eq_true, Nat.reduceLT, reduceCtorEq]
  show G z mX12_copies (d) 0 0 23 [none, none, none, none, none] [] (mrow M 66 (k_copies_L150_L150_3 (M.1 64) (M.1 66) n3 n3)) Q
  exact G.retv (by decide +kernel) rfl (Nat.le_of_ble_eq_true rfl) (Nat.le_of_ble_eq_true rfl) ((by rw [hQ]; simp only [k_copies_L150_L150, mrow_self]))
set_option maxHeartbeats 4000000 in
set_option maxRecDepth 3000 in
theorem c_k_law_54 (z : Zp) (d : Nat) (M : Mem) (x1 : Int32) (hk : k_law_ok (M.1 54) (M.1 55) (M.1 56) (M.1 63) (M.1 64) (M.1 65) (M.1 66) x1) : GM z mX12_law (d + 81) [.ref 54, .int x1] M (fun rs => rs = .inl (some (.int ((k_law (M.1 54) (M.1 55) (M.1 56) (M.1 63) (M.1 64) (M.1 65) (M.1 66) x1).1)), mrow (mrow (mrow (mrow (mrow (mrow M 54 ((k_law (M.1 54) (M.1 55) (M.1 56) (M.1 63) (M.1 64) (M.1 65) (M.1 66) x1).2.1)) 55 ((k_law (M.1 54) (M.1 55) (M.1 56) (M.1 63) (M.1 64) (M.1 65) (M.1 66) x1).2.2.1)) 63 ((k_law (M.1 54) (M.1 55) (M.1 56) (M.1 63) (M.1 64) (M.1 65) (M.1 66) x1).2.2.2.1)) 64 ((k_law (M.1 54) (M.1 55) (M.1 56) (M.1 63) (M.1 64) (M.1 65) (M.1 66) x1).2.2.2.2.1)) 65 ((k_law (M.1 54) (M.1 55) (M.1 56) (M.1 63) (M.1 64) (M.1 65) (M.1 66) x1).2.2.2.2.2.1)) 66 ((k_law (M.1 54) (M.1 55) (M.1 56) (M.1 63) (M.1 64) (M.1 65) (M.1 66) x1).2.2.2.2.2.2))) := by
  simp only [k_law_ok] at hk
  refine GM.of oX12_law.1 (Nat.le_of_ble_eq_true rfl) ?_
  show G z mX12_law (d + 81) 0 0 0 [some (.ref 54), some (.int x1), none] [] M _
  obtain ⟨Q, hQ⟩ : ∃ Q : Rs → Prop, Q = (fun rs => rs = .inl (some (.int ((k_law (M.1 54) (M.1 55) (M.1 56) (M.1 63) (M.1 64) (M.1 65) (M.1 66) x1).1)), mrow (mrow (mrow (mrow (mrow (mrow M 54 ((k_law (M.1 54) (M.1 55) (M.1 56) (M.1 63) (M.1 64) (M.1 65) (M.1 66) x1).2.1)) 55 ((k_law (M.1 54) (M.1 55) (M.1 56) (M.1 63) (M.1 64) (M.1 65) (M.1 66) x1).2.2.1)) 63 ((k_law (M.1 54) (M.1 55) (M.1 56) (M.1 63) (M.1 64) (M.1 65) (M.1 66) x1).2.2.2.1)) 64 ((k_law (M.1 54) (M.1 55) (M.1 56) (M.1 63) (M.1 64) (M.1 65) (M.1 66) x1).2.2.2.2.1)) 65 ((k_law (M.1 54) (M.1 55) (M.1 56) (M.1 63) (M.1 64) (M.1 65) (M.1 66) x1).2.2.2.2.2.1)) 66 ((k_law (M.1 54) (M.1 55) (M.1 56) (M.1 63) (M.1 64) (M.1 65) (M.1 66) x1).2.2.2.2.2.2))) := ⟨_, rfl⟩
  rw [← hQ]
  refine G.sl [(.aload_n 0, 1, 0, 0, 0, 0), (.iconst 0, 1, 0, 0, 0, nI 0), (.putfield 3, 3, 11, 0, 123, 0), (.aload_n 0, 1, 0, 0, 0, 0), (.iload_n 1, 1, 1, 0, 0, 0)] [] (pc2 := 7) (ls2 := [some (.ref 54), some (.int x1), none]) (st2 := [.int x1, .ref 54]) (M2 := mput M 54 0 (nI 0)) (Ps := []) (by decide +kernel) rfl rfl trivial ?_
  refine G.mem (M' := mrow M 54 (upd (M.1 54) 0 (nI 0))) (by first | rfl | (simp only [mput, mrow_same, mrow_hit, mrow_miss, mrow_sw, idr_eq, ne_eq, Nat.reduceEqDiff, not_false_eq_true, Nat.reduceLT, reduceCtorEq]; done)) ?_
  refine G.if_lt (off := (22)) (tgt := 29) (by decide +kernel) rfl (fun c1 => ?_) (fun c1 => ?_)
  · skip
    rw [if_pos c1] at hk
    refine G.sl [(.iconst 0, 1, 0, 0, 0, nI 0), (.iconst 1, 1, 0, 0, 0, nI 1), (.iconst 1, 1, 0, 0, 0, nI 1)] [] (pc2 := 32) (ls2 := [some (.ref 54), some (.int x1), none]) (st2 := [.int (nI 1), .int (nI 1), .int (nI 0), .ref 54]) (M2 := mrow M 54 (upd (M.1 54) 0 (nI 0))) (Ps := []) (by decide +kernel) rfl rfl trivial ?_
    have t2 : GM z mX12_may (d + 80) [.ref 54, .int (nI 0), .int (nI 1), .int (nI 1)] (mrow M 54 (upd (M.1 54) 0 (nI 0))) (fun rs => rs = .inl (some (.int (nI 0)), mrow (mrow M 54 (upd (upd (M.1 54) 0 (nI 0)) 0 (nI 1))) 55 (upd (M.1 55) 1 ((M.1 55 1) + nI 1)))) := by
      have q9 := m_may_1_f z (d + 80) (mrow M 54 (upd (M.1 54) 0 (nI 0))) (nI 1) (by first | rfl | (simp only [mput, mrow_same, mrow_hit, mrow_miss, mrow_sw, idr_eq, ne_eq, Nat.reduceEqDiff, not_false_eq_true, Nat.reduceLT, reduceCtorEq, pk_us]; done)) (by decide)
      try simp only [mput, mrow_same, mrow_hit, mrow_miss, mrow_sw, idr_eq, ne_eq, Nat.reduceEqDiff, not_false_eq_true, Nat.reduceLT, reduceCtorEq] at q9
      exact q9
    refine G.callV (as := [.int (nI 0), .int (nI 1), .int (nI 1)]) (rest := []) (a := 54) oX12_may lk_EvenFindersModel_213 (by decide +kernel) rfl rfl ⟨rfl, rfl⟩ (Nat.le_of_ble_eq_true rfl) rfl ⟨Nat.le_of_ble_eq_true rfl, Nat.le_of_ble_eq_true rfl⟩ t2 (fun v9 N9 h3 => ?_) (fun E9 N9 h3 => by cases h3)
    cases h3
    show G z mX12_law (d + 81) 0 0 35 [some (.ref 54), some (.int x1), none] [.int (nI 0)] (mrow (mrow M 54 (upd (upd (M.1 54) 0 (nI 0)) 0 (nI 1))) 55 (upd (M.1 55) 1 ((M.1 55 1) + nI 1))) Q
    refine G.if_ne (off := (5)) (tgt := 40) (by decide +kernel) rfl (fun h9 => absurd (by decide) h9) (fun _ => ?_)
    refine G.sl [(.iconst 0, 1, 0, 0, 0, nI 0)] [] (pc2 := 39) (ls2 := [some (.ref 54), some (.int x1), none]) (st2 := [.int (nI 0)]) (M2 := mrow (mrow M 54 (upd (upd (M.1 54) 0 (nI 0)) 0 (nI 1))) 55 (upd (M.1 55) 1 ((M.1 55 1) + nI 1))) (Ps := []) (by decide +kernel) rfl rfl trivial ?_
    refine G.mem (M' := mrow (mrow (mrow (mrow (mrow (mrow M 54 (upd (upd (M.1 54) 0 (nI 0)) 0 (nI 1))) 55 (upd (M.1 55) 1 ((M.1 55 1) + nI 1))) 63 (M.1 63)) 64 (M.1 64)) 65 (M.1 65)) 66 (M.1 66)) ((((((mrow_id (N := mrow (mrow M 54 (upd (upd (M.1 54) 0 (nI 0)) 0 (nI 1))) 55 (upd (M.1 55) 1 ((M.1 55 1) + nI 1))) (c := 63) (f := M.1 63) (by first | rfl | (simp only [mput, mrow_same, mrow_hit, mrow_miss, mrow_sw, idr_eq, ne_eq, Nat.reduceEqDiff, not_false_eq_true, Nat.reduceLT, reduceCtorEq]; done))).symm).trans (mrow_id (N := mrow (mrow (mrow M 54 (upd (upd (M.1 54) 0 (nI 0)) 0 (nI 1))) 55 (upd (M.1 55) 1 ((M.1 55 1) + nI 1))) 63 (M.1 63)) (c := 64) (f := M.1 64) (by first | rfl | (simp only [mput, mrow_same, mrow_hit, mrow_miss, mrow_sw, idr_eq, ne_eq, Nat.reduceEqDiff, not_false_eq_true, Nat.reduceLT, reduceCtorEq]; done))).symm).trans (mrow_id (N := mrow (mrow (mrow (mrow M 54 (upd (upd (M.1 54) 0 (nI 0)) 0 (nI 1))) 55 (upd (M.1 55) 1 ((M.1 55 1) + nI 1))) 63 (M.1 63)) 64 (M.1 64)) (c := 65) (f := M.1 65) (by first | rfl | (simp only [mput, mrow_same, mrow_hit, mrow_miss, mrow_sw, idr_eq, ne_eq, Nat.reduceEqDiff, not_false_eq_true, Nat.reduceLT, reduceCtorEq]; done))).symm).trans (mrow_id (N := mrow (mrow (mrow (mrow (mrow M 54 (upd (upd (M.1 54) 0 (nI 0)) 0 (nI 1))) 55 (upd (M.1 55) 1 ((M.1 55 1) + nI 1))) 63 (M.1 63)) 64 (M.1 64)) 65 (M.1 65)) (c := 66) (f := M.1 66) (by first | rfl | (simp only [mput, mrow_same, mrow_hit, mrow_miss, mrow_sw, idr_eq, ne_eq, Nat.reduceEqDiff, not_false_eq_true, Nat.reduceLT, reduceCtorEq]; done))).symm).trans (by first | rfl | (simp only [mput, mrow_same, mrow_hit, mrow_miss, mrow_sw, idr_eq, ne_eq, Nat.reduceEqDiff, not_false_eq_true, Nat.reduceLT, reduceCtorEq]; done))) ?_
    exact G.reti (by decide +kernel) rfl rfl (Nat.le_of_ble_eq_true rfl) (Nat.le_of_ble_eq_true rfl) ((by rw [hQ]; simp only [k_law, if_pos c1, mrow_self]))
  · skip
    rw [if_neg c1] at hk
    refine G.sl [(.iload_n 1, 1, 1, 0, 0, 0), (.aload_n 0, 1, 0, 0, 0, 0), (.getfield 98, 3, 11, 2, 125, 0)] [] (pc2 := 15) (ls2 := [some (.ref 54), some (.int x1), none]) (st2 := [.int (M.1 54 2), .int x1, .ref 54]) (M2 := mrow M 54 (upd (M.1 54) 0 (nI 0))) (Ps := []) (by decide +kernel) rfl rfl trivial ?_
    refine G.ic_gt (off := (14)) (tgt := 29) (by decide +kernel) rfl (fun c4 => ?_) (fun c4 => ?_)
    · skip
      rw [if_pos c4] at hk
      refine G.sl [(.iconst 0, 1, 0, 0, 0, nI 0), (.iconst 1, 1, 0, 0, 0, nI 1), (.iconst 1, 1, 0, 0, 0, nI 1)] [] (pc2 := 32) (ls2 := [some (.ref 54), some (.int x1), none]) (st2 := [.int (nI 1), .int (nI 1), .int (nI 0), .ref 54]) (M2 := mrow M 54 (upd (M.1 54) 0 (nI 0))) (Ps := []) (by decide +kernel) rfl rfl trivial ?_
      have t5 : GM z mX12_may (d + 80) [.ref 54, .int (nI 0), .int (nI 1), .int (nI 1)] (mrow M 54 (upd (M.1 54) 0 (nI 0))) (fun rs => rs = .inl (some (.int (nI 0)), mrow (mrow M 54 (upd (upd (M.1 54) 0 (nI 0)) 0 (nI 1))) 55 (upd (M.1 55) 1 ((M.1 55 1) + nI 1)))) := by
        have q9 := m_may_1_f z (d + 80) (mrow M 54 (upd (M.1 54) 0 (nI 0))) (nI 1) (by first | rfl | (simp only [mput, mrow_same, mrow_hit, mrow_miss, mrow_sw, idr_eq, ne_eq, Nat.reduceEqDiff, not_false_eq_true, Nat.reduceLT, reduceCtorEq, pk_us]; done)) (by decide)
        try simp only [mput, mrow_same, mrow_hit, mrow_miss, mrow_sw, idr_eq, ne_eq, Nat.reduceEqDiff, not_false_eq_true, Nat.reduceLT, reduceCtorEq] at q9
        exact q9
      refine G.callV (as := [.int (nI 0), .int (nI 1), .int (nI 1)]) (rest := []) (a := 54) oX12_may lk_EvenFindersModel_213 (by decide +kernel) rfl rfl ⟨rfl, rfl⟩ (Nat.le_of_ble_eq_true rfl) rfl ⟨Nat.le_of_ble_eq_true rfl, Nat.le_of_ble_eq_true rfl⟩ t5 (fun v9 N9 h6 => ?_) (fun E9 N9 h6 => by cases h6)
      cases h6
      show G z mX12_law (d + 81) 0 0 35 [some (.ref 54), some (.int x1), none] [.int (nI 0)] (mrow (mrow M 54 (upd (upd (M.1 54) 0 (nI 0)) 0 (nI 1))) 55 (upd (M.1 55) 1 ((M.1 55 1) + nI 1))) Q
      refine G.if_ne (off := (5)) (tgt := 40) (by decide +kernel) rfl (fun h9 => absurd (by decide) h9) (fun _ => ?_)
      refine G.sl [(.iconst 0, 1, 0, 0, 0, nI 0)] [] (pc2 := 39) (ls2 := [some (.ref 54), some (.int x1), none]) (st2 := [.int (nI 0)]) (M2 := mrow (mrow M 54 (upd (upd (M.1 54) 0 (nI 0)) 0 (nI 1))) 55 (upd (M.1 55) 1 ((M.1 55 1) + nI 1))) (Ps := []) (by decide +kernel) rfl rfl trivial ?_
      refine G.mem (M' := mrow (mrow (mrow (mrow (mrow (mrow M 54 (upd (upd (M.1 54) 0 (nI 0)) 0 (nI 1))) 55 (upd (M.1 55) 1 ((M.1 55 1) + nI 1))) 63 (M.1 63)) 64 (M.1 64)) 65 (M.1 65)) 66 (M.1 66)) ((((((mrow_id (N := mrow (mrow M 54 (upd (upd (M.1 54) 0 (nI 0)) 0 (nI 1))) 55 (upd (M.1 55) 1 ((M.1 55 1) + nI 1))) (c := 63) (f := M.1 63) (by first | rfl | (simp only [mput, mrow_same, mrow_hit, mrow_miss, mrow_sw, idr_eq, ne_eq, Nat.reduceEqDiff, not_false_eq_true, Nat.reduceLT, reduceCtorEq]; done))).symm).trans (mrow_id (N := mrow (mrow (mrow M 54 (upd (upd (M.1 54) 0 (nI 0)) 0 (nI 1))) 55 (upd (M.1 55) 1 ((M.1 55 1) + nI 1))) 63 (M.1 63)) (c := 64) (f := M.1 64) (by first | rfl | (simp only [mput, mrow_same, mrow_hit, mrow_miss, mrow_sw, idr_eq, ne_eq, Nat.reduceEqDiff, not_false_eq_true, Nat.reduceLT, reduceCtorEq]; done))).symm).trans (mrow_id (N := mrow (mrow (mrow (mrow M 54 (upd (upd (M.1 54) 0 (nI 0)) 0 (nI 1))) 55 (upd (M.1 55) 1 ((M.1 55 1) + nI 1))) 63 (M.1 63)) 64 (M.1 64)) (c := 65) (f := M.1 65) (by first | rfl | (simp only [mput, mrow_same, mrow_hit, mrow_miss, mrow_sw, idr_eq, ne_eq, Nat.reduceEqDiff, not_false_eq_true, Nat.reduceLT, reduceCtorEq]; done))).symm).trans (mrow_id (N := mrow (mrow (mrow (mrow (mrow M 54 (upd (upd (M.1 54) 0 (nI 0)) 0 (nI 1))) 55 (upd (M.1 55) 1 ((M.1 55 1) + nI 1))) 63 (M.1 63)) 64 (M.1 64)) 65 (M.1 65)) (c := 66) (f := M.1 66) (by first | rfl | (simp only [mput, mrow_same, mrow_hit, mrow_miss, mrow_sw, idr_eq, ne_eq, Nat.reduceEqDiff, not_false_eq_true, Nat.reduceLT, reduceCtorEq]; done))).symm).trans (by first | rfl | (simp only [mput, mrow_same, mrow_hit, mrow_miss, mrow_sw, idr_eq, ne_eq, Nat.reduceEqDiff, not_false_eq_true, Nat.reduceLT, reduceCtorEq]; done))) ?_
      exact G.reti (by decide +kernel) rfl rfl (Nat.le_of_ble_eq_true rfl) (Nat.le_of_ble_eq_true rfl) ((by rw [hQ]; simp only [k_law, if_neg c1, if_pos c4, mrow_self]))
    · skip
      rw [if_neg c4] at hk
      refine G.sl [(.iload_n 1, 1, 1, 0, 0, 0), (.sipush 150, 3, 0, 0, 0, nI 150)] [] (pc2 := 22) (ls2 := [some (.ref 54), some (.int x1), none]) (st2 := [.int (nI 150), .int x1, .ref 54]) (M2 := mrow M 54 (upd (M.1 54) 0 (nI 0))) (Ps := []) (by decide +kernel) rfl rfl trivial ?_
      refine G.ic_gt (off := (7)) (tgt := 29) (by decide +kernel) rfl (fun c7 => ?_) (fun c7 => ?_)
      · skip
        rw [if_pos c7] at hk
        refine G.sl [(.iconst 0, 1, 0, 0, 0, nI 0), (.iconst 1, 1, 0, 0, 0, nI 1), (.iconst 1, 1, 0, 0, 0, nI 1)] [] (pc2 := 32) (ls2 := [some (.ref 54), some (.int x1), none]) (st2 := [.int (nI 1), .int (nI 1), .int (nI 0), .ref 54]) (M2 := mrow M 54 (upd (M.1 54) 0 (nI 0))) (Ps := []) (by decide +kernel) rfl rfl trivial ?_
        have t8 : GM z mX12_may (d + 80) [.ref 54, .int (nI 0), .int (nI 1), .int (nI 1)] (mrow M 54 (upd (M.1 54) 0 (nI 0))) (fun rs => rs = .inl (some (.int (nI 0)), mrow (mrow M 54 (upd (upd (M.1 54) 0 (nI 0)) 0 (nI 1))) 55 (upd (M.1 55) 1 ((M.1 55 1) + nI 1)))) := by
          have q9 := m_may_1_f z (d + 80) (mrow M 54 (upd (M.1 54) 0 (nI 0))) (nI 1) (by first | rfl | (simp only [mput, mrow_same, mrow_hit, mrow_miss, mrow_sw, idr_eq, ne_eq, Nat.reduceEqDiff, not_false_eq_true, Nat.reduceLT, reduceCtorEq, pk_us]; done)) (by decide)
          try simp only [mput, mrow_same, mrow_hit, mrow_miss, mrow_sw, idr_eq, ne_eq, Nat.reduceEqDiff, not_false_eq_true, Nat.reduceLT, reduceCtorEq] at q9
          exact q9
        refine G.callV (as := [.int (nI 0), .int (nI 1), .int (nI 1)]) (rest := []) (a := 54) oX12_may lk_EvenFindersModel_213 (by decide +kernel) rfl rfl ⟨rfl, rfl⟩ (Nat.le_of_ble_eq_true rfl) rfl ⟨Nat.le_of_ble_eq_true rfl, Nat.le_of_ble_eq_true rfl⟩ t8 (fun v9 N9 h9 => ?_) (fun E9 N9 h9 => by cases h9)
        cases h9
        show G z mX12_law (d + 81) 0 0 35 [some (.ref 54), some (.int x1), none] [.int (nI 0)] (mrow (mrow M 54 (upd (upd (M.1 54) 0 (nI 0)) 0 (nI 1))) 55 (upd (M.1 55) 1 ((M.1 55 1) + nI 1))) Q
        refine G.if_ne (off := (5)) (tgt := 40) (by decide +kernel) rfl (fun h9 => absurd (by decide) h9) (fun _ => ?_)
        refine G.sl [(.iconst 0, 1, 0, 0, 0, nI 0)] [] (pc2 := 39) (ls2 := [some (.ref 54), some (.int x1), none]) (st2 := [.int (nI 0)]) (M2 := mrow (mrow M 54 (upd (upd (M.1 54) 0 (nI 0)) 0 (nI 1))) 55 (upd (M.1 55) 1 ((M.1 55 1) + nI 1))) (Ps := []) (by decide +kernel) rfl rfl trivial ?_
        refine G.mem (M' := mrow (mrow (mrow (mrow (mrow (mrow M 54 (upd (upd (M.1 54) 0 (nI 0)) 0 (nI 1))) 55 (upd (M.1 55) 1 ((M.1 55 1) + nI 1))) 63 (M.1 63)) 64 (M.1 64)) 65 (M.1 65)) 66 (M.1 66)) ((((((mrow_id (N := mrow (mrow M 54 (upd (upd (M.1 54) 0 (nI 0)) 0 (nI 1))) 55 (upd (M.1 55) 1 ((M.1 55 1) + nI 1))) (c := 63) (f := M.1 63) (by first | rfl | (simp only [mput, mrow_same, mrow_hit, mrow_miss, mrow_sw, idr_eq, ne_eq, Nat.reduceEqDiff, not_false_eq_true, Nat.reduceLT, reduceCtorEq]; done))).symm).trans (mrow_id (N := mrow (mrow (mrow M 54 (upd (upd (M.1 54) 0 (nI 0)) 0 (nI 1))) 55 (upd (M.1 55) 1 ((M.1 55 1) + nI 1))) 63 (M.1 63)) (c := 64) (f := M.1 64) (by first | rfl | (simp only [mput, mrow_same, mrow_hit, mrow_miss, mrow_sw, idr_eq, ne_eq, Nat.reduceEqDiff, not_false_eq_true, Nat.reduceLT, reduceCtorEq]; done))).symm).trans (mrow_id (N := mrow (mrow (mrow (mrow M 54 (upd (upd (M.1 54) 0 (nI 0)) 0 (nI 1))) 55 (upd (M.1 55) 1 ((M.1 55 1) + nI 1))) 63 (M.1 63)) 64 (M.1 64)) (c := 65) (f := M.1 65) (by first | rfl | (simp only [mput, mrow_same, mrow_hit, mrow_miss, mrow_sw, idr_eq, ne_eq, Nat.reduceEqDiff, not_false_eq_true, Nat.reduceLT, reduceCtorEq]; done))).symm).trans (mrow_id (N := mrow (mrow (mrow (mrow (mrow M 54 (upd (upd (M.1 54) 0 (nI 0)) 0 (nI 1))) 55 (upd (M.1 55) 1 ((M.1 55 1) + nI 1))) 63 (M.1 63)) 64 (M.1 64)) 65 (M.1 65)) (c := 66) (f := M.1 66) (by first | rfl | (simp only [mput, mrow_same, mrow_hit, mrow_miss, mrow_sw, idr_eq, ne_eq, Nat.reduceEqDiff, not_false_eq_true, Nat.reduceLT, reduceCtorEq]; done))).symm).trans (by first | rfl | (simp only [mput, mrow_same, mrow_hit, mrow_miss, mrow_sw, idr_eq, ne_eq, Nat.reduceEqDiff, not_false_eq_true, Nat.reduceLT, reduceCtorEq]; done))) ?_
        exact G.reti (by decide +kernel) rfl rfl (Nat.le_of_ble_eq_true rfl) (Nat.le_of_ble_eq_true rfl) ((by rw [hQ]; simp only [k_law, if_neg c1, if_neg c4, if_pos c7, mrow_self]))
      · skip
        rw [if_neg c7] at hk
        refine G.sl [(.iconst 1, 1, 0, 0, 0, nI 1), (.goto 4, 3, 30, 0, 0, 0), (.iconst 1, 1, 0, 0, 0, nI 1), (.iconst 1, 1, 0, 0, 0, nI 1)] [] (pc2 := 32) (ls2 := [some (.ref 54), some (.int x1), none]) (st2 := [.int (nI 1), .int (nI 1), .int (nI 1), .ref 54]) (M2 := mrow M 54 (upd (M.1 54) 0 (nI 0))) (Ps := []) (by decide +kernel) rfl rfl trivial ?_
        have t10 : GM z mX12_may (d + 80) [.ref 54, .int (nI 1), .int (nI 1), .int (nI 1)] (mrow M 54 (upd (M.1 54) 0 (nI 0))) (fun rs => rs = .inl (some (.int (nI 1)), mrow M 54 (upd (M.1 54) 0 (nI 0)))) := by
          have q9 := m_may_1_t z (d + 80) (mrow M 54 (upd (M.1 54) 0 (nI 0))) (nI 1) (by first | rfl | (simp only [mput, mrow_same, mrow_hit, mrow_miss, mrow_sw, idr_eq, ne_eq, Nat.reduceEqDiff, not_false_eq_true, Nat.reduceLT, reduceCtorEq, pk_us]; done))
          try simp only [mput, mrow_same, mrow_hit, mrow_miss, mrow_sw, idr_eq, ne_eq, Nat.reduceEqDiff, not_false_eq_true, Nat.reduceLT, reduceCtorEq] at q9
          exact q9
        refine G.callV (as := [.int (nI 1), .int (nI 1), .int (nI 1)]) (rest := []) (a := 54) oX12_may lk_EvenFindersModel_213 (by decide +kernel) rfl rfl ⟨rfl, rfl⟩ (Nat.le_of_ble_eq_true rfl) rfl ⟨Nat.le_of_ble_eq_true rfl, Nat.le_of_ble_eq_true rfl⟩ t10 (fun v9 N9 h11 => ?_) (fun E9 N9 h11 => by cases h11)
        cases h11
        show G z mX12_law (d + 81) 0 0 35 [some (.ref 54), some (.int x1), none] [.int (nI 1)] (mrow M 54 (upd (M.1 54) 0 (nI 0))) Q
        refine G.if_ne (off := (5)) (tgt := 40) (by decide +kernel) rfl (fun _ => ?_) (fun h9 => absurd h9 (by decide))
        refine G.sl [(.aload_n 0, 1, 0, 0, 0, 0), (.iload_n 1, 1, 1, 0, 0, 0)] [] (pc2 := 42) (ls2 := [some (.ref 54), some (.int x1), none]) (st2 := [.int x1, .ref 54]) (M2 := mrow M 54 (upd (M.1 54) 0 (nI 0))) (Ps := []) (by decide +kernel) rfl rfl trivial ?_
        obtain ⟨k12, hk⟩ := hk
        rcases g13 : k_begins (upd (M.1 54) 0 (nI 0)) x1 with ⟨u14, r15⟩
        try simp only [g13] at hk
        have t16 : GM z mX12_begins (d + 80) [.ref 54, .int x1] (mrow M 54 (upd (M.1 54) 0 (nI 0))) (fun rs => rs = .inl (none, mrow M 54 r15)) := by
          have q9 := c_k_begins_54 z (d + 80) (mrow M 54 (upd (M.1 54) 0 (nI 0))) x1
          try simp only [mput, mrow_same, mrow_hit, mrow_miss, mrow_sw, idr_eq, ne_eq, Nat.reduceEqDiff, not_false_eq_true, Nat.reduceLT, reduceCtorEq, g13] at q9
          exact q9
        refine G.callV (as := [.int x1]) (rest := []) (a := 54) oX12_begins lk_EvenFindersModel_217 (by decide +kernel) rfl rfl ⟨rfl, rfl⟩ (Nat.le_of_ble_eq_true rfl) rfl ⟨Nat.le_of_ble_eq_true rfl, Nat.le_of_ble_eq_true rfl⟩ t16 (fun v9 N9 h17 => ?_) (fun E9 N9 h17 => by cases h17)
        cases h17
        show G z mX12_law (d + 81) 0 0 45 [some (.ref 54), some (.int x1), none] [] (mrow M 54 r15) Q
        refine G.sl [(.aload_n 0, 1, 0, 0, 0, 0), (.iconst 0, 1, 0, 0, 0, nI 0), (.putfield 246, 3, 11, 29, 152, 0), (.aload_n 0, 1, 0, 0, 0, 0)] [] (pc2 := 51) (ls2 := [some (.ref 54), some (.int x1), none]) (st2 := [.ref 54]) (M2 := mput (mrow M 54 r15) 54 29 (nI 0)) (Ps := []) (by decide +kernel) rfl rfl trivial ?_
        refine G.mem (M' := mrow M 54 (upd r15 29 (nI 0))) (by first | rfl | (simp only [mput, mrow_same, mrow_hit, mrow_miss, mrow_sw, idr_eq, ne_eq, Nat.reduceEqDiff, not_false_eq_true, Nat.reduceLT, reduceCtorEq]; done)) ?_
        obtain ⟨k18, hk⟩ := hk
        rcases g19 : k_readSum (upd r15 29 (nI 0)) (M.1 56) (M.1 63) (M.1 64) with ⟨u20, r21, r22, r23⟩
        try simp only [g19] at hk
        have t24 : GM z mX12_readSum (d + 80) [.ref 54] (mrow M 54 (upd r15 29 (nI 0))) (fun rs => rs = .inl (none, mrow (mrow (mrow M 54 r21) 63 r22) 64 r23)) := by
          have q9 := c_k_readSum_54 z d (mrow M 54 (upd r15 29 (nI 0))) k18
          try simp only [mput, mrow_same, mrow_hit, mrow_miss, mrow_sw, idr_eq, ne_eq, Nat.reduceEqDiff, not_false_eq_true, Nat.reduceLT, reduceCtorEq, g19] at q9
          exact q9
        refine G.callV (as := []) (rest := []) (a := 54) oX12_readSum lk_EvenFindersModel_261 (by decide +kernel) rfl rfl ⟨rfl, rfl⟩ (Nat.le_of_ble_eq_true rfl) rfl ⟨Nat.le_of_ble_eq_true rfl, Nat.le_of_ble_eq_true rfl⟩ t24 (fun v9 N9 h25 => ?_) (fun E9 N9 h25 => by cases h25)
        cases h25
        show G z mX12_law (d + 81) 0 0 54 [some (.ref 54), some (.int x1), none] [] (mrow (mrow (mrow M 54 r21) 63 r22) 64 r23) Q
        refine G.sl [(.aload_n 0, 1, 0, 0, 0, 0)] [] (pc2 := 55) (ls2 := [some (.ref 54), some (.int x1), none]) (st2 := [.ref 54]) (M2 := mrow (mrow (mrow M 54 r21) 63 r22) 64 r23) (Ps := []) (by decide +kernel) rfl rfl trivial ?_
        obtain ⟨k26, hk⟩ := hk
        have t27 : GM z mX12_fine (d + 80) [.ref 54] (mrow (mrow (mrow M 54 r21) 63 r22) 64 r23) (fun rs => rs = .inl (some (.int (k_fine r21)), mrow (mrow (mrow M 54 r21) 63 r22) 64 r23)) := by
          have q9 := c_k_fine_54 z (d + 80) (mrow (mrow (mrow M 54 r21) 63 r22) 64 r23) 
          try simp only [mput, mrow_same, mrow_hit, mrow_miss, mrow_sw, idr_eq, ne_eq, Nat.reduceEqDiff, not_false_eq_true, Nat.reduceLT, reduceCtorEq] at q9
          exact q9
        refine G.callV (as := []) (rest := []) (a := 54) oX12_fine lk_EvenFindersModel_130 (by decide +kernel) rfl rfl ⟨rfl, rfl⟩ (Nat.le_of_ble_eq_true rfl) rfl ⟨Nat.le_of_ble_eq_true rfl, Nat.le_of_ble_eq_true rfl⟩ t27 (fun v9 N9 h28 => ?_) (fun E9 N9 h28 => by cases h28)
        cases h28
        show G z mX12_law (d + 81) 0 0 58 [some (.ref 54), some (.int x1), none] [.int (k_fine r21)] (mrow (mrow (mrow M 54 r21) 63 r22) 64 r23) Q
        refine G.if_eq (off := (19)) (tgt := 77) (by decide +kernel) rfl (fun c29 => ?_) (fun c29 => ?_)
        · skip
          rw [if_pos c29] at hk
          refine G.sl [(.aload_n 0, 1, 0, 0, 0, 0), (.iconst 1, 1, 0, 0, 0, nI 1)] [] (pc2 := 79) (ls2 := [some (.ref 54), some (.int x1), none]) (st2 := [.int (nI 1), .ref 54]) (M2 := mrow (mrow (mrow M 54 r21) 63 r22) 64 r23) (Ps := []) (by decide +kernel) rfl rfl trivial ?_
          obtain ⟨k30, hk⟩ := hk
          rcases g31 : k_result r21 (nI 1) with ⟨v32, r33⟩
          try simp only [g31] at hk
          have t34 : GM z mX12_result (d + 80) [.ref 54, .int (nI 1)] (mrow (mrow (mrow M 54 r21) 63 r22) 64 r23) (fun rs => rs = .inl (some (.int v32), mrow (mrow (mrow M 54 r33) 63 r22) 64 r23)) := by
            have q9 := c_k_result_54 z (d + 79) (mrow (mrow (mrow M 54 r21) 63 r22) 64 r23) (nI 1)
            try simp only [mput, mrow_same, mrow_hit, mrow_miss, mrow_sw, idr_eq, ne_eq, Nat.reduceEqDiff, not_false_eq_true, Nat.reduceLT, reduceCtorEq, g31] at q9
            exact q9
          refine G.callV (as := [.int (nI 1)]) (rest := []) (a := 54) oX12_result lk_EvenFindersModel_242 (by decide +kernel) rfl rfl ⟨rfl, rfl⟩ (Nat.le_of_ble_eq_true rfl) rfl ⟨Nat.le_of_ble_eq_true rfl, Nat.le_of_ble_eq_true rfl⟩ t34 (fun v9 N9 h35 => ?_) (fun E9 N9 h35 => by cases h35)
          cases h35
          show G z mX12_law (d + 81) 0 0 82 [some (.ref 54), some (.int x1), none] [.int v32] (mrow (mrow (mrow M 54 r33) 63 r22) 64 r23) Q
          refine G.sl [(.istore_n 2, 1, 2, 0, 0, 0), (.aload_n 0, 1, 0, 0, 0, 0), (.getfield 101, 3, 11, 5, 128, 0), (.iconst (-1), 1, 0, 0, 0, (-1))] [] (pc2 := 88) (ls2 := [some (.ref 54), some (.int x1), some (.int v32)]) (st2 := [.int ((-1)), .int (r33 5)]) (M2 := mrow (mrow (mrow M 54 r33) 63 r22) 64 r23) (Ps := []) (by decide +kernel) rfl rfl trivial ?_
          refine G.ic_eq (off := (5)) (tgt := 93) (by decide +kernel) rfl (fun c36 => ?_) (fun c36 => ?_)
          · skip
            rw [if_pos c36] at hk
            refine G.sl [(.aload_n 0, 1, 0, 0, 0, 0), (.aload_n 0, 1, 0, 0, 0, 0), (.getfield 246, 3, 11, 29, 152, 0), (.putfield 172, 3, 11, 30, 153, 0), (.aload_n 0, 1, 0, 0, 0, 0), (.aload_n 0, 1, 0, 0, 0, 0), (.getfield 41, 3, 11, 24, 147, 0), (.aload_n 0, 1, 0, 0, 0, 0), (.getfield 47, 3, 11, 26, 149, 0), (.aload_n 0, 1, 0, 0, 0, 0), (.getfield 246, 3, 11, 29, 152, 0)] [] (pc2 := 114) (ls2 := [some (.ref 54), some (.int x1), some (.int v32)]) (st2 := [.int (r33 29), .ref 65, .ref 63, .ref 54]) (M2 := mput (mrow (mrow (mrow M 54 r33) 63 r22) 64 r23) 54 30 (r33 29)) (Ps := []) (by decide +kernel) rfl rfl trivial ?_
            refine G.mem (M' := mrow (mrow (mrow M 54 (upd r33 30 (r33 29))) 63 r22) 64 r23) (by first | rfl | (simp only [mput, mrow_same, mrow_hit, mrow_miss, mrow_sw, idr_eq, ne_eq, Nat.reduceEqDiff, not_false_eq_true, Nat.reduceLT, reduceCtorEq]; done)) ?_
            obtain ⟨k37, k38, hk⟩ := hk
            obtain ⟨k39, hk⟩ := hk
            refine G.eq (st' := [.int (nI (ix (r33 29))), .ref 65, .ref 63, .ref 54]) ?_ rfl (by rw [← (show r33 29 = nI (ix (r33 29)) from (ixE k37))]) rfl
            rcases g40 : k_copies_L150_L150 r22 (M.1 65) (ix (r33 29)) with ⟨u41, r42⟩
            try simp only [g40] at hk
            have t43 : GM z mX12_copies (d + 80) [.ref 54, .ref 63, .ref 65, .int (nI (ix (r33 29)))] (mrow (mrow (mrow M 54 (upd r33 30 (r33 29))) 63 r22) 64 r23) (fun rs => rs = .inl (none, mrow (mrow (mrow (mrow M 54 (upd r33 30 (r33 29))) 63 r22) 64 r23) 65 r42)) := by
              have q9 := c_k_copies_L150_L150_54_63_65 z (d + 80) (mrow (mrow (mrow M 54 (upd r33 30 (r33 29))) 63 r22) 64 r23) (ix (r33 29)) k38 k39
              try simp only [mput, mrow_same, mrow_hit, mrow_miss, mrow_sw, idr_eq, ne_eq, Nat.reduceEqDiff, not_false_eq_true, Nat.reduceLT, reduceCtorEq, g40] at q9
              exact q9
            refine G.callV (as := [.ref 63, .ref 65, .int (nI (ix (r33 29)))]) (rest := []) (a := 54) oX12_copies lk_EvenFindersModel_168 (by decide +kernel) rfl rfl ⟨rfl, rfl⟩ (Nat.le_of_ble_eq_true rfl) rfl ⟨Nat.le_of_ble_eq_true rfl, Nat.le_of_ble_eq_true rfl⟩ t43 (fun v9 N9 h44 => ?_) (fun E9 N9 h44 => by cases h44)
            cases h44
            show G z mX12_law (d + 81) 0 0 117 [some (.ref 54), some (.int x1), some (.int v32)] [] (mrow (mrow (mrow (mrow M 54 (upd r33 30 (r33 29))) 63 r22) 64 r23) 65 r42) Q
            refine G.sl [(.aload_n 0, 1, 0, 0, 0, 0), (.aload_n 0, 1, 0, 0, 0, 0), (.getfield 44, 3, 11, 25, 148, 0), (.aload_n 0, 1, 0, 0, 0, 0), (.getfield 50, 3, 11, 27, 150, 0), (.aload_n 0, 1, 0, 0, 0, 0), (.getfield 246, 3, 11, 29, 152, 0)] [] (pc2 := 130) (ls2 := [some (.ref 54), some (.int x1), some (.int v32)]) (st2 := [.int (r33 29), .ref 66, .ref 64, .ref 54]) (M2 := mrow (mrow (mrow (mrow M 54 (upd r33 30 (r33 29))) 63 r22) 64 r23) 65 r42) (Ps := []) (by decide +kernel) rfl rfl trivial ?_
            obtain ⟨k45, hk⟩ := hk
            refine G.eq (st' := [.int (nI (ix (r33 29))), .ref 66, .ref 64, .ref 54]) ?_ rfl (by rw [← (show r33 29 = nI (ix (r33 29)) from (ixE k37))]) rfl
            rcases g46 : k_copies_L150_L150 r23 (M.1 66) (ix (r33 29)) with ⟨u47, r48⟩
            have t49 : GM z mX12_copies (d + 80) [.ref 54, .ref 64, .ref 66, .int (nI (ix (r33 29)))] (mrow (mrow (mrow (mrow M 54 (upd r33 30 (r33 29))) 63 r22) 64 r23) 65 r42) (fun rs => rs = .inl (none, mrow (mrow (mrow (mrow (mrow M 54 (upd r33 30 (r33 29))) 63 r22) 64 r23) 65 r42) 66 r48)) := by
              have q9 := c_k_copies_L150_L150_54_64_66 z (d + 80) (mrow (mrow (mrow (mrow M 54 (upd r33 30 (r33 29))) 63 r22) 64 r23) 65 r42) (ix (r33 29)) k38 k45
              try simp only [mput, mrow_same, mrow_hit, mrow_miss, mrow_sw, idr_eq, ne_eq, Nat.reduceEqDiff, not_false_eq_true, Nat.reduceLT, reduceCtorEq, g46] at q9
              exact q9
            refine G.callV (as := [.ref 64, .ref 66, .int (nI (ix (r33 29)))]) (rest := []) (a := 54) oX12_copies lk_EvenFindersModel_168 (by decide +kernel) rfl rfl ⟨rfl, rfl⟩ (Nat.le_of_ble_eq_true rfl) rfl ⟨Nat.le_of_ble_eq_true rfl, Nat.le_of_ble_eq_true rfl⟩ t49 (fun v9 N9 h50 => ?_) (fun E9 N9 h50 => by cases h50)
            cases h50
            show G z mX12_law (d + 81) 0 0 133 [some (.ref 54), some (.int x1), some (.int v32)] [] (mrow (mrow (mrow (mrow (mrow M 54 (upd r33 30 (r33 29))) 63 r22) 64 r23) 65 r42) 66 r48) Q
            refine G.sl [(.iload_n 2, 1, 2, 0, 0, 0)] [] (pc2 := 134) (ls2 := [some (.ref 54), some (.int x1), some (.int v32)]) (st2 := [.int v32]) (M2 := mrow (mrow (mrow (mrow (mrow M 54 (upd r33 30 (r33 29))) 63 r22) 64 r23) 65 r42) 66 r48) (Ps := []) (by decide +kernel) rfl rfl trivial ?_
            refine G.mem (M' := mrow (mrow (mrow (mrow (mrow (mrow M 54 (upd r33 30 (r33 29))) 55 (M.1 55)) 63 r22) 64 r23) 65 r42) 66 r48) (((mrow_id (N := mrow (mrow (mrow (mrow (mrow M 54 (upd r33 30 (r33 29))) 63 r22) 64 r23) 65 r42) 66 r48) (c := 55) (f := M.1 55) (by first | rfl | (simp only [mput, mrow_same, mrow_hit, mrow_miss, mrow_sw, idr_eq, ne_eq, Nat.reduceEqDiff, not_false_eq_true, Nat.reduceLT, reduceCtorEq]; done))).symm).trans (by first | rfl | (simp only [mput, mrow_same, mrow_hit, mrow_miss, mrow_sw, idr_eq, ne_eq, Nat.reduceEqDiff, not_false_eq_true, Nat.reduceLT, reduceCtorEq]; done))) ?_
            exact G.reti (by decide +kernel) rfl rfl (Nat.le_of_ble_eq_true rfl) (Nat.le_of_ble_eq_true rfl) ((by rw [hQ]; simp only [k_law, if_neg c1, if_neg c4, if_neg c7, g13, g19, if_pos c29, g31, if_pos c36, g40, g46, mrow_self]))
          · skip
            rw [if_neg c36] at hk
            refine G.sl [(.iload_n 2, 1, 2, 0, 0, 0)] [] (pc2 := 92) (ls2 := [some (.ref 54), some (.int x1), some (.int v32)]) (st2 := [.int v32]) (M2 := mrow (mrow (mrow M 54 r33) 63 r22) 64 r23) (Ps := []) (by decide +kernel) rfl rfl trivial ?_
            refine G.mem (M' := mrow (mrow (mrow (mrow (mrow (mrow M 54 r33) 55 (M.1 55)) 63 r22) 64 r23) 65 (M.1 65)) 66 (M.1 66)) (((((mrow_id (N := mrow (mrow (mrow M 54 r33) 63 r22) 64 r23) (c := 55) (f := M.1 55) (by first | rfl | (simp only [mput, mrow_same, mrow_hit, mrow_miss, mrow_sw, idr_eq, ne_eq, Nat.reduceEqDiff, not_false_eq_true, Nat.reduceLT, reduceCtorEq]; done))).symm).trans (mrow_id (N := mrow (mrow (mrow (mrow M 54 r33) 63 r22) 64 r23) 55 (M.1 55)) (c := 65) (f := M.1 65) (by first | rfl | (simp only [mput, mrow_same, mrow_hit, mrow_miss, mrow_sw, idr_eq, ne_eq, Nat.reduceEqDiff, not_false_eq_true, Nat.reduceLT, reduceCtorEq]; done))).symm).trans (mrow_id (N := mrow (mrow (mrow (mrow (mrow M 54 r33) 63 r22) 64 r23) 55 (M.1 55)) 65 (M.1 65)) (c := 66) (f := M.1 66) (by first | rfl | (simp only [mput, mrow_same, mrow_hit, mrow_miss, mrow_sw, idr_eq, ne_eq, Nat.reduceEqDiff, not_false_eq_true, Nat.reduceLT, reduceCtorEq]; done))).symm).trans (by first | rfl | (simp only [mput, mrow_same, mrow_hit, mrow_miss, mrow_sw, idr_eq, ne_eq, Nat.reduceEqDiff, not_false_eq_true, Nat.reduceLT, reduceCtorEq]; done))) ?_
            exact G.reti (by decide +kernel) rfl rfl (Nat.le_of_ble_eq_true rfl) (Nat.le_of_ble_eq_true rfl) ((by rw [hQ]; simp only [k_law, if_neg c1, if_neg c4, if_neg c7, g13, g19, if_pos c29, g31, if_neg c36, mrow_self]))
        · skip
          rw [if_neg c29] at hk
          refine G.sl [(.aload_n 0, 1, 0, 0, 0, 0)] [] (pc2 := 62) (ls2 := [some (.ref 54), some (.int x1), none]) (st2 := [.ref 54]) (M2 := mrow (mrow (mrow M 54 r21) 63 r22) 64 r23) (Ps := []) (by decide +kernel) rfl rfl trivial ?_
          obtain ⟨k51, hk⟩ := hk
          rcases g52 : k_isMore r21 (M.1 56) with ⟨v53, r54⟩
          try simp only [g52] at hk
          have ev53 : v53 = 0 ∨ v53 = 1 := by
            have q9 := k_isMore_01 r21 (M.1 56)
            rw [g52] at q9
            exact q9
          have t55 : GM z mX12_isMore (d + 80) [.ref 54] (mrow (mrow (mrow M 54 r21) 63 r22) 64 r23) (fun rs => rs = .inl (some (.int v53), mrow (mrow (mrow M 54 r54) 63 r22) 64 r23)) := by
            have q9 := c_k_isMore_54 z (d + 79) (mrow (mrow (mrow M 54 r21) 63 r22) 64 r23) k51
            try simp only [mput, mrow_same, mrow_hit, mrow_miss, mrow_sw, idr_eq, ne_eq, Nat.reduceEqDiff, not_false_eq_true, Nat.reduceLT, reduceCtorEq, g52] at q9
            exact q9
          refine G.callV (as := []) (rest := []) (a := 54) oX12_isMore lk_EvenFindersModel_221 (by decide +kernel) rfl rfl ⟨rfl, rfl⟩ (Nat.le_of_ble_eq_true rfl) rfl ⟨Nat.le_of_ble_eq_true rfl, Nat.le_of_ble_eq_true rfl⟩ t55 (fun v9 N9 h56 => ?_) (fun E9 N9 h56 => by cases h56)
          cases h56
          show G z mX12_law (d + 81) 0 0 65 [some (.ref 54), some (.int x1), none] [.int v53] (mrow (mrow (mrow M 54 r54) 63 r22) 64 r23) Q
          refine G.if_eq (off := (12)) (tgt := 77) (by decide +kernel) rfl (fun c57 => ?_) (fun c57 => ?_)
          · skip
            rw [if_pos c57] at hk
            refine G.sl [(.aload_n 0, 1, 0, 0, 0, 0), (.iconst 1, 1, 0, 0, 0, nI 1)] [] (pc2 := 79) (ls2 := [some (.ref 54), some (.int x1), none]) (st2 := [.int (nI 1), .ref 54]) (M2 := mrow (mrow (mrow M 54 r54) 63 r22) 64 r23) (Ps := []) (by decide +kernel) rfl rfl trivial ?_
            obtain ⟨k58, hk⟩ := hk
            rcases g59 : k_result r54 (nI 1) with ⟨v60, r61⟩
            try simp only [g59] at hk
            have t62 : GM z mX12_result (d + 80) [.ref 54, .int (nI 1)] (mrow (mrow (mrow M 54 r54) 63 r22) 64 r23) (fun rs => rs = .inl (some (.int v60), mrow (mrow (mrow M 54 r61) 63 r22) 64 r23)) := by
              have q9 := c_k_result_54 z (d + 79) (mrow (mrow (mrow M 54 r54) 63 r22) 64 r23) (nI 1)
              try simp only [mput, mrow_same, mrow_hit, mrow_miss, mrow_sw, idr_eq, ne_eq, Nat.reduceEqDiff, not_false_eq_true, Nat.reduceLT, reduceCtorEq, g59] at q9
              exact q9
            refine G.callV (as := [.int (nI 1)]) (rest := []) (a := 54) oX12_result lk_EvenFindersModel_242 (by decide +kernel) rfl rfl ⟨rfl, rfl⟩ (Nat.le_of_ble_eq_true rfl) rfl ⟨Nat.le_of_ble_eq_true rfl, Nat.le_of_ble_eq_true rfl⟩ t62 (fun v9 N9 h63 => ?_) (fun E9 N9 h63 => by cases h63)
            cases h63
            show G z mX12_law (d + 81) 0 0 82 [some (.ref 54), some (.int x1), none] [.int v60] (mrow (mrow (mrow M 54 r61) 63 r22) 64 r23) Q
            refine G.sl [(.istore_n 2, 1, 2, 0, 0, 0), (.aload_n 0, 1, 0, 0, 0, 0), (.getfield 101, 3, 11, 5, 128, 0), (.iconst (-1), 1, 0, 0, 0, (-1))] [] (pc2 := 88) (ls2 := [some (.ref 54), some (.int x1), some (.int v60)]) (st2 := [.int ((-1)), .int (r61 5)]) (M2 := mrow (mrow (mrow M 54 r61) 63 r22) 64 r23) (Ps := []) (by decide +kernel) rfl rfl trivial ?_
            refine G.ic_eq (off := (5)) (tgt := 93) (by decide +kernel) rfl (fun c64 => ?_) (fun c64 => ?_)
            · skip
              rw [if_pos c64] at hk
              refine G.sl [(.aload_n 0, 1, 0, 0, 0, 0), (.aload_n 0, 1, 0, 0, 0, 0), (.getfield 246, 3, 11, 29, 152, 0), (.putfield 172, 3, 11, 30, 153, 0), (.aload_n 0, 1, 0, 0, 0, 0), (.aload_n 0, 1, 0, 0, 0, 0), (.getfield 41, 3, 11, 24, 147, 0), (.aload_n 0, 1, 0, 0, 0, 0), (.getfield 47, 3, 11, 26, 149, 0), (.aload_n 0, 1, 0, 0, 0, 0), (.getfield 246, 3, 11, 29, 152, 0)] [] (pc2 := 114) (ls2 := [some (.ref 54), some (.int x1), some (.int v60)]) (st2 := [.int (r61 29), .ref 65, .ref 63, .ref 54]) (M2 := mput (mrow (mrow (mrow M 54 r61) 63 r22) 64 r23) 54 30 (r61 29)) (Ps := []) (by decide +kernel) rfl rfl trivial ?_
              refine G.mem (M' := mrow (mrow (mrow M 54 (upd r61 30 (r61 29))) 63 r22) 64 r23) (by first | rfl | (simp only [mput, mrow_same, mrow_hit, mrow_miss, mrow_sw, idr_eq, ne_eq, Nat.reduceEqDiff, not_false_eq_true, Nat.reduceLT, reduceCtorEq]; done)) ?_
              obtain ⟨k65, k66, hk⟩ := hk
              obtain ⟨k67, hk⟩ := hk
              refine G.eq (st' := [.int (nI (ix (r61 29))), .ref 65, .ref 63, .ref 54]) ?_ rfl (by rw [← (show r61 29 = nI (ix (r61 29)) from (ixE k65))]) rfl
              rcases g68 : k_copies_L150_L150 r22 (M.1 65) (ix (r61 29)) with ⟨u69, r70⟩
              try simp only [g68] at hk
              have t71 : GM z mX12_copies (d + 80) [.ref 54, .ref 63, .ref 65, .int (nI (ix (r61 29)))] (mrow (mrow (mrow M 54 (upd r61 30 (r61 29))) 63 r22) 64 r23) (fun rs => rs = .inl (none, mrow (mrow (mrow (mrow M 54 (upd r61 30 (r61 29))) 63 r22) 64 r23) 65 r70)) := by
                have q9 := c_k_copies_L150_L150_54_63_65 z (d + 80) (mrow (mrow (mrow M 54 (upd r61 30 (r61 29))) 63 r22) 64 r23) (ix (r61 29)) k66 k67
                try simp only [mput, mrow_same, mrow_hit, mrow_miss, mrow_sw, idr_eq, ne_eq, Nat.reduceEqDiff, not_false_eq_true, Nat.reduceLT, reduceCtorEq, g68] at q9
                exact q9
              refine G.callV (as := [.ref 63, .ref 65, .int (nI (ix (r61 29)))]) (rest := []) (a := 54) oX12_copies lk_EvenFindersModel_168 (by decide +kernel) rfl rfl ⟨rfl, rfl⟩ (Nat.le_of_ble_eq_true rfl) rfl ⟨Nat.le_of_ble_eq_true rfl, Nat.le_of_ble_eq_true rfl⟩ t71 (fun v9 N9 h72 => ?_) (fun E9 N9 h72 => by cases h72)
              cases h72
              show G z mX12_law (d + 81) 0 0 117 [some (.ref 54), some (.int x1), some (.int v60)] [] (mrow (mrow (mrow (mrow M 54 (upd r61 30 (r61 29))) 63 r22) 64 r23) 65 r70) Q
              refine G.sl [(.aload_n 0, 1, 0, 0, 0, 0), (.aload_n 0, 1, 0, 0, 0, 0), (.getfield 44, 3, 11, 25, 148, 0), (.aload_n 0, 1, 0, 0, 0, 0), (.getfield 50, 3, 11, 27, 150, 0), (.aload_n 0, 1, 0, 0, 0, 0), (.getfield 246, 3, 11, 29, 152, 0)] [] (pc2 := 130) (ls2 := [some (.ref 54), some (.int x1), some (.int v60)]) (st2 := [.int (r61 29), .ref 66, .ref 64, .ref 54]) (M2 := mrow (mrow (mrow (mrow M 54 (upd r61 30 (r61 29))) 63 r22) 64 r23) 65 r70) (Ps := []) (by decide +kernel) rfl rfl trivial ?_
              obtain ⟨k73, hk⟩ := hk
              refine G.eq (st' := [.int (nI (ix (r61 29))), .ref 66, .ref 64, .ref 54]) ?_ rfl (by rw [← (show r61 29 = nI (ix (r61 29)) from (ixE k65))]) rfl
              rcases g74 : k_copies_L150_L150 r23 (M.1 66) (ix (r61 29)) with ⟨u75, r76⟩
              have t77 : GM z mX12_copies (d + 80) [.ref 54, .ref 64, .ref 66, .int (nI (ix (r61 29)))] (mrow (mrow (mrow (mrow M 54 (upd r61 30 (r61 29))) 63 r22) 64 r23) 65 r70) (fun rs => rs = .inl (none, mrow (mrow (mrow (mrow (mrow M 54 (upd r61 30 (r61 29))) 63 r22) 64 r23) 65 r70) 66 r76)) := by
                have q9 := c_k_copies_L150_L150_54_64_66 z (d + 80) (mrow (mrow (mrow (mrow M 54 (upd r61 30 (r61 29))) 63 r22) 64 r23) 65 r70) (ix (r61 29)) k66 k73
                try simp only [mput, mrow_same, mrow_hit, mrow_miss, mrow_sw, idr_eq, ne_eq, Nat.reduceEqDiff, not_false_eq_true, Nat.reduceLT, reduceCtorEq, g74] at q9
                exact q9
              refine G.callV (as := [.ref 64, .ref 66, .int (nI (ix (r61 29)))]) (rest := []) (a := 54) oX12_copies lk_EvenFindersModel_168 (by decide +kernel) rfl rfl ⟨rfl, rfl⟩ (Nat.le_of_ble_eq_true rfl) rfl ⟨Nat.le_of_ble_eq_true rfl, Nat.le_of_ble_eq_true rfl⟩ t77 (fun v9 N9 h78 => ?_) (fun E9 N9 h78 => by cases h78)
              cases h78
              show G z mX12_law (d + 81) 0 0 133 [some (.ref 54), some (.int x1), some (.int v60)] [] (mrow (mrow (mrow (mrow (mrow M 54 (upd r61 30 (r61 29))) 63 r22) 64 r23) 65 r70) 66 r76) Q
              refine G.sl [(.iload_n 2, 1, 2, 0, 0, 0)] [] (pc2 := 134) (ls2 := [some (.ref 54), some (.int x1), some (.int v60)]) (st2 := [.int v60]) (M2 := mrow (mrow (mrow (mrow (mrow M 54 (upd r61 30 (r61 29))) 63 r22) 64 r23) 65 r70) 66 r76) (Ps := []) (by decide +kernel) rfl rfl trivial ?_
              refine G.mem (M' := mrow (mrow (mrow (mrow (mrow (mrow M 54 (upd r61 30 (r61 29))) 55 (M.1 55)) 63 r22) 64 r23) 65 r70) 66 r76) (((mrow_id (N := mrow (mrow (mrow (mrow (mrow M 54 (upd r61 30 (r61 29))) 63 r22) 64 r23) 65 r70) 66 r76) (c := 55) (f := M.1 55) (by first | rfl | (simp only [mput, mrow_same, mrow_hit, mrow_miss, mrow_sw, idr_eq, ne_eq, Nat.reduceEqDiff, not_false_eq_true, Nat.reduceLT, reduceCtorEq]; done))).symm).trans (by first | rfl | (simp only [mput, mrow_same, mrow_hit, mrow_miss, mrow_sw, idr_eq, ne_eq, Nat.reduceEqDiff, not_false_eq_true, Nat.reduceLT, reduceCtorEq]; done))) ?_
              exact G.reti (by decide +kernel) rfl rfl (Nat.le_of_ble_eq_true rfl) (Nat.le_of_ble_eq_true rfl) ((by rw [hQ]; simp only [k_law, if_neg c1, if_neg c4, if_neg c7, g13, g19, if_neg c29, g52, if_pos c57, g59, if_pos c64, g68, g74, mrow_self]))
            · skip
              rw [if_neg c64] at hk
              refine G.sl [(.iload_n 2, 1, 2, 0, 0, 0)] [] (pc2 := 92) (ls2 := [some (.ref 54), some (.int x1), some (.int v60)]) (st2 := [.int v60]) (M2 := mrow (mrow (mrow M 54 r61) 63 r22) 64 r23) (Ps := []) (by decide +kernel) rfl rfl trivial ?_
              refine G.mem (M' := mrow (mrow (mrow (mrow (mrow (mrow M 54 r61) 55 (M.1 55)) 63 r22) 64 r23) 65 (M.1 65)) 66 (M.1 66)) (((((mrow_id (N := mrow (mrow (mrow M 54 r61) 63 r22) 64 r23) (c := 55) (f := M.1 55) (by first | rfl | (simp only [mput, mrow_same, mrow_hit, mrow_miss, mrow_sw, idr_eq, ne_eq, Nat.reduceEqDiff, not_false_eq_true, Nat.reduceLT, reduceCtorEq]; done))).symm).trans (mrow_id (N := mrow (mrow (mrow (mrow M 54 r61) 63 r22) 64 r23) 55 (M.1 55)) (c := 65) (f := M.1 65) (by first | rfl | (simp only [mput, mrow_same, mrow_hit, mrow_miss, mrow_sw, idr_eq, ne_eq, Nat.reduceEqDiff, not_false_eq_true, Nat.reduceLT, reduceCtorEq]; done))).symm).trans (mrow_id (N := mrow (mrow (mrow (mrow (mrow M 54 r61) 63 r22) 64 r23) 55 (M.1 55)) 65 (M.1 65)) (c := 66) (f := M.1 66) (by first | rfl | (simp only [mput, mrow_same, mrow_hit, mrow_miss, mrow_sw, idr_eq, ne_eq, Nat.reduceEqDiff, not_false_eq_true, Nat.reduceLT, reduceCtorEq]; done))).symm).trans (by first | rfl | (simp only [mput, mrow_same, mrow_hit, mrow_miss, mrow_sw, idr_eq, ne_eq, Nat.reduceEqDiff, not_false_eq_true, Nat.reduceLT, reduceCtorEq]; done))) ?_
              exact G.reti (by decide +kernel) rfl rfl (Nat.le_of_ble_eq_true rfl) (Nat.le_of_ble_eq_true rfl) ((by rw [hQ]; simp only [k_law, if_neg c1, if_neg c4, if_neg c7, g13, g19, if_neg c29, g52, if_pos c57, g59, if_neg c64, mrow_self]))
          · skip
            rw [if_neg c57] at hk
            refine G.sl [(.aload_n 0, 1, 0, 0, 0, 0), (.iconst 1, 1, 0, 0, 0, nI 1), (.aload_n 0, 1, 0, 0, 0, 0), (.getfield 107, 3, 11, 4, 127, 0)] [] (pc2 := 74) (ls2 := [some (.ref 54), some (.int x1), none]) (st2 := [.int (r54 4), .int (nI 1), .ref 54]) (M2 := mrow (mrow (mrow M 54 r54) 63 r22) 64 r23) (Ps := []) (by decide +kernel) rfl rfl trivial ?_
            obtain ⟨k79, hk⟩ := hk
            rcases g80 : k_wrong r54 (nI 1) (r54 4) with ⟨u81, r82⟩
            try simp only [g80] at hk
            have t83 : GM z mX12_wrong (d + 80) [.ref 54, .int (nI 1), .int (r54 4)] (mrow (mrow (mrow M 54 r54) 63 r22) 64 r23) (fun rs => rs = .inl (none, mrow (mrow (mrow M 54 r82) 63 r22) 64 r23)) := by
              have q9 := c_k_wrong_54 z (d + 80) (mrow (mrow (mrow M 54 r54) 63 r22) 64 r23) (nI 1) (r54 4)
              try simp only [mput, mrow_same, mrow_hit, mrow_miss, mrow_sw, idr_eq, ne_eq, Nat.reduceEqDiff, not_false_eq_true, Nat.reduceLT, reduceCtorEq, g80] at q9
              exact q9
            refine G.callV (as := [.int (nI 1), .int (r54 4)]) (rest := []) (a := 54) oX12_wrong lk_EvenFindersModel_137 (by decide +kernel) rfl rfl ⟨rfl, rfl⟩ (Nat.le_of_ble_eq_true rfl) rfl ⟨Nat.le_of_ble_eq_true rfl, Nat.le_of_ble_eq_true rfl⟩ t83 (fun v9 N9 h84 => ?_) (fun E9 N9 h84 => by cases h84)
            cases h84
            show G z mX12_law (d + 81) 0 0 77 [some (.ref 54), some (.int x1), none] [] (mrow (mrow (mrow M 54 r82) 63 r22) 64 r23) Q
            refine G.sl [(.aload_n 0, 1, 0, 0, 0, 0), (.iconst 1, 1, 0, 0, 0, nI 1)] [] (pc2 := 79) (ls2 := [some (.ref 54), some (.int x1), none]) (st2 := [.int (nI 1), .ref 54]) (M2 := mrow (mrow (mrow M 54 r82) 63 r22) 64 r23) (Ps := []) (by decide +kernel) rfl rfl trivial ?_
            obtain ⟨k85, hk⟩ := hk
            rcases g86 : k_result r82 (nI 1) with ⟨v87, r88⟩
            try simp only [g86] at hk
            have t89 : GM z mX12_result (d + 80) [.ref 54, .int (nI 1)] (mrow (mrow (mrow M 54 r82) 63 r22) 64 r23) (fun rs => rs = .inl (some (.int v87), mrow (mrow (mrow M 54 r88) 63 r22) 64 r23)) := by
              have q9 := c_k_result_54 z (d + 79) (mrow (mrow (mrow M 54 r82) 63 r22) 64 r23) (nI 1)
              try simp only [mput, mrow_same, mrow_hit, mrow_miss, mrow_sw, idr_eq, ne_eq, Nat.reduceEqDiff, not_false_eq_true, Nat.reduceLT, reduceCtorEq, g86] at q9
              exact q9
            refine G.callV (as := [.int (nI 1)]) (rest := []) (a := 54) oX12_result lk_EvenFindersModel_242 (by decide +kernel) rfl rfl ⟨rfl, rfl⟩ (Nat.le_of_ble_eq_true rfl) rfl ⟨Nat.le_of_ble_eq_true rfl, Nat.le_of_ble_eq_true rfl⟩ t89 (fun v9 N9 h90 => ?_) (fun E9 N9 h90 => by cases h90)
            cases h90
            show G z mX12_law (d + 81) 0 0 82 [some (.ref 54), some (.int x1), none] [.int v87] (mrow (mrow (mrow M 54 r88) 63 r22) 64 r23) Q
            refine G.sl [(.istore_n 2, 1, 2, 0, 0, 0), (.aload_n 0, 1, 0, 0, 0, 0), (.getfield 101, 3, 11, 5, 128, 0), (.iconst (-1), 1, 0, 0, 0, (-1))] [] (pc2 := 88) (ls2 := [some (.ref 54), some (.int x1), some (.int v87)]) (st2 := [.int ((-1)), .int (r88 5)]) (M2 := mrow (mrow (mrow M 54 r88) 63 r22) 64 r23) (Ps := []) (by decide +kernel) rfl rfl trivial ?_
            refine G.ic_eq (off := (5)) (tgt := 93) (by decide +kernel) rfl (fun c91 => ?_) (fun c91 => ?_)
            · skip
              rw [if_pos c91] at hk
              refine G.sl [(.aload_n 0, 1, 0, 0, 0, 0), (.aload_n 0, 1, 0, 0, 0, 0), (.getfield 246, 3, 11, 29, 152, 0), (.putfield 172, 3, 11, 30, 153, 0), (.aload_n 0, 1, 0, 0, 0, 0), (.aload_n 0, 1, 0, 0, 0, 0), (.getfield 41, 3, 11, 24, 147, 0), (.aload_n 0, 1, 0, 0, 0, 0), (.getfield 47, 3, 11, 26, 149, 0), (.aload_n 0, 1, 0, 0, 0, 0), (.getfield 246, 3, 11, 29, 152, 0)] [] (pc2 := 114) (ls2 := [some (.ref 54), some (.int x1), some (.int v87)]) (st2 := [.int (r88 29), .ref 65, .ref 63, .ref 54]) (M2 := mput (mrow (mrow (mrow M 54 r88) 63 r22) 64 r23) 54 30 (r88 29)) (Ps := []) (by decide +kernel) rfl rfl trivial ?_
              refine G.mem (M' := mrow (mrow (mrow M 54 (upd r88 30 (r88 29))) 63 r22) 64 r23) (by first | rfl | (simp only [mput, mrow_same, mrow_hit, mrow_miss, mrow_sw, idr_eq, ne_eq, Nat.reduceEqDiff, not_false_eq_true, Nat.reduceLT, reduceCtorEq]; done)) ?_
              obtain ⟨k92, k93, hk⟩ := hk
              obtain ⟨k94, hk⟩ := hk
              refine G.eq (st' := [.int (nI (ix (r88 29))), .ref 65, .ref 63, .ref 54]) ?_ rfl (by rw [← (show r88 29 = nI (ix (r88 29)) from (ixE k92))]) rfl
              rcases g95 : k_copies_L150_L150 r22 (M.1 65) (ix (r88 29)) with ⟨u96, r97⟩
              try simp only [g95] at hk
              have t98 : GM z mX12_copies (d + 80) [.ref 54, .ref 63, .ref 65, .int (nI (ix (r88 29)))] (mrow (mrow (mrow M 54 (upd r88 30 (r88 29))) 63 r22) 64 r23) (fun rs => rs = .inl (none, mrow (mrow (mrow (mrow M 54 (upd r88 30 (r88 29))) 63 r22) 64 r23) 65 r97)) := by
                have q9 := c_k_copies_L150_L150_54_63_65 z (d + 80) (mrow (mrow (mrow M 54 (upd r88 30 (r88 29))) 63 r22) 64 r23) (ix (r88 29)) k93 k94
                try simp only [mput, mrow_same, mrow_hit, mrow_miss, mrow_sw, idr_eq, ne_eq, Nat.reduceEqDiff, not_false_eq_true, Nat.reduceLT, reduceCtorEq, g95] at q9
                exact q9
              refine G.callV (as := [.ref 63, .ref 65, .int (nI (ix (r88 29)))]) (rest := []) (a := 54) oX12_copies lk_EvenFindersModel_168 (by decide +kernel) rfl rfl ⟨rfl, rfl⟩ (Nat.le_of_ble_eq_true rfl) rfl ⟨Nat.le_of_ble_eq_true rfl, Nat.le_of_ble_eq_true rfl⟩ t98 (fun v9 N9 h99 => ?_) (fun E9 N9 h99 => by cases h99)
              cases h99
              show G z mX12_law (d + 81) 0 0 117 [some (.ref 54), some (.int x1), some (.int v87)] [] (mrow (mrow (mrow (mrow M 54 (upd r88 30 (r88 29))) 63 r22) 64 r23) 65 r97) Q
              refine G.sl [(.aload_n 0, 1, 0, 0, 0, 0), (.aload_n 0, 1, 0, 0, 0, 0), (.getfield 44, 3, 11, 25, 148, 0), (.aload_n 0, 1, 0, 0, 0, 0), (.getfield 50, 3, 11, 27, 150, 0), (.aload_n 0, 1, 0, 0, 0, 0), (.getfield 246, 3, 11, 29, 152, 0)] [] (pc2 := 130) (ls2 := [some (.ref 54), some (.int x1), some (.int v87)]) (st2 := [.int (r88 29), .ref 66, .ref 64, .ref 54]) (M2 := mrow (mrow (mrow (mrow M 54 (upd r88 30 (r88 29))) 63 r22) 64 r23) 65 r97) (Ps := []) (by decide +kernel) rfl rfl trivial ?_
              obtain ⟨k100, hk⟩ := hk
              refine G.eq (st' := [.int (nI (ix (r88 29))), .ref 66, .ref 64, .ref 54]) ?_ rfl (by rw [← (show r88 29 = nI (ix (r88 29)) from (ixE k92))]) rfl
              rcases g101 : k_copies_L150_L150 r23 (M.1 66) (ix (r88 29)) with ⟨u102, r103⟩
              have t104 : GM z mX12_copies (d + 80) [.ref 54, .ref 64, .ref 66, .int (nI (ix (r88 29)))] (mrow (mrow (mrow (mrow M 54 (upd r88 30 (r88 29))) 63 r22) 64 r23) 65 r97) (fun rs => rs = .inl (none, mrow (mrow (mrow (mrow (mrow M 54 (upd r88 30 (r88 29))) 63 r22) 64 r23) 65 r97) 66 r103)) := by
                have q9 := c_k_copies_L150_L150_54_64_66 z (d + 80) (mrow (mrow (mrow (mrow M 54 (upd r88 30 (r88 29))) 63 r22) 64 r23) 65 r97) (ix (r88 29)) k93 k100
                try simp only [mput, mrow_same, mrow_hit, mrow_miss, mrow_sw, idr_eq, ne_eq, Nat.reduceEqDiff, not_false_eq_true, Nat.reduceLT, reduceCtorEq, g101] at q9
                exact q9
              refine G.callV (as := [.ref 64, .ref 66, .int (nI (ix (r88 29)))]) (rest := []) (a := 54) oX12_copies lk_EvenFindersModel_168 (by decide +kernel) rfl rfl ⟨rfl, rfl⟩ (Nat.le_of_ble_eq_true rfl) rfl ⟨Nat.le_of_ble_eq_true rfl, Nat.le_of_ble_eq_true rfl⟩ t104 (fun v9 N9 h105 => ?_) (fun E9 N9 h105 => by cases h105)
              cases h105
              show G z mX12_law (d + 81) 0 0 133 [some (.ref 54), some (.int x1), some (.int v87)] [] (mrow (mrow (mrow (mrow (mrow M 54 (upd r88 30 (r88 29))) 63 r22) 64 r23) 65 r97) 66 r103) Q
              refine G.sl [(.iload_n 2, 1, 2, 0, 0, 0)] [] (pc2 := 134) (ls2 := [some (.ref 54), some (.int x1), some (.int v87)]) (st2 := [.int v87]) (M2 := mrow (mrow (mrow (mrow (mrow M 54 (upd r88 30 (r88 29))) 63 r22) 64 r23) 65 r97) 66 r103) (Ps := []) (by decide +kernel) rfl rfl trivial ?_
              refine G.mem (M' := mrow (mrow (mrow (mrow (mrow (mrow M 54 (upd r88 30 (r88 29))) 55 (M.1 55)) 63 r22) 64 r23) 65 r97) 66 r103) (((mrow_id (N := mrow (mrow (mrow (mrow (mrow M 54 (upd r88 30 (r88 29))) 63 r22) 64 r23) 65 r97) 66 r103) (c := 55) (f := M.1 55) (by first | rfl | (simp only [mput, mrow_same, mrow_hit, mrow_miss, mrow_sw, idr_eq, ne_eq, Nat.reduceEqDiff, not_false_eq_true, Nat.reduceLT, reduceCtorEq]; done))).symm).trans (by first | rfl | (simp only [mput, mrow_same, mrow_hit, mrow_miss, mrow_sw, idr_eq, ne_eq, Nat.reduceEqDiff, not_false_eq_true, Nat.reduceLT, reduceCtorEq]; done))) ?_
              exact G.reti (by decide +kernel) rfl rfl (Nat.le_of_ble_eq_true rfl) (Nat.le_of_ble_eq_true rfl) ((by rw [hQ]; simp only [k_law, if_neg c1, if_neg c4, if_neg c7, g13, g19, if_neg c29, g52, if_neg c57, g80, g86, if_pos c91, g95, g101, mrow_self]))
            · skip
              rw [if_neg c91] at hk
              refine G.sl [(.iload_n 2, 1, 2, 0, 0, 0)] [] (pc2 := 92) (ls2 := [some (.ref 54), some (.int x1), some (.int v87)]) (st2 := [.int v87]) (M2 := mrow (mrow (mrow M 54 r88) 63 r22) 64 r23) (Ps := []) (by decide +kernel) rfl rfl trivial ?_
              refine G.mem (M' := mrow (mrow (mrow (mrow (mrow (mrow M 54 r88) 55 (M.1 55)) 63 r22) 64 r23) 65 (M.1 65)) 66 (M.1 66)) (((((mrow_id (N := mrow (mrow (mrow M 54 r88) 63 r22) 64 r23) (c := 55) (f := M.1 55) (by first | rfl | (simp only [mput, mrow_same, mrow_hit, mrow_miss, mrow_sw, idr_eq, ne_eq, Nat.reduceEqDiff, not_false_eq_true, Nat.reduceLT, reduceCtorEq]; done))).symm).trans (mrow_id (N := mrow (mrow (mrow (mrow M 54 r88) 63 r22) 64 r23) 55 (M.1 55)) (c := 65) (f := M.1 65) (by first | rfl | (simp only [mput, mrow_same, mrow_hit, mrow_miss, mrow_sw, idr_eq, ne_eq, Nat.reduceEqDiff, not_false_eq_true, Nat.reduceLT, reduceCtorEq]; done))).symm).trans (mrow_id (N := mrow (mrow (mrow (mrow (mrow M 54 r88) 63 r22) 64 r23) 55 (M.1 55)) 65 (M.1 65)) (c := 66) (f := M.1 66) (by first | rfl | (simp only [mput, mrow_same, mrow_hit, mrow_miss, mrow_sw, idr_eq, ne_eq, Nat.reduceEqDiff, not_false_eq_true, Nat.reduceLT, reduceCtorEq]; done))).symm).trans (by first | rfl | (simp only [mput, mrow_same, mrow_hit, mrow_miss, mrow_sw, idr_eq, ne_eq, Nat.reduceEqDiff, not_false_eq_true, Nat.reduceLT, reduceCtorEq]; done))) ?_
              exact G.reti (by decide +kernel) rfl rfl (Nat.le_of_ble_eq_true rfl) (Nat.le_of_ble_eq_true rfl) ((by rw [hQ]; simp only [k_law, if_neg c1, if_neg c4, if_neg c7, g13, g19, if_neg c29, g52, if_neg c57, g80, g86, if_neg c91, mrow_self]))
set_option maxHeartbeats 4000000 in
set_option maxRecDepth 3000 in
theorem lp_k_of_s19_4 (z : Zp) (d : Nat) (M : Mem) (Q : Rs → Prop) (nn : Nat) (hnn : nn = 4) (hX : G z mX12_of (d + 4) 0 0 31 [none, some (.int (k_of_s19_4  nn)), none] [] M Q) : G z mX12_of (d + 4) 0 0 4 [some (.ref 1019), some (.int (nI 0)), some (.int (nI 0))] [] M Q := by
  refine down (n := nn) (P := fun i2 => G z mX12_of (d + 4) 0 0 4 [some (.ref 1019), some (.int (k_of_s19_4  i2)), some (.int (nI i2))] [] M Q) ?_ ?_ 0 (Nat.zero_le _)
  · skip
    refine G.sl [(.iload_n 2, 1, 2, 0, 0, 0), (.aload_n 0, 1, 0, 0, 0, 0)] [] (pc2 := 6) (ls2 := [some (.ref 1019), some (.int (k_of_s19_4  nn)), some (.int (nI nn))]) (st2 := [.ref 1019, .int (nI nn)]) (M2 := M) (Ps := []) (by decide +kernel) rfl rfl trivial ?_
    have t1 : GM z mJ0_length_8abf5 (d + 3) [.ref 1019] M (fun rs => rs = .inl (some (.int (nI 4)), M)) := c_slen z _ _ 19 (by decide)
    refine G.callT (as := []) (rest := [.int (nI nn)]) (i := 19) oJ0_length_8abf5 lk_EvenFindersModel_121 (by decide +kernel) rfl (by decide) rfl (Nat.le_of_ble_eq_true rfl) rfl ⟨Nat.le_of_ble_eq_true rfl, Nat.le_of_ble_eq_true rfl⟩ t1 (fun v9 N9 h2 => ?_) (fun E9 N9 h2 => by cases h2)
    cases h2
    show G z mX12_of (d + 4) 0 0 9 [some (.ref 1019), some (.int (k_of_s19_4  nn)), some (.int (nI nn))] [.int (nI 4), .int (nI nn)] M Q
    refine G.ic_ge (off := (22)) (tgt := 31) (by decide +kernel) rfl (fun _ => ?_) (fun h9 => absurd (nI_le (by omega) (by omega)) h9)
    refine G.loc (ls2 := [none, some (.int (k_of_s19_4  nn)), none]) (by simp [subL]) ?_
    exact hX
  · skip
    intro i2 hi ih
    show G z mX12_of (d + 4) 0 0 4 [some (.ref 1019), some (.int (k_of_s19_4  i2)), some (.int (nI i2))] [] M Q
    refine G.sl [(.iload_n 2, 1, 2, 0, 0, 0), (.aload_n 0, 1, 0, 0, 0, 0)] [] (pc2 := 6) (ls2 := [some (.ref 1019), some (.int (k_of_s19_4  i2)), some (.int (nI i2))]) (st2 := [.ref 1019, .int (nI i2)]) (M2 := M) (Ps := []) (by decide +kernel) rfl rfl trivial ?_
    have t3 : GM z mJ0_length_8abf5 (d + 3) [.ref 1019] M (fun rs => rs = .inl (some (.int (nI 4)), M)) := c_slen z _ _ 19 (by decide)
    refine G.callT (as := []) (rest := [.int (nI i2)]) (i := 19) oJ0_length_8abf5 lk_EvenFindersModel_121 (by decide +kernel) rfl (by decide) rfl (Nat.le_of_ble_eq_true rfl) rfl ⟨Nat.le_of_ble_eq_true rfl, Nat.le_of_ble_eq_true rfl⟩ t3 (fun v9 N9 h4 => ?_) (fun E9 N9 h4 => by cases h4)
    cases h4
    show G z mX12_of (d + 4) 0 0 9 [some (.ref 1019), some (.int (k_of_s19_4  i2)), some (.int (nI i2))] [.int (nI 4), .int (nI i2)] M Q
    refine G.ic_ge (off := (22)) (tgt := 31) (by decide +kernel) rfl (fun h9 => absurd h9 (nI_ge (by omega) (by omega))) (fun _ => ?_)
    refine G.sl [(.iload_n 1, 1, 1, 0, 0, 0), (.iconst 5, 1, 0, 0, 0, nI 5), (.ishl, 1, 0, 0, 0, 0), (.aload_n 0, 1, 0, 0, 0, 0), (.iload_n 2, 1, 2, 0, 0, 0)] [] (pc2 := 17) (ls2 := [some (.ref 1019), some (.int (k_of_s19_4  i2)), some (.int (nI i2))]) (st2 := [.int (nI i2), .ref 1019, .int ((k_of_s19_4  i2) <<< ((nI 5) &&& 31))]) (M2 := M) (Ps := []) (by decide +kernel) rfl rfl trivial ?_
    have t5 : GM z mJ0_charAt_5068e (d + 3) [.ref 1019, .int (nI i2)] M (fun rs => rs = .inl (some (.int (sby 19 i2)), M)) := c_charAt z _ _ 19 i2 (by decide) (show i2 < 4 from (by omega))
    refine G.callT (as := [.int (nI i2)]) (rest := [.int ((k_of_s19_4  i2) <<< ((nI 5) &&& 31))]) (i := 19) oJ0_charAt_5068e lk_EvenFindersModel_126 (by decide +kernel) rfl (by decide) rfl (Nat.le_of_ble_eq_true rfl) rfl ⟨Nat.le_of_ble_eq_true rfl, Nat.le_of_ble_eq_true rfl⟩ t5 (fun v9 N9 h6 => ?_) (fun E9 N9 h6 => by cases h6)
    cases h6
    show G z mX12_of (d + 4) 0 0 20 [some (.ref 1019), some (.int (k_of_s19_4  i2)), some (.int (nI i2))] [.int (sby 19 i2), .int ((k_of_s19_4  i2) <<< ((nI 5) &&& 31))] M Q
    refine G.sl [(.bipush 96, 2, 0, 0, 0, nI 96), (.isub, 1, 0, 0, 0, 0), (.ior, 1, 0, 0, 0, 0), (.istore_n 1, 1, 1, 0, 0, 0), (.iinc 2 1, 3, 2, 0, 0, nI 1), (.goto (-24), 3, 4, 0, 0, 0)] [] (pc2 := 4) (ls2 := [some (.ref 1019), some (.int (((k_of_s19_4  i2) <<< ((nI 5) &&& 31)) ||| ((sby 19 i2) - (nI 96)))), some (.int ((nI i2) + nI 1))]) (st2 := []) (M2 := M) (Ps := []) (by decide +kernel) rfl rfl trivial ?_
    rw [nI_add i2 1]
    simp only [k_of_s19_4] at ih
    exact ih
set_option maxHeartbeats 4000000 in
set_option maxRecDepth 3000 in
theorem c_k_of_s19 (z : Zp) (d : Nat) (M : Mem) : GM z mX12_of (d + 4) [.ref 1019] M (fun rs => rs = .inl (some (.int (k_of_s19 )), M)) := by
  refine GM.of oX12_of.1 (Nat.le_of_ble_eq_true rfl) ?_
  show G z mX12_of (d + 4) 0 0 0 [some (.ref 1019), none, none] [] M _
  obtain ⟨Q, hQ⟩ : ∃ Q : Rs → Prop, Q = (fun rs => rs = .inl (some (.int (k_of_s19 )), M)) := ⟨_, rfl⟩
  rw [← hQ]
  refine G.sl [(.iconst 0, 1, 0, 0, 0, nI 0), (.istore_n 1, 1, 1, 0, 0, 0), (.iconst 0, 1, 0, 0, 0, nI 0), (.istore_n 2, 1, 2, 0, 0, 0)] [] (pc2 := 4) (ls2 := [some (.ref 1019), some (.int (nI 0)), some (.int (nI 0))]) (st2 := []) (M2 := M) (Ps := []) (by decide +kernel) rfl rfl trivial ?_
  refine lp_k_of_s19_4 z d M Q (cN 4) (cN_eq 4) ?_
  show G z mX12_of (d + 4) 0 0 31 [none, some (.int (k_of_s19_4 (cN 4))), none] [] M Q
  refine G.sl [(.iload_n 1, 1, 1, 0, 0, 0)] [] (pc2 := 32) (ls2 := [none, some (.int (k_of_s19_4 (cN 4))), none]) (st2 := [.int (k_of_s19_4 (cN 4))]) (M2 := M) (Ps := []) (by decide +kernel) rfl rfl trivial ?_
  exact G.reti (by decide +kernel) rfl rfl (Nat.le_of_ble_eq_true rfl) (Nat.le_of_ble_eq_true rfl) ((by rw [hQ]; simp only [k_of_s19, mrow_self]))
