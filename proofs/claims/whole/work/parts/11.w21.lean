set_option maxHeartbeats 4000000 in
set_option maxRecDepth 3000 in
theorem lp_l_readSum_25_1_st_8 (z : Zp) (d : Nat) (M : Mem) (Q : Rs → Prop) (nn : Nat) (x2 : Int32) (fz : (Nat → Int32) → (Nat → Int32) → (Nat → Int32) → (Nat → Int32) → Int32 → Int32 × (Nat → Int32) × (Nat → Int32) × (Nat → Int32)) (gz : (Nat → Int32) → (Nat → Int32) → (Nat → Int32) → (Nat → Int32) → Int32 → Prop) (Hz : ∀ (j : Nat) (M : Mem) (x2 : Int32), gz (M.1 1) (M.1 2) (M.1 25) (M.1 27) x2 → GM z mX3_readSum (d + j) [.ref 25, .ref 1, .int x2] M (fun rs => rs = .inl (none, mrow (mrow (mrow M 1 ((fz (M.1 1) (M.1 2) (M.1 25) (M.1 27) x2).2.1)) 25 ((fz (M.1 1) (M.1 2) (M.1 25) (M.1 27) x2).2.2.1)) 27 ((fz (M.1 1) (M.1 2) (M.1 25) (M.1 27) x2).2.2.2)))) (hnn : nn = 150) : ∀ (k0 : Nat) (i3 : Nat) (q1 : (Nat → Int32)) (q25 : (Nat → Int32)) (q27 : (Nat → Int32)), i3 + k0 = nn → l_readSum_st_8_ok fz gz (M.1 2) x2 k0 i3 q1 q25 q27 → (match l_readSum_st_8 fz (M.1 2) x2 k0 i3 q1 q25 q27 with | .inl (v', q1', q25', q27') => Q (.inl (none, mrow (mrow (mrow M 1 (q1')) 25 (q25')) 27 (q27'))) | .inr (q1', q25', q27') => G z mX3_readSum (d + 8) 0 0 65 [none, none, none, none, none] [] (mrow (mrow (mrow M 1 (q1')) 25 (q25')) 27 (q27')) Q) → G z mX3_readSum (d + 8) 0 0 8 [some (.ref 25), some (.ref 1), some (.int x2), some (.int (nI i3)), none] [] (mrow (mrow (mrow M 1 q1) 25 q25) 27 q27) Q := by
  intro k0
  induction k0 with
  | zero =>
      intro i3 q1 q25 q27 hn hk hX
      refine G.sl [(.iload_n 3, 1, 3, 0, 0, 0), (.sipush 150, 3, 0, 0, 0, nI 150)] [] (pc2 := 12) (ls2 := [some (.ref 25), some (.ref 1), some (.int x2), some (.int (nI i3)), none]) (st2 := [.int (nI 150), .int (nI i3)]) (M2 := mrow (mrow (mrow M 1 q1) 25 q25) 27 q27) (Ps := []) (by decide +kernel) rfl rfl trivial ?_
      refine G.ic_ge (off := (53)) (tgt := 65) (by decide +kernel) rfl (fun _ => ?_) (fun h9 => absurd (nI_le (by omega) (by omega)) h9)
      refine G.loc (ls2 := [none, none, none, none, none]) (by simp [subL]) ?_
      simp only [l_readSum_st_8] at hX
      exact hX
  | succ k0 ih =>
      intro i3 q1 q25 q27 hn hk hX
      simp only [l_readSum_st_8_ok] at hk
      refine G.sl [(.iload_n 3, 1, 3, 0, 0, 0), (.sipush 150, 3, 0, 0, 0, nI 150)] [] (pc2 := 12) (ls2 := [some (.ref 25), some (.ref 1), some (.int x2), some (.int (nI i3)), none]) (st2 := [.int (nI 150), .int (nI i3)]) (M2 := mrow (mrow (mrow M 1 q1) 25 q25) 27 q27) (Ps := []) (by decide +kernel) rfl rfl trivial ?_
      refine G.ic_ge (off := (53)) (tgt := 65) (by decide +kernel) rfl (fun h9 => absurd h9 (nI_ge (by omega) (by omega))) (fun _ => ?_)
      refine G.sl [(.aload_n 1, 1, 1, 0, 0, 0)] [] (pc2 := 16) (ls2 := [some (.ref 25), some (.ref 1), some (.int x2), some (.int (nI i3)), none]) (st2 := [.ref 1]) (M2 := mrow (mrow (mrow M 1 q1) 25 q25) 27 q27) (Ps := []) (by decide +kernel) rfl rfl trivial ?_
      obtain ⟨k9, hk⟩ := hk
      rcases g10 : t_next q1 (M.1 2) with ⟨v11, r12⟩
      try simp only [g10] at hk
      have t13 : GM z mX6_next (d + 7) [.ref 1] (mrow (mrow (mrow M 1 q1) 25 q25) 27 q27) (fun rs => rs = .inl (some (.int v11), mrow (mrow (mrow M 1 r12) 25 q25) 27 q27)) := by
        have q9 := c_t_next_1 z (d + 7) (mrow (mrow (mrow M 1 q1) 25 q25) 27 q27) k9
        try simp only [mput, mrow_same, mrow_hit, mrow_miss, mrow_sw, idr_eq, ne_eq, Nat.reduceEqDiff, not_false_eq_true, Nat.reduceLT, reduceCtorEq, g10] at q9
        exact q9
      refine G.callV (as := []) (rest := []) (a := 1) oX6_next lk_EvenFinders_Law_35 (by decide +kernel) rfl rfl ⟨rfl, rfl⟩ (Nat.le_of_ble_eq_true rfl) rfl ⟨Nat.le_of_ble_eq_true rfl, Nat.le_of_ble_eq_true rfl⟩ t13 (fun v9 N9 h14 => ?_) (fun E9 N9 h14 => by cases h14)
      cases h14
      show G z mX3_readSum (d + 8) 0 0 19 [some (.ref 25), some (.ref 1), some (.int x2), some (.int (nI i3)), none] [.int v11] (mrow (mrow (mrow M 1 r12) 25 q25) 27 q27) Q
      refine G.sl [(.istore 4, 2, 4, 0, 0, 0), (.iload 4, 2, 4, 0, 0, 0), (.bipush 43, 2, 0, 0, 0, nI 43)] [] (pc2 := 25) (ls2 := [some (.ref 25), some (.ref 1), some (.int x2), some (.int (nI i3)), some (.int v11)]) (st2 := [.int (nI 43), .int v11]) (M2 := mrow (mrow (mrow M 1 r12) 25 q25) 27 q27) (Ps := []) (by decide +kernel) rfl rfl trivial ?_
      refine G.ic_eq (off := (11)) (tgt := 36) (by decide +kernel) rfl (fun c15 => ?_) (fun c15 => ?_)
      · skip
        rw [if_pos c15] at hk
        refine G.sl [(.aload_n 1, 1, 1, 0, 0, 0), (.iload 4, 2, 4, 0, 0, 0), (.i2c, 1, 0, 0, 0, 0)] [] (pc2 := 40) (ls2 := [some (.ref 25), some (.ref 1), some (.int x2), some (.int (nI i3)), some (.int v11)]) (st2 := [.int ((v11.toUInt32 % 65536).toInt32), .ref 1]) (M2 := mrow (mrow (mrow M 1 r12) 25 q25) 27 q27) (Ps := []) (by decide +kernel) rfl rfl trivial ?_
        obtain ⟨k16, hk⟩ := hk
        rcases g17 : t_needSign r12 (M.1 2) ((v11.toUInt32 % 65536).toInt32) with ⟨u18, r19⟩
        try simp only [g17] at hk
        have t20 : GM z mX6_needSign (d + 7) [.ref 1, .int ((v11.toUInt32 % 65536).toInt32)] (mrow (mrow (mrow M 1 r12) 25 q25) 27 q27) (fun rs => rs = .inl (none, mrow (mrow (mrow M 1 r19) 25 q25) 27 q27)) := by
          have q9 := c_t_needSign_1 z (d + 6) (mrow (mrow (mrow M 1 r12) 25 q25) 27 q27) ((v11.toUInt32 % 65536).toInt32) k16
          try simp only [mput, mrow_same, mrow_hit, mrow_miss, mrow_sw, idr_eq, ne_eq, Nat.reduceEqDiff, not_false_eq_true, Nat.reduceLT, reduceCtorEq, g17] at q9
          exact q9
        refine G.callV (as := [.int ((v11.toUInt32 % 65536).toInt32)]) (rest := []) (a := 1) oX6_needSign lk_EvenFinders_Law_51 (by decide +kernel) rfl rfl ⟨rfl, rfl⟩ (Nat.le_of_ble_eq_true rfl) rfl ⟨Nat.le_of_ble_eq_true rfl, Nat.le_of_ble_eq_true rfl⟩ t20 (fun v9 N9 h21 => ?_) (fun E9 N9 h21 => by cases h21)
        cases h21
        show G z mX3_readSum (d + 8) 0 0 43 [some (.ref 25), some (.ref 1), some (.int x2), some (.int (nI i3)), some (.int v11)] [] (mrow (mrow (mrow M 1 r19) 25 q25) 27 q27) Q
        refine G.sl [(.aload_n 0, 1, 0, 0, 0, 0), (.aload_n 1, 1, 1, 0, 0, 0), (.iload_n 2, 1, 2, 0, 0, 0)] [] (pc2 := 46) (ls2 := [some (.ref 25), some (.ref 1), some (.int x2), some (.int (nI i3)), some (.int v11)]) (st2 := [.int x2, .ref 1, .ref 25]) (M2 := mrow (mrow (mrow M 1 r19) 25 q25) 27 q27) (Ps := []) (by decide +kernel) rfl rfl trivial ?_
        obtain ⟨k22, hk⟩ := hk
        rcases g23 : l_readProduct fz r19 (M.1 2) q25 q27 x2 with ⟨u24, r25, r26, r27⟩
        try simp only [g23] at hk
        have t28 : GM z mX3_readProduct (d + 7) [.ref 25, .ref 1, .int x2] (mrow (mrow (mrow M 1 r19) 25 q25) 27 q27) (fun rs => rs = .inl (none, mrow (mrow (mrow M 1 r25) 25 r26) 27 r27)) := by
          have q9 := c_l_readProduct_25_1 z d (mrow (mrow (mrow M 1 r19) 25 q25) 27 q27) x2 fz gz Hz k22
          try simp only [mput, mrow_same, mrow_hit, mrow_miss, mrow_sw, idr_eq, ne_eq, Nat.reduceEqDiff, not_false_eq_true, Nat.reduceLT, reduceCtorEq, g23] at q9
          exact q9
        refine G.callV (as := [.ref 1, .int x2]) (rest := []) (a := 25) oX3_readProduct lk_EvenFinders_Law_48 (by decide +kernel) rfl rfl ⟨rfl, rfl⟩ (Nat.le_of_ble_eq_true rfl) rfl ⟨Nat.le_of_ble_eq_true rfl, Nat.le_of_ble_eq_true rfl⟩ t28 (fun v9 N9 h29 => ?_) (fun E9 N9 h29 => by cases h29)
        cases h29
        show G z mX3_readSum (d + 8) 0 0 49 [some (.ref 25), some (.ref 1), some (.int x2), some (.int (nI i3)), some (.int v11)] [] (mrow (mrow (mrow M 1 r25) 25 r26) 27 r27) Q
        refine G.sl [(.aload_n 0, 1, 0, 0, 0, 0), (.sipush 2000, 3, 0, 0, 0, nI 2000), (.iload 4, 2, 4, 0, 0, 0), (.iadd, 1, 0, 0, 0, 0)] [] (pc2 := 56) (ls2 := [some (.ref 25), some (.ref 1), some (.int x2), some (.int (nI i3)), some (.int v11)]) (st2 := [.int ((nI 2000) + v11), .ref 25]) (M2 := mrow (mrow (mrow M 1 r25) 25 r26) 27 r27) (Ps := []) (by decide +kernel) rfl rfl trivial ?_
        obtain ⟨k30, hk⟩ := hk
        rcases g31 : l_put r26 r27 ((nI 2000) + v11) with ⟨u32, r33, r34⟩
        try simp only [g31] at hk
        have t35 : GM z mX3_put (d + 7) [.ref 25, .int ((nI 2000) + v11)] (mrow (mrow (mrow M 1 r25) 25 r26) 27 r27) (fun rs => rs = .inl (none, mrow (mrow (mrow M 1 r25) 25 r33) 27 r34)) := by
          have q9 := c_l_put_25 z (d + 7) (mrow (mrow (mrow M 1 r25) 25 r26) 27 r27) ((nI 2000) + v11) k30
          try simp only [mput, mrow_same, mrow_hit, mrow_miss, mrow_sw, idr_eq, ne_eq, Nat.reduceEqDiff, not_false_eq_true, Nat.reduceLT, reduceCtorEq, g31] at q9
          exact q9
        refine G.callV (as := [.int ((nI 2000) + v11)]) (rest := []) (a := 25) oX3_put lk_EvenFinders_Law_55 (by decide +kernel) rfl rfl ⟨rfl, rfl⟩ (Nat.le_of_ble_eq_true rfl) rfl ⟨Nat.le_of_ble_eq_true rfl, Nat.le_of_ble_eq_true rfl⟩ t35 (fun v9 N9 h36 => ?_) (fun E9 N9 h36 => by cases h36)
        cases h36
        show G z mX3_readSum (d + 8) 0 0 59 [some (.ref 25), some (.ref 1), some (.int x2), some (.int (nI i3)), some (.int v11)] [] (mrow (mrow (mrow M 1 r25) 25 r33) 27 r34) Q
        refine G.sl [(.iinc 3 1, 3, 3, 0, 0, nI 1), (.goto (-54), 3, 8, 0, 0, 0)] [] (pc2 := 8) (ls2 := [some (.ref 25), some (.ref 1), some (.int x2), some (.int ((nI i3) + nI 1)), some (.int v11)]) (st2 := []) (M2 := mrow (mrow (mrow M 1 r25) 25 r33) 27 r34) (Ps := []) (by decide +kernel) rfl rfl trivial ?_
        refine G.loc (ls2 := [some (.ref 25), some (.ref 1), some (.int x2), some (.int ((nI i3) + nI 1)), none]) (by simp [subL]) ?_
        rw [nI_add i3 1]
        simp only [l_readSum_st_8, g10, if_pos c15, g17, g23, g31] at hX
        exact ih (i3 + 1) r25 r33 r34 (by omega) hk hX
      · skip
        rw [if_neg c15] at hk
        refine G.sl [(.iload 4, 2, 4, 0, 0, 0), (.bipush 45, 2, 0, 0, 0, nI 45)] [] (pc2 := 32) (ls2 := [some (.ref 25), some (.ref 1), some (.int x2), some (.int (nI i3)), some (.int v11)]) (st2 := [.int (nI 45), .int v11]) (M2 := mrow (mrow (mrow M 1 r12) 25 q25) 27 q27) (Ps := []) (by decide +kernel) rfl rfl trivial ?_
        refine G.ic_eq (off := (4)) (tgt := 36) (by decide +kernel) rfl (fun c37 => ?_) (fun c37 => ?_)
        · skip
          rw [if_pos c37] at hk
          refine G.sl [(.aload_n 1, 1, 1, 0, 0, 0), (.iload 4, 2, 4, 0, 0, 0), (.i2c, 1, 0, 0, 0, 0)] [] (pc2 := 40) (ls2 := [some (.ref 25), some (.ref 1), some (.int x2), some (.int (nI i3)), some (.int v11)]) (st2 := [.int ((v11.toUInt32 % 65536).toInt32), .ref 1]) (M2 := mrow (mrow (mrow M 1 r12) 25 q25) 27 q27) (Ps := []) (by decide +kernel) rfl rfl trivial ?_
          obtain ⟨k38, hk⟩ := hk
          rcases g39 : t_needSign r12 (M.1 2) ((v11.toUInt32 % 65536).toInt32) with ⟨u40, r41⟩
          try simp only [g39] at hk
          have t42 : GM z mX6_needSign (d + 7) [.ref 1, .int ((v11.toUInt32 % 65536).toInt32)] (mrow (mrow (mrow M 1 r12) 25 q25) 27 q27) (fun rs => rs = .inl (none, mrow (mrow (mrow M 1 r41) 25 q25) 27 q27)) := by
            have q9 := c_t_needSign_1 z (d + 6) (mrow (mrow (mrow M 1 r12) 25 q25) 27 q27) ((v11.toUInt32 % 65536).toInt32) k38
            try simp only [mput, mrow_same, mrow_hit, mrow_miss, mrow_sw, idr_eq, ne_eq, Nat.reduceEqDiff, not_false_eq_true, Nat.reduceLT, reduceCtorEq, g39] at q9
            exact q9
          refine G.callV (as := [.int ((v11.toUInt32 % 65536).toInt32)]) (rest := []) (a := 1) oX6_needSign lk_EvenFinders_Law_51 (by decide +kernel) rfl rfl ⟨rfl, rfl⟩ (Nat.le_of_ble_eq_true rfl) rfl ⟨Nat.le_of_ble_eq_true rfl, Nat.le_of_ble_eq_true rfl⟩ t42 (fun v9 N9 h43 => ?_) (fun E9 N9 h43 => by cases h43)
          cases h43
          show G z mX3_readSum (d + 8) 0 0 43 [some (.ref 25), some (.ref 1), some (.int x2), some (.int (nI i3)), some (.int v11)] [] (mrow (mrow (mrow M 1 r41) 25 q25) 27 q27) Q
          refine G.sl [(.aload_n 0, 1, 0, 0, 0, 0), (.aload_n 1, 1, 1, 0, 0, 0), (.iload_n 2, 1, 2, 0, 0, 0)] [] (pc2 := 46) (ls2 := [some (.ref 25), some (.ref 1), some (.int x2), some (.int (nI i3)), some (.int v11)]) (st2 := [.int x2, .ref 1, .ref 25]) (M2 := mrow (mrow (mrow M 1 r41) 25 q25) 27 q27) (Ps := []) (by decide +kernel) rfl rfl trivial ?_
          obtain ⟨k44, hk⟩ := hk
          rcases g45 : l_readProduct fz r41 (M.1 2) q25 q27 x2 with ⟨u46, r47, r48, r49⟩
          try simp only [g45] at hk
          have t50 : GM z mX3_readProduct (d + 7) [.ref 25, .ref 1, .int x2] (mrow (mrow (mrow M 1 r41) 25 q25) 27 q27) (fun rs => rs = .inl (none, mrow (mrow (mrow M 1 r47) 25 r48) 27 r49)) := by
            have q9 := c_l_readProduct_25_1 z d (mrow (mrow (mrow M 1 r41) 25 q25) 27 q27) x2 fz gz Hz k44
            try simp only [mput, mrow_same, mrow_hit, mrow_miss, mrow_sw, idr_eq, ne_eq, Nat.reduceEqDiff, not_false_eq_true, Nat.reduceLT, reduceCtorEq, g45] at q9
            exact q9
          refine G.callV (as := [.ref 1, .int x2]) (rest := []) (a := 25) oX3_readProduct lk_EvenFinders_Law_48 (by decide +kernel) rfl rfl ⟨rfl, rfl⟩ (Nat.le_of_ble_eq_true rfl) rfl ⟨Nat.le_of_ble_eq_true rfl, Nat.le_of_ble_eq_true rfl⟩ t50 (fun v9 N9 h51 => ?_) (fun E9 N9 h51 => by cases h51)
          cases h51
          show G z mX3_readSum (d + 8) 0 0 49 [some (.ref 25), some (.ref 1), some (.int x2), some (.int (nI i3)), some (.int v11)] [] (mrow (mrow (mrow M 1 r47) 25 r48) 27 r49) Q
          refine G.sl [(.aload_n 0, 1, 0, 0, 0, 0), (.sipush 2000, 3, 0, 0, 0, nI 2000), (.iload 4, 2, 4, 0, 0, 0), (.iadd, 1, 0, 0, 0, 0)] [] (pc2 := 56) (ls2 := [some (.ref 25), some (.ref 1), some (.int x2), some (.int (nI i3)), some (.int v11)]) (st2 := [.int ((nI 2000) + v11), .ref 25]) (M2 := mrow (mrow (mrow M 1 r47) 25 r48) 27 r49) (Ps := []) (by decide +kernel) rfl rfl trivial ?_
          obtain ⟨k52, hk⟩ := hk
          rcases g53 : l_put r48 r49 ((nI 2000) + v11) with ⟨u54, r55, r56⟩
          try simp only [g53] at hk
          have t57 : GM z mX3_put (d + 7) [.ref 25, .int ((nI 2000) + v11)] (mrow (mrow (mrow M 1 r47) 25 r48) 27 r49) (fun rs => rs = .inl (none, mrow (mrow (mrow M 1 r47) 25 r55) 27 r56)) := by
            have q9 := c_l_put_25 z (d + 7) (mrow (mrow (mrow M 1 r47) 25 r48) 27 r49) ((nI 2000) + v11) k52
            try simp only [mput, mrow_same, mrow_hit, mrow_miss, mrow_sw, idr_eq, ne_eq, Nat.reduceEqDiff, not_false_eq_true, Nat.reduceLT, reduceCtorEq, g53] at q9
            exact q9
          refine G.callV (as := [.int ((nI 2000) + v11)]) (rest := []) (a := 25) oX3_put lk_EvenFinders_Law_55 (by decide +kernel) rfl rfl ⟨rfl, rfl⟩ (Nat.le_of_ble_eq_true rfl) rfl ⟨Nat.le_of_ble_eq_true rfl, Nat.le_of_ble_eq_true rfl⟩ t57 (fun v9 N9 h58 => ?_) (fun E9 N9 h58 => by cases h58)
          cases h58
          show G z mX3_readSum (d + 8) 0 0 59 [some (.ref 25), some (.ref 1), some (.int x2), some (.int (nI i3)), some (.int v11)] [] (mrow (mrow (mrow M 1 r47) 25 r55) 27 r56) Q
          refine G.sl [(.iinc 3 1, 3, 3, 0, 0, nI 1), (.goto (-54), 3, 8, 0, 0, 0)] [] (pc2 := 8) (ls2 := [some (.ref 25), some (.ref 1), some (.int x2), some (.int ((nI i3) + nI 1)), some (.int v11)]) (st2 := []) (M2 := mrow (mrow (mrow M 1 r47) 25 r55) 27 r56) (Ps := []) (by decide +kernel) rfl rfl trivial ?_
          refine G.loc (ls2 := [some (.ref 25), some (.ref 1), some (.int x2), some (.int ((nI i3) + nI 1)), none]) (by simp [subL]) ?_
          rw [nI_add i3 1]
          simp only [l_readSum_st_8, g10, if_neg c15, if_pos c37, g39, g45, g53] at hX
          exact ih (i3 + 1) r47 r55 r56 (by omega) hk hX
        · skip
          rw [if_neg c37] at hk
          exact G.retv (by decide +kernel) rfl (Nat.le_of_ble_eq_true rfl) (Nat.le_of_ble_eq_true rfl) ((by simp only [l_readSum_st_8, g10, if_neg c15, if_neg c37] at hX; exact hX))
set_option maxHeartbeats 4000000 in
set_option maxRecDepth 3000 in
theorem c_l_readSum_25_1_st (z : Zp) (d : Nat) (M : Mem) (x2 : Int32) (fz : (Nat → Int32) → (Nat → Int32) → (Nat → Int32) → (Nat → Int32) → Int32 → Int32 × (Nat → Int32) × (Nat → Int32) × (Nat → Int32)) (gz : (Nat → Int32) → (Nat → Int32) → (Nat → Int32) → (Nat → Int32) → Int32 → Prop) (Hz : ∀ (j : Nat) (M : Mem) (x2 : Int32), gz (M.1 1) (M.1 2) (M.1 25) (M.1 27) x2 → GM z mX3_readSum (d + j) [.ref 25, .ref 1, .int x2] M (fun rs => rs = .inl (none, mrow (mrow (mrow M 1 ((fz (M.1 1) (M.1 2) (M.1 25) (M.1 27) x2).2.1)) 25 ((fz (M.1 1) (M.1 2) (M.1 25) (M.1 27) x2).2.2.1)) 27 ((fz (M.1 1) (M.1 2) (M.1 25) (M.1 27) x2).2.2.2)))) (hk : l_readSum_st_ok fz gz (M.1 1) (M.1 2) (M.1 25) (M.1 27) x2) : GM z mX3_readSum (d + 8) [.ref 25, .ref 1, .int x2] M (fun rs => rs = .inl (none, mrow (mrow (mrow M 1 ((l_readSum_st fz (M.1 1) (M.1 2) (M.1 25) (M.1 27) x2).2.1)) 25 ((l_readSum_st fz (M.1 1) (M.1 2) (M.1 25) (M.1 27) x2).2.2.1)) 27 ((l_readSum_st fz (M.1 1) (M.1 2) (M.1 25) (M.1 27) x2).2.2.2))) := by
  simp only [l_readSum_st_ok] at hk
  refine GM.of oX3_readSum.1 (Nat.le_of_ble_eq_true rfl) ?_
  show G z mX3_readSum (d + 8) 0 0 0 [some (.ref 25), some (.ref 1), some (.int x2), none, none] [] M _
  obtain ⟨Q, hQ⟩ : ∃ Q : Rs → Prop, Q = (fun rs => rs = .inl (none, mrow (mrow (mrow M 1 ((l_readSum_st fz (M.1 1) (M.1 2) (M.1 25) (M.1 27) x2).2.1)) 25 ((l_readSum_st fz (M.1 1) (M.1 2) (M.1 25) (M.1 27) x2).2.2.1)) 27 ((l_readSum_st fz (M.1 1) (M.1 2) (M.1 25) (M.1 27) x2).2.2.2))) := ⟨_, rfl⟩
  rw [← hQ]
  refine G.sl [(.aload_n 0, 1, 0, 0, 0, 0), (.aload_n 1, 1, 1, 0, 0, 0), (.iload_n 2, 1, 2, 0, 0, 0)] [] (pc2 := 3) (ls2 := [some (.ref 25), some (.ref 1), some (.int x2), none, none]) (st2 := [.int x2, .ref 1, .ref 25]) (M2 := M) (Ps := []) (by decide +kernel) rfl rfl trivial ?_
  obtain ⟨k1, hk⟩ := hk
  rcases g2 : l_readProduct fz (M.1 1) (M.1 2) (M.1 25) (M.1 27) x2 with ⟨u3, r4, r5, r6⟩
  try simp only [g2] at hk
  have t7 : GM z mX3_readProduct (d + 7) [.ref 25, .ref 1, .int x2] M (fun rs => rs = .inl (none, mrow (mrow (mrow M 1 r4) 25 r5) 27 r6)) := by
    have q9 := c_l_readProduct_25_1 z d M x2 fz gz Hz k1
    try simp only [mput, mrow_same, mrow_hit, mrow_miss, mrow_sw, idr_eq, ne_eq, Nat.reduceEqDiff, not_false_eq_true, Nat.reduceLT, reduceCtorEq, g2] at q9
    exact q9
  refine G.callV (as := [.ref 1, .int x2]) (rest := []) (a := 25) oX3_readProduct lk_EvenFinders_Law_48 (by decide +kernel) rfl rfl ⟨rfl, rfl⟩ (Nat.le_of_ble_eq_true rfl) rfl ⟨Nat.le_of_ble_eq_true rfl, Nat.le_of_ble_eq_true rfl⟩ t7 (fun v9 N9 h8 => ?_) (fun E9 N9 h8 => by cases h8)
  cases h8
  show G z mX3_readSum (d + 8) 0 0 6 [some (.ref 25), some (.ref 1), some (.int x2), none, none] [] (mrow (mrow (mrow M 1 r4) 25 r5) 27 r6) Q
  refine G.sl [(.iconst 0, 1, 0, 0, 0, nI 0), (.istore_n 3, 1, 3, 0, 0, 0)] [] (pc2 := 8) (ls2 := [some (.ref 25), some (.ref 1), some (.int x2), some (.int (nI 0)), none]) (st2 := []) (M2 := mrow (mrow (mrow M 1 r4) 25 r5) 27 r6) (Ps := []) (by decide +kernel) rfl rfl trivial ?_
  obtain ⟨k59, hk⟩ := hk
  refine G.mem (M' := mrow (mrow (mrow (mrow (mrow (mrow M 1 r4) 25 r5) 27 r6) 1 ((mrow (mrow (mrow M 1 r4) 25 r5) 27 r6).1 1)) 25 ((mrow (mrow (mrow M 1 r4) 25 r5) 27 r6).1 25)) 27 ((mrow (mrow (mrow M 1 r4) 25 r5) 27 r6).1 27)) (by simp only [mrow_self]) ?_
  refine lp_l_readSum_25_1_st_8 z d (mrow (mrow (mrow M 1 r4) 25 r5) 27 r6) Q (cN 150) x2 fz gz Hz (cN_eq 150) (cN 150) 0 ((mrow (mrow (mrow M 1 r4) 25 r5) 27 r6).1 1) ((mrow (mrow (mrow M 1 r4) 25 r5) 27 r6).1 25) ((mrow (mrow (mrow M 1 r4) 25 r5) 27 r6).1 27) (Nat.zero_add _) (by first | (simp only [mput, mrow_same, mrow_hit, mrow_miss, mrow_sw, idr_eq, ne_eq, Nat.reduceEqDiff, not_false_eq_true, Nat.reduceLT, reduceCtorEq]; exact k59) | exact k59) ?_
  try simp only [mput, mrow_same, mrow_hit, mrow_miss, mrow_sw, idr_eq, ne_eq, Nat.reduceEqDiff, not_false_eq_true, Nat.reduceLT, reduceCtorEq]
  rcases g60 : l_readSum_st_8 fz (M.1 2) x2 (cN 150) 0 r4 r5 r6 with ⟨v64, r65, r66, r67⟩ | ⟨r61, r62, r63⟩
  · skip
    show Q (.inl (none, mrow (mrow (mrow M 1 r65) 25 r66) 27 r67))
    rw [hQ]
    simp only [l_readSum_st, g2, g60, mrow_self]
  · skip
    show G z mX3_readSum (d + 8) 0 0 65 [none, none, none, none, none] [] (mrow (mrow (mrow M 1 r61) 25 r62) 27 r63) Q
    exact G.retv (by decide +kernel) rfl (Nat.le_of_ble_eq_true rfl) (Nat.le_of_ble_eq_true rfl) ((by rw [hQ]; simp only [l_readSum_st, g2, g60, mrow_self]))
theorem c_l_readSum_25_1_rec (z : Zp)  : ∀ (k0 d : Nat) (M : Mem) (x2 : Int32), l_readSum_rec_ok k0 (M.1 1) (M.1 2) (M.1 25) (M.1 27) x2 → GM z mX3_readSum (d + 8 * k0) [.ref 25, .ref 1, .int x2] M (fun rs => rs = .inl (none, mrow (mrow (mrow M 1 ((l_readSum_rec k0 (M.1 1) (M.1 2) (M.1 25) (M.1 27) x2).2.1)) 25 ((l_readSum_rec k0 (M.1 1) (M.1 2) (M.1 25) (M.1 27) x2).2.2.1)) 27 ((l_readSum_rec k0 (M.1 1) (M.1 2) (M.1 25) (M.1 27) x2).2.2.2))) := by
  intro k0
  induction k0 with
  | zero =>
    intro d M x2  hk
    exact (by simpa only [l_readSum_rec_ok] using hk : False).elim
  | succ k0 ih =>
    intro d M x2  hk
    have e9 : d + 8 * (k0 + 1) = (d + 8 * k0) + 8 := by omega
    rw [e9]
    simp only [l_readSum_rec_ok] at hk
    have q9 := c_l_readSum_25_1_st z (d + 8 * k0) M x2  (l_readSum_rec k0) (l_readSum_rec_ok k0) (fun j M x2  hk => by
      have q9 := ih (d + j) M x2  hk
      rw [show d + j + 8 * k0 = d + 8 * k0 + j by omega] at q9
      exact q9)  hk
    simp only [l_readSum_rec]
    exact q9
theorem c_l_readSum_25_1 (z : Zp) (d : Nat) (M : Mem) (x2 : Int32)  (hk : l_readSum_ok (M.1 1) (M.1 2) (M.1 25) (M.1 27) x2) : GM z mX3_readSum (d + 80) [.ref 25, .ref 1, .int x2] M (fun rs => rs = .inl (none, mrow (mrow (mrow M 1 ((l_readSum (M.1 1) (M.1 2) (M.1 25) (M.1 27) x2).2.1)) 25 ((l_readSum (M.1 1) (M.1 2) (M.1 25) (M.1 27) x2).2.2.1)) 27 ((l_readSum (M.1 1) (M.1 2) (M.1 25) (M.1 27) x2).2.2.2))) := by
  have q9 := c_l_readSum_25_1_rec z  (cN 10) d M x2  hk
  rw [show d + 8 * cN 10 = d + 80 from by rw [cN_eq]] at q9
  exact q9
set_option maxHeartbeats 4000000 in
set_option maxRecDepth 3000 in
theorem c_l_readFrom_25_1 (z : Zp) (d : Nat) (M : Mem) (hk : l_readFrom_ok (M.1 1) (M.1 2) (M.1 25) (M.1 27)) : GM z mX3_readFrom (d + 81) [.ref 25, .ref 1] M (fun rs => rs = .inl (none, mrow (mrow (mrow M 1 ((l_readFrom (M.1 1) (M.1 2) (M.1 25) (M.1 27)).2.1)) 25 ((l_readFrom (M.1 1) (M.1 2) (M.1 25) (M.1 27)).2.2.1)) 27 ((l_readFrom (M.1 1) (M.1 2) (M.1 25) (M.1 27)).2.2.2))) := by
  simp only [l_readFrom_ok] at hk
  refine GM.of oX3_readFrom.1 (Nat.le_of_ble_eq_true rfl) ?_
  show G z mX3_readFrom (d + 81) 0 0 0 [some (.ref 25), some (.ref 1)] [] M _
  obtain ⟨Q, hQ⟩ : ∃ Q : Rs → Prop, Q = (fun rs => rs = .inl (none, mrow (mrow (mrow M 1 ((l_readFrom (M.1 1) (M.1 2) (M.1 25) (M.1 27)).2.1)) 25 ((l_readFrom (M.1 1) (M.1 2) (M.1 25) (M.1 27)).2.2.1)) 27 ((l_readFrom (M.1 1) (M.1 2) (M.1 25) (M.1 27)).2.2.2))) := ⟨_, rfl⟩
  rw [← hQ]
  refine G.sl [(.aload_n 0, 1, 0, 0, 0, 0), (.iconst 0, 1, 0, 0, 0, nI 0), (.putfield 21, 3, 3, 3, 58, 0), (.aload_n 0, 1, 0, 0, 0, 0), (.aload_n 1, 1, 1, 0, 0, 0), (.iconst 0, 1, 0, 0, 0, nI 0)] [] (pc2 := 8) (ls2 := [some (.ref 25), some (.ref 1)]) (st2 := [.int (nI 0), .ref 1, .ref 25]) (M2 := mput M 25 3 (nI 0)) (Ps := []) (by decide +kernel) rfl rfl trivial ?_
  refine G.mem (M' := mrow M 25 (upd (M.1 25) 3 (nI 0))) (by first | rfl | (simp only [mput, mrow_same, mrow_hit, mrow_miss, mrow_sw, idr_eq, ne_eq, Nat.reduceEqDiff, not_false_eq_true, Nat.reduceLT, reduceCtorEq]; done)) ?_
  obtain ⟨k1, hk⟩ := hk
  rcases g2 : l_readSum (M.1 1) (M.1 2) (upd (M.1 25) 3 (nI 0)) (M.1 27) (nI 0) with ⟨u3, r4, r5, r6⟩
  try simp only [g2] at hk
  have t7 : GM z mX3_readSum (d + 80) [.ref 25, .ref 1, .int (nI 0)] (mrow M 25 (upd (M.1 25) 3 (nI 0))) (fun rs => rs = .inl (none, mrow (mrow (mrow M 1 r4) 25 r5) 27 r6)) := by
    have q9 := c_l_readSum_25_1 z d (mrow M 25 (upd (M.1 25) 3 (nI 0))) (nI 0) k1
    try simp only [mput, mrow_same, mrow_hit, mrow_miss, mrow_sw, idr_eq, ne_eq, Nat.reduceEqDiff, not_false_eq_true, Nat.reduceLT, reduceCtorEq, g2] at q9
    exact q9
  refine G.callV (as := [.ref 1, .int (nI 0)]) (rest := []) (a := 25) oX3_readSum lk_EvenFinders_Law_31 (by decide +kernel) rfl rfl ⟨rfl, rfl⟩ (Nat.le_of_ble_eq_true rfl) rfl ⟨Nat.le_of_ble_eq_true rfl, Nat.le_of_ble_eq_true rfl⟩ t7 (fun v9 N9 h8 => ?_) (fun E9 N9 h8 => by cases h8)
  cases h8
  show G z mX3_readFrom (d + 81) 0 0 11 [some (.ref 25), some (.ref 1)] [] (mrow (mrow (mrow M 1 r4) 25 r5) 27 r6) Q
  refine G.sl [(.aload_n 1, 1, 1, 0, 0, 0)] [] (pc2 := 12) (ls2 := [some (.ref 25), some (.ref 1)]) (st2 := [.ref 1]) (M2 := mrow (mrow (mrow M 1 r4) 25 r5) 27 r6) (Ps := []) (by decide +kernel) rfl rfl trivial ?_
  obtain ⟨k9, hk⟩ := hk
  rcases g10 : t_next r4 (M.1 2) with ⟨v11, r12⟩
  have t13 : GM z mX6_next (d + 80) [.ref 1] (mrow (mrow (mrow M 1 r4) 25 r5) 27 r6) (fun rs => rs = .inl (some (.int v11), mrow (mrow (mrow M 1 r12) 25 r5) 27 r6)) := by
    have q9 := c_t_next_1 z (d + 80) (mrow (mrow (mrow M 1 r4) 25 r5) 27 r6) k9
    try simp only [mput, mrow_same, mrow_hit, mrow_miss, mrow_sw, idr_eq, ne_eq, Nat.reduceEqDiff, not_false_eq_true, Nat.reduceLT, reduceCtorEq, g10] at q9
    exact q9
  refine G.callV (as := []) (rest := []) (a := 1) oX6_next lk_EvenFinders_Law_35 (by decide +kernel) rfl rfl ⟨rfl, rfl⟩ (Nat.le_of_ble_eq_true rfl) rfl ⟨Nat.le_of_ble_eq_true rfl, Nat.le_of_ble_eq_true rfl⟩ t13 (fun v9 N9 h14 => ?_) (fun E9 N9 h14 => by cases h14)
  cases h14
  show G z mX3_readFrom (d + 81) 0 0 15 [some (.ref 25), some (.ref 1)] [.int v11] (mrow (mrow (mrow M 1 r12) 25 r5) 27 r6) Q
  refine G.sl [(.iconst (-1), 1, 0, 0, 0, (-1))] [] (pc2 := 16) (ls2 := [some (.ref 25), some (.ref 1)]) (st2 := [.int ((-1)), .int v11]) (M2 := mrow (mrow (mrow M 1 r12) 25 r5) 27 r6) (Ps := []) (by decide +kernel) rfl rfl trivial ?_
  refine G.ic_eq (off := (12)) (tgt := 28) (by decide +kernel) rfl (fun c15 => ?_) (fun c15 => ?_)
  · skip
    exact G.retv (by decide +kernel) rfl (Nat.le_of_ble_eq_true rfl) (Nat.le_of_ble_eq_true rfl) ((by rw [hQ]; simp only [l_readFrom, g2, g10, if_pos c15, mrow_self]))
  · skip
    refine G.sl [(.aload_n 1, 1, 1, 0, 0, 0), (.iconst 1, 1, 0, 0, 0, nI 1), (.aload_n 1, 1, 1, 0, 0, 0), (.getfield 41, 3, 5, 4, 10, 0)] [] (pc2 := 25) (ls2 := [some (.ref 25), some (.ref 1)]) (st2 := [.int (r12 4), .int (nI 1), .ref 1]) (M2 := mrow (mrow (mrow M 1 r12) 25 r5) 27 r6) (Ps := []) (by decide +kernel) rfl rfl trivial ?_
    rcases g17 : t_fail r12 (nI 1) (r12 4) with ⟨u18, r19⟩
    have t20 : GM z mX6_fail (d + 80) [.ref 1, .int (nI 1), .int (r12 4)] (mrow (mrow (mrow M 1 r12) 25 r5) 27 r6) (fun rs => rs = .inl (none, mrow (mrow (mrow M 1 r19) 25 r5) 27 r6)) := by
      have q9 := c_t_fail_1 z (d + 80) (mrow (mrow (mrow M 1 r12) 25 r5) 27 r6) (nI 1) (r12 4)
      try simp only [mput, mrow_same, mrow_hit, mrow_miss, mrow_sw, idr_eq, ne_eq, Nat.reduceEqDiff, not_false_eq_true, Nat.reduceLT, reduceCtorEq, g17] at q9
      exact q9
    refine G.callV (as := [.int (nI 1), .int (r12 4)]) (rest := []) (a := 1) oX6_fail lk_EvenFinders_Law_44 (by decide +kernel) rfl rfl ⟨rfl, rfl⟩ (Nat.le_of_ble_eq_true rfl) rfl ⟨Nat.le_of_ble_eq_true rfl, Nat.le_of_ble_eq_true rfl⟩ t20 (fun v9 N9 h21 => ?_) (fun E9 N9 h21 => by cases h21)
    cases h21
    show G z mX3_readFrom (d + 81) 0 0 28 [some (.ref 25), some (.ref 1)] [] (mrow (mrow (mrow M 1 r19) 25 r5) 27 r6) Q
    exact G.retv (by decide +kernel) rfl (Nat.le_of_ble_eq_true rfl) (Nat.le_of_ble_eq_true rfl) ((by rw [hQ]; simp only [l_readFrom, g2, g10, if_neg c15, g17, mrow_self]))
set_option maxHeartbeats 4000000 in
set_option maxRecDepth 3000 in
theorem lp_t_word_s3_1_19 (z : Zp) (d : Nat) (M : Mem) (Q : Rs → Prop) : ∀ (k0 : Nat) (s2 : Int32), t_word_s3_19_ok (M.1 1) (M.1 2) k0 s2 → (match t_word_s3_19 (M.1 1) (M.1 2) k0 s2 with | s2' => G z mX6_word (d + 5) 0 0 55 [some (.ref 1), some (.ref 1003), some (.int (s2')), none] [] M Q) → G z mX6_word (d + 5) 0 0 19 [some (.ref 1), some (.ref 1003), some (.int s2), none] [] M Q := by
  intro k0
  induction k0 with
  | zero =>
      intro s2 hk hX
      exact (by simpa only [t_word_s3_19_ok] using hk : False).elim
  | succ k0 ih =>
      intro s2 hk hX
      simp only [t_word_s3_19_ok] at hk
      refine G.sl [(.iload_n 2, 1, 2, 0, 0, 0), (.aload_n 0, 1, 0, 0, 0, 0), (.getfield 31, 3, 5, 5, 12, 0)] [] (pc2 := 24) (ls2 := [some (.ref 1), some (.ref 1003), some (.int s2), none]) (st2 := [.int (M.1 1 5), .int s2]) (M2 := M) (Ps := []) (by decide +kernel) rfl rfl trivial ?_
      refine G.ic_ge (off := (31)) (tgt := 55) (by decide +kernel) rfl (fun c8 => ?_) (fun c8 => ?_)
      · skip
        rw [if_pos c8] at hk
        simp only [t_word_s3_19, if_pos c8] at hX
        exact hX
      · skip
        rw [if_neg c8] at hk
        obtain ⟨k9, k10, hk⟩ := hk
        refine G.sl [(.aload_n 0, 1, 0, 0, 0, 0), (.getfield 9, 3, 5, 0, 0, 0), (.iload_n 2, 1, 2, 0, 0, 0), (.iaload, 1, 0, 0, 0, 0), (.bipush 97, 2, 0, 0, 0, nI 97)] [ix s2] (pc2 := 35) (ls2 := [some (.ref 1), some (.ref 1003), some (.int s2), none]) (st2 := [.int (nI 97), .int (M.1 2 (ix s2))]) (M2 := M) (Ps := [s2 = nI (ix s2) ∧ (ix s2) < 600]) (by decide +kernel) rfl rfl ⟨⟨(ixE k9), k10⟩, trivial⟩ ?_
        refine G.ic_lt (off := (20)) (tgt := 55) (by decide +kernel) rfl (fun c11 => ?_) (fun c11 => ?_)
        · skip
          rw [if_pos c11] at hk
          simp only [t_word_s3_19, if_neg c8, if_pos c11] at hX
          exact hX
        · skip
          rw [if_neg c11] at hk
          refine G.sl [(.aload_n 0, 1, 0, 0, 0, 0), (.getfield 9, 3, 5, 0, 0, 0), (.iload_n 2, 1, 2, 0, 0, 0), (.iaload, 1, 0, 0, 0, 0), (.bipush 122, 2, 0, 0, 0, nI 122)] [ix s2] (pc2 := 46) (ls2 := [some (.ref 1), some (.ref 1003), some (.int s2), none]) (st2 := [.int (nI 122), .int (M.1 2 (ix s2))]) (M2 := M) (Ps := [s2 = nI (ix s2) ∧ (ix s2) < 600]) (by decide +kernel) rfl rfl ⟨⟨(ixE k9), k10⟩, trivial⟩ ?_
          refine G.ic_gt (off := (9)) (tgt := 55) (by decide +kernel) rfl (fun c12 => ?_) (fun c12 => ?_)
          · skip
            rw [if_pos c12] at hk
            simp only [t_word_s3_19, if_neg c8, if_neg c11, if_pos c12] at hX
            exact hX
          · skip
            rw [if_neg c12] at hk
            refine G.sl [(.iinc 2 1, 3, 2, 0, 0, nI 1), (.goto (-33), 3, 19, 0, 0, 0)] [] (pc2 := 19) (ls2 := [some (.ref 1), some (.ref 1003), some (.int (s2 + nI 1)), none]) (st2 := []) (M2 := M) (Ps := []) (by decide +kernel) rfl rfl trivial ?_
            simp only [t_word_s3_19, if_neg c8, if_neg c11, if_neg c12] at hX
            exact ih (s2 + nI 1) hk hX
set_option maxHeartbeats 4000000 in
set_option maxRecDepth 3000 in
theorem lp_t_indexIn_s3_1_14 (z : Zp) (d : Nat) (M : Mem) (Q : Rs → Prop) (nn : Nat) (x2 : Int32) (hnn : nn = 31) : ∀ (k0 : Nat) (i6 : Nat) (s3 : Int32) (s4 : Int32) (s5 : Int32), i6 + k0 = nn → t_indexIn_s3_14_ok (M.1 1) (M.1 2) x2 k0 i6 s3 s4 s5 → (match t_indexIn_s3_14 (M.1 1) (M.1 2) x2 k0 i6 s3 s4 s5 with | .inl v' => Q (.inl (some (.int v'), M)) | .inr (s3', s4', s5') => G z mX6_indexIn (d + 4) 0 0 105 [none, none, some (.int x2), some (.int (s3')), some (.int (s4')), some (.int (s5')), none, none] [] M Q) → G z mX6_indexIn (d + 4) 0 0 14 [some (.ref 1), some (.ref 1003), some (.int x2), some (.int s3), some (.int s4), some (.int s5), some (.int (nI i6)), none] [] M Q := by
  intro k0
  induction k0 with
  | zero =>
      intro i6 s3 s4 s5 hn hk hX
      refine G.sl [(.iload 6, 2, 6, 0, 0, 0), (.aload_n 1, 1, 1, 0, 0, 0)] [] (pc2 := 17) (ls2 := [some (.ref 1), some (.ref 1003), some (.int x2), some (.int s3), some (.int s4), some (.int s5), some (.int (nI i6)), none]) (st2 := [.ref 1003, .int (nI i6)]) (M2 := M) (Ps := []) (by decide +kernel) rfl rfl trivial ?_
      have t13 : GM z mJ0_length_8abf5 (d + 3) [.ref 1003] M (fun rs => rs = .inl (some (.int (nI 31)), M)) := c_slen z _ _ 3 (by decide)
      refine G.callT (as := []) (rest := [.int (nI i6)]) (i := 3) oJ0_length_8abf5 lk_EvenFinders_Tape_59 (by decide +kernel) rfl (by decide) rfl (Nat.le_of_ble_eq_true rfl) rfl ⟨Nat.le_of_ble_eq_true rfl, Nat.le_of_ble_eq_true rfl⟩ t13 (fun v9 N9 h14 => ?_) (fun E9 N9 h14 => by cases h14)
      cases h14
      show G z mX6_indexIn (d + 4) 0 0 20 [some (.ref 1), some (.ref 1003), some (.int x2), some (.int s3), some (.int s4), some (.int s5), some (.int (nI i6)), none] [.int (nI 31), .int (nI i6)] M Q
      refine G.ic_ge (off := (85)) (tgt := 105) (by decide +kernel) rfl (fun _ => ?_) (fun h9 => absurd (nI_le (by omega) (by omega)) h9)
      refine G.loc (ls2 := [none, none, some (.int x2), some (.int s3), some (.int s4), some (.int s5), none, none]) (by simp [subL]) ?_
      simp only [t_indexIn_s3_14] at hX
      exact hX
  | succ k0 ih =>
      intro i6 s3 s4 s5 hn hk hX
      simp only [t_indexIn_s3_14_ok] at hk
      refine G.sl [(.iload 6, 2, 6, 0, 0, 0), (.aload_n 1, 1, 1, 0, 0, 0)] [] (pc2 := 17) (ls2 := [some (.ref 1), some (.ref 1003), some (.int x2), some (.int s3), some (.int s4), some (.int s5), some (.int (nI i6)), none]) (st2 := [.ref 1003, .int (nI i6)]) (M2 := M) (Ps := []) (by decide +kernel) rfl rfl trivial ?_
      have t1 : GM z mJ0_length_8abf5 (d + 3) [.ref 1003] M (fun rs => rs = .inl (some (.int (nI 31)), M)) := c_slen z _ _ 3 (by decide)
      refine G.callT (as := []) (rest := [.int (nI i6)]) (i := 3) oJ0_length_8abf5 lk_EvenFinders_Tape_59 (by decide +kernel) rfl (by decide) rfl (Nat.le_of_ble_eq_true rfl) rfl ⟨Nat.le_of_ble_eq_true rfl, Nat.le_of_ble_eq_true rfl⟩ t1 (fun v9 N9 h2 => ?_) (fun E9 N9 h2 => by cases h2)
      cases h2
      show G z mX6_indexIn (d + 4) 0 0 20 [some (.ref 1), some (.ref 1003), some (.int x2), some (.int s3), some (.int s4), some (.int s5), some (.int (nI i6)), none] [.int (nI 31), .int (nI i6)] M Q
      refine G.ic_ge (off := (85)) (tgt := 105) (by decide +kernel) rfl (fun h9 => absurd h9 (nI_ge (by omega) (by omega))) (fun _ => ?_)
      refine G.sl [(.aload_n 1, 1, 1, 0, 0, 0), (.iload 6, 2, 6, 0, 0, 0)] [] (pc2 := 26) (ls2 := [some (.ref 1), some (.ref 1003), some (.int x2), some (.int s3), some (.int s4), some (.int s5), some (.int (nI i6)), none]) (st2 := [.int (nI i6), .ref 1003]) (M2 := M) (Ps := []) (by decide +kernel) rfl rfl trivial ?_
      have t3 : GM z mJ0_charAt_5068e (d + 3) [.ref 1003, .int (nI i6)] M (fun rs => rs = .inl (some (.int (sby 3 i6)), M)) := c_charAt z _ _ 3 i6 (by decide) (show i6 < 31 from (by omega))
      refine G.callT (as := [.int (nI i6)]) (rest := []) (i := 3) oJ0_charAt_5068e lk_EvenFinders_Tape_63 (by decide +kernel) rfl (by decide) rfl (Nat.le_of_ble_eq_true rfl) rfl ⟨Nat.le_of_ble_eq_true rfl, Nat.le_of_ble_eq_true rfl⟩ t3 (fun v9 N9 h4 => ?_) (fun E9 N9 h4 => by cases h4)
      cases h4
      show G z mX6_indexIn (d + 4) 0 0 29 [some (.ref 1), some (.ref 1003), some (.int x2), some (.int s3), some (.int s4), some (.int s5), some (.int (nI i6)), none] [.int (sby 3 i6)] M Q
      refine G.sl [(.istore 7, 2, 7, 0, 0, 0), (.iload 7, 2, 7, 0, 0, 0), (.bipush 32, 2, 0, 0, 0, nI 32)] [] (pc2 := 35) (ls2 := [some (.ref 1), some (.ref 1003), some (.int x2), some (.int s3), some (.int s4), some (.int s5), some (.int (nI i6)), some (.int (sby 3 i6))]) (st2 := [.int (nI 32), .int (sby 3 i6)]) (M2 := M) (Ps := []) (by decide +kernel) rfl rfl trivial ?_
      refine G.ic_eq (off := (39)) (tgt := 74) (by decide +kernel) rfl (fun c5 => ?_) (fun c5 => ?_)
      · skip
        rw [if_pos c5] at hk
        refine G.sl [(.iload 5, 2, 5, 0, 0, 0)] [] (pc2 := 76) (ls2 := [some (.ref 1), some (.ref 1003), some (.int x2), some (.int s3), some (.int s4), some (.int s5), some (.int (nI i6)), some (.int (sby 3 i6))]) (st2 := [.int s5]) (M2 := M) (Ps := []) (by decide +kernel) rfl rfl trivial ?_
        refine G.if_eq (off := (11)) (tgt := 87) (by decide +kernel) rfl (fun c6 => ?_) (fun c6 => ?_)
        · skip
          rw [if_pos c6] at hk
          refine G.sl [(.iinc 3 1, 3, 3, 0, 0, nI 1), (.aload_n 0, 1, 0, 0, 0, 0), (.getfield 34, 3, 5, 6, 13, 0), (.istore 4, 2, 4, 0, 0, 0), (.iconst 1, 1, 0, 0, 0, nI 1), (.istore 5, 2, 5, 0, 0, 0), (.iinc 6 1, 3, 6, 0, 0, nI 1), (.goto (-88), 3, 14, 0, 0, 0)] [] (pc2 := 14) (ls2 := [some (.ref 1), some (.ref 1003), some (.int x2), some (.int (s3 + nI 1)), some (.int (M.1 1 6)), some (.int (nI 1)), some (.int ((nI i6) + nI 1)), some (.int (sby 3 i6))]) (st2 := []) (M2 := M) (Ps := []) (by decide +kernel) rfl rfl trivial ?_
          refine G.loc (ls2 := [some (.ref 1), some (.ref 1003), some (.int x2), some (.int (s3 + nI 1)), some (.int (M.1 1 6)), some (.int (nI 1)), some (.int ((nI i6) + nI 1)), none]) (by simp [subL]) ?_
          rw [nI_add i6 1]
          simp only [t_indexIn_s3_14, if_pos c5, if_pos c6] at hX
          exact ih (i6 + 1) (s3 + nI 1) (M.1 1 6) (nI 1) (by omega) hk hX
        · skip
          rw [if_neg c6] at hk
          refine G.sl [(.iload 4, 2, 4, 0, 0, 0), (.iload_n 2, 1, 2, 0, 0, 0)] [] (pc2 := 82) (ls2 := [some (.ref 1), some (.ref 1003), some (.int x2), some (.int s3), some (.int s4), some (.int s5), some (.int (nI i6)), some (.int (sby 3 i6))]) (st2 := [.int x2, .int s4]) (M2 := M) (Ps := []) (by decide +kernel) rfl rfl trivial ?_
          refine G.ic_ne (off := (5)) (tgt := 87) (by decide +kernel) rfl (fun c7 => ?_) (fun c7 => ?_)
          · skip
            rw [if_neg c7] at hk
            refine G.sl [(.iinc 3 1, 3, 3, 0, 0, nI 1), (.aload_n 0, 1, 0, 0, 0, 0), (.getfield 34, 3, 5, 6, 13, 0), (.istore 4, 2, 4, 0, 0, 0), (.iconst 1, 1, 0, 0, 0, nI 1), (.istore 5, 2, 5, 0, 0, 0), (.iinc 6 1, 3, 6, 0, 0, nI 1), (.goto (-88), 3, 14, 0, 0, 0)] [] (pc2 := 14) (ls2 := [some (.ref 1), some (.ref 1003), some (.int x2), some (.int (s3 + nI 1)), some (.int (M.1 1 6)), some (.int (nI 1)), some (.int ((nI i6) + nI 1)), some (.int (sby 3 i6))]) (st2 := []) (M2 := M) (Ps := []) (by decide +kernel) rfl rfl trivial ?_
            refine G.loc (ls2 := [some (.ref 1), some (.ref 1003), some (.int x2), some (.int (s3 + nI 1)), some (.int (M.1 1 6)), some (.int (nI 1)), some (.int ((nI i6) + nI 1)), none]) (by simp [subL]) ?_
            rw [nI_add i6 1]
            simp only [t_indexIn_s3_14, if_pos c5, if_neg c6, if_neg c7] at hX
            exact ih (i6 + 1) (s3 + nI 1) (M.1 1 6) (nI 1) (by omega) hk hX
          · skip
            rw [if_pos c7] at hk
            refine G.sl [(.iload_n 3, 1, 3, 0, 0, 0)] [] (pc2 := 86) (ls2 := [some (.ref 1), some (.ref 1003), some (.int x2), some (.int s3), some (.int s4), some (.int s5), some (.int (nI i6)), some (.int (sby 3 i6))]) (st2 := [.int s3]) (M2 := M) (Ps := []) (by decide +kernel) rfl rfl trivial ?_
            exact G.reti (by decide +kernel) rfl rfl (Nat.le_of_ble_eq_true rfl) (Nat.le_of_ble_eq_true rfl) ((by simp only [t_indexIn_s3_14, if_pos c5, if_neg c6, if_pos c7] at hX; exact hX))
      · skip
        rw [if_neg c5] at hk
        refine G.sl [(.iload 5, 2, 5, 0, 0, 0)] [] (pc2 := 40) (ls2 := [some (.ref 1), some (.ref 1003), some (.int x2), some (.int s3), some (.int s4), some (.int s5), some (.int (nI i6)), some (.int (sby 3 i6))]) (st2 := [.int s5]) (M2 := M) (Ps := []) (by decide +kernel) rfl rfl trivial ?_
        refine G.if_eq (off := (25)) (tgt := 65) (by decide +kernel) rfl (fun c8 => ?_) (fun c8 => ?_)
        · skip
          rw [if_pos c8] at hk
          refine G.sl [(.iconst 0, 1, 0, 0, 0, nI 0), (.istore 5, 2, 5, 0, 0, 0), (.iinc 4 1, 3, 4, 0, 0, nI 1), (.goto 28, 3, 99, 0, 0, 0), (.iinc 6 1, 3, 6, 0, 0, nI 1), (.goto (-88), 3, 14, 0, 0, 0)] [] (pc2 := 14) (ls2 := [some (.ref 1), some (.ref 1003), some (.int x2), some (.int s3), some (.int (s4 + nI 1)), some (.int (nI 0)), some (.int ((nI i6) + nI 1)), some (.int (sby 3 i6))]) (st2 := []) (M2 := M) (Ps := []) (by decide +kernel) rfl rfl trivial ?_
          refine G.loc (ls2 := [some (.ref 1), some (.ref 1003), some (.int x2), some (.int s3), some (.int (s4 + nI 1)), some (.int (nI 0)), some (.int ((nI i6) + nI 1)), none]) (by simp [subL]) ?_
          rw [nI_add i6 1]
          simp only [t_indexIn_s3_14, if_neg c5, if_pos c8] at hX
          exact ih (i6 + 1) s3 (s4 + nI 1) (nI 0) (by omega) hk hX
        · skip
          rw [if_neg c8] at hk
          refine G.sl [(.iload 4, 2, 4, 0, 0, 0), (.iload_n 2, 1, 2, 0, 0, 0)] [] (pc2 := 46) (ls2 := [some (.ref 1), some (.ref 1003), some (.int x2), some (.int s3), some (.int s4), some (.int s5), some (.int (nI i6)), some (.int (sby 3 i6))]) (st2 := [.int x2, .int s4]) (M2 := M) (Ps := []) (by decide +kernel) rfl rfl trivial ?_
          refine G.ic_ge (off := (19)) (tgt := 65) (by decide +kernel) rfl (fun c9 => ?_) (fun c9 => ?_)
          · skip
            rw [if_pos c9] at hk
            refine G.sl [(.iconst 0, 1, 0, 0, 0, nI 0), (.istore 5, 2, 5, 0, 0, 0), (.iinc 4 1, 3, 4, 0, 0, nI 1), (.goto 28, 3, 99, 0, 0, 0), (.iinc 6 1, 3, 6, 0, 0, nI 1), (.goto (-88), 3, 14, 0, 0, 0)] [] (pc2 := 14) (ls2 := [some (.ref 1), some (.ref 1003), some (.int x2), some (.int s3), some (.int (s4 + nI 1)), some (.int (nI 0)), some (.int ((nI i6) + nI 1)), some (.int (sby 3 i6))]) (st2 := []) (M2 := M) (Ps := []) (by decide +kernel) rfl rfl trivial ?_
            refine G.loc (ls2 := [some (.ref 1), some (.ref 1003), some (.int x2), some (.int s3), some (.int (s4 + nI 1)), some (.int (nI 0)), some (.int ((nI i6) + nI 1)), none]) (by simp [subL]) ?_
            rw [nI_add i6 1]
            simp only [t_indexIn_s3_14, if_neg c5, if_neg c8, if_pos c9] at hX
            exact ih (i6 + 1) s3 (s4 + nI 1) (nI 0) (by omega) hk hX
          · skip
            rw [if_neg c9] at hk
            obtain ⟨k10, k11, hk⟩ := hk
            refine G.sl [(.aload_n 0, 1, 0, 0, 0, 0), (.getfield 9, 3, 5, 0, 0, 0), (.iload 4, 2, 4, 0, 0, 0), (.iaload, 1, 0, 0, 0, 0), (.iload 7, 2, 7, 0, 0, 0)] [ix s4] (pc2 := 58) (ls2 := [some (.ref 1), some (.ref 1003), some (.int x2), some (.int s3), some (.int s4), some (.int s5), some (.int (nI i6)), some (.int (sby 3 i6))]) (st2 := [.int (sby 3 i6), .int (M.1 2 (ix s4))]) (M2 := M) (Ps := [s4 = nI (ix s4) ∧ (ix s4) < 600]) (by decide +kernel) rfl rfl ⟨⟨(ixE k10), k11⟩, trivial⟩ ?_
            refine G.ic_ne (off := (7)) (tgt := 65) (by decide +kernel) rfl (fun c12 => ?_) (fun c12 => ?_)
            · skip
              rw [if_neg c12] at hk
              refine G.sl [(.iconst 0, 1, 0, 0, 0, nI 0), (.istore 5, 2, 5, 0, 0, 0), (.iinc 4 1, 3, 4, 0, 0, nI 1), (.goto 28, 3, 99, 0, 0, 0), (.iinc 6 1, 3, 6, 0, 0, nI 1), (.goto (-88), 3, 14, 0, 0, 0)] [] (pc2 := 14) (ls2 := [some (.ref 1), some (.ref 1003), some (.int x2), some (.int s3), some (.int (s4 + nI 1)), some (.int (nI 0)), some (.int ((nI i6) + nI 1)), some (.int (sby 3 i6))]) (st2 := []) (M2 := M) (Ps := []) (by decide +kernel) rfl rfl trivial ?_
              refine G.loc (ls2 := [some (.ref 1), some (.ref 1003), some (.int x2), some (.int s3), some (.int (s4 + nI 1)), some (.int (nI 0)), some (.int ((nI i6) + nI 1)), none]) (by simp [subL]) ?_
              rw [nI_add i6 1]
              simp only [t_indexIn_s3_14, if_neg c5, if_neg c8, if_neg c9, if_neg c12] at hX
              exact ih (i6 + 1) s3 (s4 + nI 1) (nI 0) (by omega) hk hX
            · skip
              rw [if_pos c12] at hk
              refine G.sl [(.iconst 1, 1, 0, 0, 0, nI 1), (.goto 4, 3, 66, 0, 0, 0), (.istore 5, 2, 5, 0, 0, 0), (.iinc 4 1, 3, 4, 0, 0, nI 1), (.goto 28, 3, 99, 0, 0, 0), (.iinc 6 1, 3, 6, 0, 0, nI 1), (.goto (-88), 3, 14, 0, 0, 0)] [] (pc2 := 14) (ls2 := [some (.ref 1), some (.ref 1003), some (.int x2), some (.int s3), some (.int (s4 + nI 1)), some (.int (nI 1)), some (.int ((nI i6) + nI 1)), some (.int (sby 3 i6))]) (st2 := []) (M2 := M) (Ps := []) (by decide +kernel) rfl rfl trivial ?_
              refine G.loc (ls2 := [some (.ref 1), some (.ref 1003), some (.int x2), some (.int s3), some (.int (s4 + nI 1)), some (.int (nI 1)), some (.int ((nI i6) + nI 1)), none]) (by simp [subL]) ?_
              rw [nI_add i6 1]
              simp only [t_indexIn_s3_14, if_neg c5, if_neg c8, if_neg c9, if_pos c12] at hX
              exact ih (i6 + 1) s3 (s4 + nI 1) (nI 1) (by omega) hk hX
set_option maxHeartbeats 4000000 in
set_option maxRecDepth 3000 in
theorem c_t_indexIn_s3_1 (z : Zp) (d : Nat) (M : Mem) (x2 : Int32) (hk : t_indexIn_s3_ok (M.1 1) (M.1 2) x2) : GM z mX6_indexIn (d + 4) [.ref 1, .ref 1003, .int x2] M (fun rs => rs = .inl (some (.int (t_indexIn_s3 (M.1 1) (M.1 2) x2)), M)) := by
  simp only [t_indexIn_s3_ok] at hk
  refine GM.of oX6_indexIn.1 (Nat.le_of_ble_eq_true rfl) ?_
  show G z mX6_indexIn (d + 4) 0 0 0 [some (.ref 1), some (.ref 1003), some (.int x2), none, none, none, none, none] [] M _
  obtain ⟨Q, hQ⟩ : ∃ Q : Rs → Prop, Q = (fun rs => rs = .inl (some (.int (t_indexIn_s3 (M.1 1) (M.1 2) x2)), M)) := ⟨_, rfl⟩
  rw [← hQ]
  refine G.sl [(.iconst 0, 1, 0, 0, 0, nI 0), (.istore_n 3, 1, 3, 0, 0, 0), (.aload_n 0, 1, 0, 0, 0, 0), (.getfield 34, 3, 5, 6, 13, 0), (.istore 4, 2, 4, 0, 0, 0), (.iconst 1, 1, 0, 0, 0, nI 1), (.istore 5, 2, 5, 0, 0, 0), (.iconst 0, 1, 0, 0, 0, nI 0), (.istore 6, 2, 6, 0, 0, 0)] [] (pc2 := 14) (ls2 := [some (.ref 1), some (.ref 1003), some (.int x2), some (.int (nI 0)), some (.int (M.1 1 6)), some (.int (nI 1)), some (.int (nI 0)), none]) (st2 := []) (M2 := M) (Ps := []) (by decide +kernel) rfl rfl trivial ?_
  obtain ⟨k15, hk⟩ := hk
  refine lp_t_indexIn_s3_1_14 z d M Q (cN 31) x2 (cN_eq 31) (cN 31) 0 (nI 0) (M.1 1 6) (nI 1) (Nat.zero_add _) (by first | (simp only [mput, mrow_same, mrow_hit, mrow_miss, mrow_sw, idr_eq, ne_eq, Nat.reduceEqDiff, not_false_eq_true, Nat.reduceLT, reduceCtorEq]; exact k15) | exact k15) ?_
  try simp only [mput, mrow_same, mrow_hit, mrow_miss, mrow_sw, idr_eq, ne_eq, Nat.reduceEqDiff, not_false_eq_true, Nat.reduceLT, reduceCtorEq]
  rcases g16 : t_indexIn_s3_14 (M.1 1) (M.1 2) x2 (cN 31) 0 (nI 0) (M.1 1 6) (nI 1) with v20 | ⟨v17, v18, v19⟩
  · skip
    show Q (.inl (some (.int v20), M))
    rw [hQ]
    simp only [t_indexIn_s3, g16, mrow_self]
  · skip
    show G z mX6_indexIn (d + 4) 0 0 105 [none, none, some (.int x2), some (.int v17), some (.int v18), some (.int v19), none, none] [] M Q
    refine G.sl [(.iload 5, 2, 5, 0, 0, 0)] [] (pc2 := 107) (ls2 := [none, none, some (.int x2), some (.int v17), some (.int v18), some (.int v19), none, none]) (st2 := [.int v19]) (M2 := M) (Ps := []) (by decide +kernel) rfl rfl trivial ?_
    refine G.if_eq (off := (13)) (tgt := 120) (by decide +kernel) rfl (fun c21 => ?_) (fun c21 => ?_)
    · skip
      refine G.sl [(.iconst (-1), 1, 0, 0, 0, (-1))] [] (pc2 := 121) (ls2 := [none, none, some (.int x2), some (.int v17), some (.int v18), some (.int v19), none, none]) (st2 := [.int ((-1))]) (M2 := M) (Ps := []) (by decide +kernel) rfl rfl trivial ?_
      exact G.reti (by decide +kernel) rfl rfl (Nat.le_of_ble_eq_true rfl) (Nat.le_of_ble_eq_true rfl) ((by rw [hQ]; simp only [t_indexIn_s3, g16, if_pos c21, mrow_self]))
    · skip
      refine G.sl [(.iload 4, 2, 4, 0, 0, 0), (.iload_n 2, 1, 2, 0, 0, 0)] [] (pc2 := 113) (ls2 := [none, none, some (.int x2), some (.int v17), some (.int v18), some (.int v19), none, none]) (st2 := [.int x2, .int v18]) (M2 := M) (Ps := []) (by decide +kernel) rfl rfl trivial ?_
      refine G.ic_ne (off := (7)) (tgt := 120) (by decide +kernel) rfl (fun c22 => ?_) (fun c22 => ?_)
      · skip
        refine G.sl [(.iconst (-1), 1, 0, 0, 0, (-1))] [] (pc2 := 121) (ls2 := [none, none, some (.int x2), some (.int v17), some (.int v18), some (.int v19), none, none]) (st2 := [.int ((-1))]) (M2 := M) (Ps := []) (by decide +kernel) rfl rfl trivial ?_
        exact G.reti (by decide +kernel) rfl rfl (Nat.le_of_ble_eq_true rfl) (Nat.le_of_ble_eq_true rfl) ((by rw [hQ]; simp only [t_indexIn_s3, g16, if_neg c21, if_neg c22, mrow_self]))
      · skip
        refine G.sl [(.iload_n 3, 1, 3, 0, 0, 0), (.goto 4, 3, 121, 0, 0, 0)] [] (pc2 := 121) (ls2 := [none, none, some (.int x2), some (.int v17), some (.int v18), some (.int v19), none, none]) (st2 := [.int v17]) (M2 := M) (Ps := []) (by decide +kernel) rfl rfl trivial ?_
        exact G.reti (by decide +kernel) rfl rfl (Nat.le_of_ble_eq_true rfl) (Nat.le_of_ble_eq_true rfl) ((by rw [hQ]; simp only [t_indexIn_s3, g16, if_neg c21, if_pos c22, mrow_self]))
set_option maxHeartbeats 4000000 in
set_option maxRecDepth 3000 in
theorem c_t_word_s3_1 (z : Zp) (d : Nat) (M : Mem) (hk : t_word_s3_ok (M.1 1) (M.1 2)) : GM z mX6_word (d + 5) [.ref 1, .ref 1003] M (fun rs => rs = .inl (some (.int ((t_word_s3 (M.1 1) (M.1 2)).1)), mrow M 1 ((t_word_s3 (M.1 1) (M.1 2)).2))) := by
  simp only [t_word_s3_ok] at hk
  refine GM.of oX6_word.1 (Nat.le_of_ble_eq_true rfl) ?_
  show G z mX6_word (d + 5) 0 0 0 [some (.ref 1), some (.ref 1003), none, none] [] M _
  obtain ⟨Q, hQ⟩ : ∃ Q : Rs → Prop, Q = (fun rs => rs = .inl (some (.int ((t_word_s3 (M.1 1) (M.1 2)).1)), mrow M 1 ((t_word_s3 (M.1 1) (M.1 2)).2))) := ⟨_, rfl⟩
  rw [← hQ]
  refine G.sl [(.aload_n 0, 1, 0, 0, 0, 0)] [] (pc2 := 1) (ls2 := [some (.ref 1), some (.ref 1003), none, none]) (st2 := [.ref 1]) (M2 := M) (Ps := []) (by decide +kernel) rfl rfl trivial ?_
  obtain ⟨k1, hk⟩ := hk
  rcases g2 : t_next (M.1 1) (M.1 2) with ⟨v3, r4⟩
  try simp only [g2] at hk
  have t5 : GM z mX6_next (d + 4) [.ref 1] M (fun rs => rs = .inl (some (.int v3), mrow M 1 r4)) := by
    have q9 := c_t_next_1 z (d + 4) M k1
    try simp only [mput, mrow_same, mrow_hit, mrow_miss, mrow_sw, idr_eq, ne_eq, Nat.reduceEqDiff, not_false_eq_true, Nat.reduceLT, reduceCtorEq, g2] at q9
    exact q9
  refine G.callV (as := []) (rest := []) (a := 1) oX6_next lk_EvenFinders_Tape_43 (by decide +kernel) rfl rfl ⟨rfl, rfl⟩ (Nat.le_of_ble_eq_true rfl) rfl ⟨Nat.le_of_ble_eq_true rfl, Nat.le_of_ble_eq_true rfl⟩ t5 (fun v9 N9 h6 => ?_) (fun E9 N9 h6 => by cases h6)
  cases h6
  show G z mX6_word (d + 5) 0 0 4 [some (.ref 1), some (.ref 1003), none, none] [.int v3] (mrow M 1 r4) Q
  refine G.sl [(.pop, 1, 0, 0, 0, 0), (.aload_n 0, 1, 0, 0, 0, 0), (.getfield 37, 3, 5, 2, 3, 0)] [] (pc2 := 9) (ls2 := [some (.ref 1), some (.ref 1003), none, none]) (st2 := [.int (r4 2)]) (M2 := mrow M 1 r4) (Ps := []) (by decide +kernel) rfl rfl trivial ?_
  refine G.if_eq (off := (5)) (tgt := 14) (by decide +kernel) rfl (fun c7 => ?_) (fun c7 => ?_)
  · skip
    rw [if_pos c7] at hk
    refine G.sl [(.aload_n 0, 1, 0, 0, 0, 0), (.getfield 34, 3, 5, 6, 13, 0), (.istore_n 2, 1, 2, 0, 0, 0)] [] (pc2 := 19) (ls2 := [some (.ref 1), some (.ref 1003), some (.int (r4 6)), none]) (st2 := []) (M2 := mrow M 1 r4) (Ps := []) (by decide +kernel) rfl rfl trivial ?_
    obtain ⟨k13, hk⟩ := hk
    refine lp_t_word_s3_1_19 z d (mrow M 1 r4) Q FU (r4 6) (by first | (simp only [mput, mrow_same, mrow_hit, mrow_miss, mrow_sw, idr_eq, ne_eq, Nat.reduceEqDiff, not_false_eq_true, Nat.reduceLT, reduceCtorEq]; exact k13) | exact k13) ?_
    try simp only [mput, mrow_same, mrow_hit, mrow_miss, mrow_sw, idr_eq, ne_eq, Nat.reduceEqDiff, not_false_eq_true, Nat.reduceLT, reduceCtorEq]
    show G z mX6_word (d + 5) 0 0 55 [some (.ref 1), some (.ref 1003), some (.int (t_word_s3_19 r4 (M.1 2) FU (r4 6))), none] [] (mrow M 1 r4) Q
    refine G.sl [(.aload_n 0, 1, 0, 0, 0, 0), (.aload_n 1, 1, 1, 0, 0, 0), (.iload_n 2, 1, 2, 0, 0, 0)] [] (pc2 := 58) (ls2 := [some (.ref 1), some (.ref 1003), some (.int (t_word_s3_19 r4 (M.1 2) FU (r4 6))), none]) (st2 := [.int (t_word_s3_19 r4 (M.1 2) FU (r4 6)), .ref 1003, .ref 1]) (M2 := mrow M 1 r4) (Ps := []) (by decide +kernel) rfl rfl trivial ?_
    obtain ⟨k14, hk⟩ := hk
    have t15 : GM z mX6_indexIn (d + 4) [.ref 1, .ref 1003, .int (t_word_s3_19 r4 (M.1 2) FU (r4 6))] (mrow M 1 r4) (fun rs => rs = .inl (some (.int (t_indexIn_s3 r4 (M.1 2) (t_word_s3_19 r4 (M.1 2) FU (r4 6)))), mrow M 1 r4)) := by
      have q9 := c_t_indexIn_s3_1 z d (mrow M 1 r4) (t_word_s3_19 r4 (M.1 2) FU (r4 6)) k14
      try simp only [mput, mrow_same, mrow_hit, mrow_miss, mrow_sw, idr_eq, ne_eq, Nat.reduceEqDiff, not_false_eq_true, Nat.reduceLT, reduceCtorEq] at q9
      exact q9
    refine G.callV (as := [.ref 1003, .int (t_word_s3_19 r4 (M.1 2) FU (r4 6))]) (rest := []) (a := 1) oX6_indexIn lk_EvenFinders_Tape_55 (by decide +kernel) rfl rfl ⟨rfl, rfl⟩ (Nat.le_of_ble_eq_true rfl) rfl ⟨Nat.le_of_ble_eq_true rfl, Nat.le_of_ble_eq_true rfl⟩ t15 (fun v9 N9 h16 => ?_) (fun E9 N9 h16 => by cases h16)
    cases h16
    show G z mX6_word (d + 5) 0 0 61 [some (.ref 1), some (.ref 1003), some (.int (t_word_s3_19 r4 (M.1 2) FU (r4 6))), none] [.int (t_indexIn_s3 r4 (M.1 2) (t_word_s3_19 r4 (M.1 2) FU (r4 6)))] (mrow M 1 r4) Q
    refine G.sl [(.istore_n 3, 1, 3, 0, 0, 0), (.iload_n 3, 1, 3, 0, 0, 0), (.iconst (-1), 1, 0, 0, 0, (-1))] [] (pc2 := 64) (ls2 := [some (.ref 1), some (.ref 1003), some (.int (t_word_s3_19 r4 (M.1 2) FU (r4 6))), some (.int (t_indexIn_s3 r4 (M.1 2) (t_word_s3_19 r4 (M.1 2) FU (r4 6))))]) (st2 := [.int ((-1)), .int (t_indexIn_s3 r4 (M.1 2) (t_word_s3_19 r4 (M.1 2) FU (r4 6)))]) (M2 := mrow M 1 r4) (Ps := []) (by decide +kernel) rfl rfl trivial ?_
    refine G.ic_ne (off := (15)) (tgt := 79) (by decide +kernel) rfl (fun c17 => ?_) (fun c17 => ?_)
    · skip
      refine G.sl [(.aload_n 0, 1, 0, 0, 0, 0), (.iload_n 2, 1, 2, 0, 0, 0), (.putfield 34, 3, 5, 6, 13, 0), (.iload_n 3, 1, 3, 0, 0, 0)] [] (pc2 := 85) (ls2 := [some (.ref 1), some (.ref 1003), some (.int (t_word_s3_19 r4 (M.1 2) FU (r4 6))), some (.int (t_indexIn_s3 r4 (M.1 2) (t_word_s3_19 r4 (M.1 2) FU (r4 6))))]) (st2 := [.int (t_indexIn_s3 r4 (M.1 2) (t_word_s3_19 r4 (M.1 2) FU (r4 6)))]) (M2 := mput (mrow M 1 r4) 1 6 (t_word_s3_19 r4 (M.1 2) FU (r4 6))) (Ps := []) (by decide +kernel) rfl rfl trivial ?_
      refine G.mem (M' := mrow M 1 (upd r4 6 (t_word_s3_19 r4 (M.1 2) FU (r4 6)))) (by first | rfl | (simp only [mput, mrow_same, mrow_hit, mrow_miss, mrow_sw, idr_eq, ne_eq, Nat.reduceEqDiff, not_false_eq_true, Nat.reduceLT, reduceCtorEq]; done)) ?_
      exact G.reti (by decide +kernel) rfl rfl (Nat.le_of_ble_eq_true rfl) (Nat.le_of_ble_eq_true rfl) ((by rw [hQ]; simp only [t_word_s3, g2, if_pos c7, if_neg c17, mrow_self]))
    · skip
      refine G.sl [(.aload_n 0, 1, 0, 0, 0, 0), (.iconst 1, 1, 0, 0, 0, nI 1), (.aload_n 0, 1, 0, 0, 0, 0), (.getfield 40, 3, 5, 4, 7, 0)] [] (pc2 := 73) (ls2 := [some (.ref 1), some (.ref 1003), some (.int (t_word_s3_19 r4 (M.1 2) FU (r4 6))), some (.int (t_indexIn_s3 r4 (M.1 2) (t_word_s3_19 r4 (M.1 2) FU (r4 6))))]) (st2 := [.int (r4 4), .int (nI 1), .ref 1]) (M2 := mrow M 1 r4) (Ps := []) (by decide +kernel) rfl rfl trivial ?_
      rcases g19 : t_fail r4 (nI 1) (r4 4) with ⟨u20, r21⟩
      have t22 : GM z mX6_fail (d + 4) [.ref 1, .int (nI 1), .int (r4 4)] (mrow M 1 r4) (fun rs => rs = .inl (none, mrow M 1 r21)) := by
        have q9 := c_t_fail_1 z (d + 4) (mrow M 1 r4) (nI 1) (r4 4)
        try simp only [mput, mrow_same, mrow_hit, mrow_miss, mrow_sw, idr_eq, ne_eq, Nat.reduceEqDiff, not_false_eq_true, Nat.reduceLT, reduceCtorEq, g19] at q9
        exact q9
      refine G.callV (as := [.int (nI 1), .int (r4 4)]) (rest := []) (a := 1) oX6_fail lk_EvenFinders_Tape_47 (by decide +kernel) rfl rfl ⟨rfl, rfl⟩ (Nat.le_of_ble_eq_true rfl) rfl ⟨Nat.le_of_ble_eq_true rfl, Nat.le_of_ble_eq_true rfl⟩ t22 (fun v9 N9 h23 => ?_) (fun E9 N9 h23 => by cases h23)
      cases h23
      show G z mX6_word (d + 5) 0 0 76 [some (.ref 1), some (.ref 1003), some (.int (t_word_s3_19 r4 (M.1 2) FU (r4 6))), some (.int (t_indexIn_s3 r4 (M.1 2) (t_word_s3_19 r4 (M.1 2) FU (r4 6))))] [] (mrow M 1 r21) Q
      refine G.sl [(.goto 8, 3, 84, 0, 0, 0), (.iload_n 3, 1, 3, 0, 0, 0)] [] (pc2 := 85) (ls2 := [some (.ref 1), some (.ref 1003), some (.int (t_word_s3_19 r4 (M.1 2) FU (r4 6))), some (.int (t_indexIn_s3 r4 (M.1 2) (t_word_s3_19 r4 (M.1 2) FU (r4 6))))]) (st2 := [.int (t_indexIn_s3 r4 (M.1 2) (t_word_s3_19 r4 (M.1 2) FU (r4 6)))]) (M2 := mrow M 1 r21) (Ps := []) (by decide +kernel) rfl rfl trivial ?_
      exact G.reti (by decide +kernel) rfl rfl (Nat.le_of_ble_eq_true rfl) (Nat.le_of_ble_eq_true rfl) ((by rw [hQ]; simp only [t_word_s3, g2, if_pos c7, if_pos c17, g19, mrow_self]))
  · skip
    rw [if_neg c7] at hk
    refine G.sl [(.iconst (-1), 1, 0, 0, 0, (-1))] [] (pc2 := 13) (ls2 := [some (.ref 1), some (.ref 1003), none, none]) (st2 := [.int ((-1))]) (M2 := mrow M 1 r4) (Ps := []) (by decide +kernel) rfl rfl trivial ?_
    exact G.reti (by decide +kernel) rfl rfl (Nat.le_of_ble_eq_true rfl) (Nat.le_of_ble_eq_true rfl) ((by rw [hQ]; simp only [t_word_s3, g2, if_neg c7, mrow_self]))
set_option maxHeartbeats 4000000 in
set_option maxRecDepth 3000 in
theorem lp_x_readAgain_33_1_43 (z : Zp) (d : Nat) (M : Mem) (Q : Rs → Prop) (nn : Nat) (x2 : Int32) (x3 : Int32) (nr : Nat) (hnr : nr ≤ 12) (hr : M.1 3 1 = nI nr) (nt : Nat) (hnt : nt ≤ 10) (ht : M.1 3 2 = nI nt) (nf : Nat) (hnf : nf ≤ 6) (hf : M.1 3 3 = nI nf) (fz : (Nat → Int32) → (Nat → Int32) → (Nat → Int32) → (Nat → Int32) → (Nat → Int32) → (Nat → Int32) → Int32 → Int32 × (Nat → Int32) × (Nat → Int32) × (Nat → Int32) × (Nat → Int32) × (Nat → Int32)) (gz : (Nat → Int32) → (Nat → Int32) → (Nat → Int32) → (Nat → Int32) → (Nat → Int32) → (Nat → Int32) → Int32 → Prop) (Hz : ∀ (j : Nat) (M : Mem) (x2 : Int32), M.1 3 1 = nI nr → M.1 3 2 = nI nt → M.1 3 3 = nI nf → gz (M.1 1) (M.1 2) (M.1 33) (M.1 34) (M.1 35) (M.1 36) x2 → GM z mX9_readStep (d + j) [.ref 33, .ref 1, .int x2] M (fun rs => rs = .inl (none, mrow (mrow (mrow (mrow (mrow M 1 ((fz (M.1 1) (M.1 2) (M.1 33) (M.1 34) (M.1 35) (M.1 36) x2).2.1)) 33 ((fz (M.1 1) (M.1 2) (M.1 33) (M.1 34) (M.1 35) (M.1 36) x2).2.2.1)) 34 ((fz (M.1 1) (M.1 2) (M.1 33) (M.1 34) (M.1 35) (M.1 36) x2).2.2.2.1)) 35 ((fz (M.1 1) (M.1 2) (M.1 33) (M.1 34) (M.1 35) (M.1 36) x2).2.2.2.2.1)) 36 ((fz (M.1 1) (M.1 2) (M.1 33) (M.1 34) (M.1 35) (M.1 36) x2).2.2.2.2.2)))) (hnn : nn = 150) : ∀ (k0 : Nat) (i4 : Nat) (q1 : (Nat → Int32)) (q33 : (Nat → Int32)) (q34 : (Nat → Int32)) (q35 : (Nat → Int32)) (q36 : (Nat → Int32)), i4 + k0 = nn → x_readAgain_43_ok fz gz (M.1 2) x2 x3 k0 i4 q1 q33 q34 q35 q36 → (match x_readAgain_43 fz (M.1 2) x2 x3 k0 i4 q1 q33 q34 q35 q36 with | (q1', q33', q34', q35', q36') => G z mX9_readAgain (d + 2) 0 0 82 [some (.ref 33), some (.ref 1), none, some (.int x3), none] [] (mrow (mrow (mrow (mrow (mrow M 1 (q1')) 33 (q33')) 34 (q34')) 35 (q35')) 36 (q36')) Q) → G z mX9_readAgain (d + 2) 0 0 43 [some (.ref 33), some (.ref 1), some (.int x2), some (.int x3), some (.int (nI i4))] [] (mrow (mrow (mrow (mrow (mrow M 1 q1) 33 q33) 34 q34) 35 q35) 36 q36) Q := by
  intro k0
  induction k0 with
  | zero =>
      intro i4 q1 q33 q34 q35 q36 hn hk hX
      refine G.sl [(.iload 4, 2, 4, 0, 0, 0), (.sipush 150, 3, 0, 0, 0, nI 150)] [] (pc2 := 48) (ls2 := [some (.ref 33), some (.ref 1), some (.int x2), some (.int x3), some (.int (nI i4))]) (st2 := [.int (nI 150), .int (nI i4)]) (M2 := mrow (mrow (mrow (mrow (mrow M 1 q1) 33 q33) 34 q34) 35 q35) 36 q36) (Ps := []) (by decide +kernel) rfl rfl trivial ?_
      refine G.ic_ge (off := (34)) (tgt := 82) (by decide +kernel) rfl (fun _ => ?_) (fun h9 => absurd (nI_le (by omega) (by omega)) h9)
      refine G.loc (ls2 := [some (.ref 33), some (.ref 1), none, some (.int x3), none]) (by simp [subL]) ?_
      simp only [x_readAgain_43] at hX
      exact hX
  | succ k0 ih =>
      intro i4 q1 q33 q34 q35 q36 hn hk hX
      simp only [x_readAgain_43_ok] at hk
      refine G.sl [(.iload 4, 2, 4, 0, 0, 0), (.sipush 150, 3, 0, 0, 0, nI 150)] [] (pc2 := 48) (ls2 := [some (.ref 33), some (.ref 1), some (.int x2), some (.int x3), some (.int (nI i4))]) (st2 := [.int (nI 150), .int (nI i4)]) (M2 := mrow (mrow (mrow (mrow (mrow M 1 q1) 33 q33) 34 q34) 35 q35) 36 q36) (Ps := []) (by decide +kernel) rfl rfl trivial ?_
      refine G.ic_ge (off := (34)) (tgt := 82) (by decide +kernel) rfl (fun h9 => absurd h9 (nI_ge (by omega) (by omega))) (fun _ => ?_)
      refine G.sl [(.aload_n 1, 1, 1, 0, 0, 0)] [] (pc2 := 52) (ls2 := [some (.ref 33), some (.ref 1), some (.int x2), some (.int x3), some (.int (nI i4))]) (st2 := [.ref 1]) (M2 := mrow (mrow (mrow (mrow (mrow M 1 q1) 33 q33) 34 q34) 35 q35) 36 q36) (Ps := []) (by decide +kernel) rfl rfl trivial ?_
      obtain ⟨k23, hk⟩ := hk
      rcases g24 : t_next q1 (M.1 2) with ⟨v25, r26⟩
      try simp only [g24] at hk
      have t27 : GM z mX6_next (d + 1) [.ref 1] (mrow (mrow (mrow (mrow (mrow M 1 q1) 33 q33) 34 q34) 35 q35) 36 q36) (fun rs => rs = .inl (some (.int v25), mrow (mrow (mrow (mrow (mrow M 1 r26) 33 q33) 34 q34) 35 q35) 36 q36)) := by
        have q9 := c_t_next_1 z (d + 1) (mrow (mrow (mrow (mrow (mrow M 1 q1) 33 q33) 34 q34) 35 q35) 36 q36) k23
        try simp only [mput, mrow_same, mrow_hit, mrow_miss, mrow_sw, idr_eq, ne_eq, Nat.reduceEqDiff, not_false_eq_true, Nat.reduceLT, reduceCtorEq, g24] at q9
        exact q9
      refine G.callV (as := []) (rest := []) (a := 1) oX6_next lk_EvenFinders_Work_29 (by decide +kernel) rfl rfl ⟨rfl, rfl⟩ (Nat.le_of_ble_eq_true rfl) rfl ⟨Nat.le_of_ble_eq_true rfl, Nat.le_of_ble_eq_true rfl⟩ t27 (fun v9 N9 h28 => ?_) (fun E9 N9 h28 => by cases h28)
      cases h28
      show G z mX9_readAgain (d + 2) 0 0 55 [some (.ref 33), some (.ref 1), some (.int x2), some (.int x3), some (.int (nI i4))] [.int v25] (mrow (mrow (mrow (mrow (mrow M 1 r26) 33 q33) 34 q34) 35 q35) 36 q36) Q
      refine G.sl [(.iconst (-1), 1, 0, 0, 0, (-1))] [] (pc2 := 56) (ls2 := [some (.ref 33), some (.ref 1), some (.int x2), some (.int x3), some (.int (nI i4))]) (st2 := [.int ((-1)), .int v25]) (M2 := mrow (mrow (mrow (mrow (mrow M 1 r26) 33 q33) 34 q34) 35 q35) 36 q36) (Ps := []) (by decide +kernel) rfl rfl trivial ?_
      refine G.ic_eq (off := (26)) (tgt := 82) (by decide +kernel) rfl (fun c29 => ?_) (fun c29 => ?_)
      · skip
        rw [if_pos c29] at hk
        refine G.loc (ls2 := [some (.ref 33), some (.ref 1), none, some (.int x3), none]) (by simp [subL]) ?_
        simp only [x_readAgain_43, g24, if_pos c29] at hX
        exact hX
      · skip
        rw [if_neg c29] at hk
        refine G.sl [(.aload_n 1, 1, 1, 0, 0, 0)] [] (pc2 := 60) (ls2 := [some (.ref 33), some (.ref 1), some (.int x2), some (.int x3), some (.int (nI i4))]) (st2 := [.ref 1]) (M2 := mrow (mrow (mrow (mrow (mrow M 1 r26) 33 q33) 34 q34) 35 q35) 36 q36) (Ps := []) (by decide +kernel) rfl rfl trivial ?_
        obtain ⟨k30, hk⟩ := hk
        rcases g31 : t_next r26 (M.1 2) with ⟨v32, r33⟩
        try simp only [g31] at hk
        have t34 : GM z mX6_next (d + 1) [.ref 1] (mrow (mrow (mrow (mrow (mrow M 1 r26) 33 q33) 34 q34) 35 q35) 36 q36) (fun rs => rs = .inl (some (.int v32), mrow (mrow (mrow (mrow (mrow M 1 r33) 33 q33) 34 q34) 35 q35) 36 q36)) := by
          have q9 := c_t_next_1 z (d + 1) (mrow (mrow (mrow (mrow (mrow M 1 r26) 33 q33) 34 q34) 35 q35) 36 q36) k30
          try simp only [mput, mrow_same, mrow_hit, mrow_miss, mrow_sw, idr_eq, ne_eq, Nat.reduceEqDiff, not_false_eq_true, Nat.reduceLT, reduceCtorEq, g31] at q9
          exact q9
        refine G.callV (as := []) (rest := []) (a := 1) oX6_next lk_EvenFinders_Work_29 (by decide +kernel) rfl rfl ⟨rfl, rfl⟩ (Nat.le_of_ble_eq_true rfl) rfl ⟨Nat.le_of_ble_eq_true rfl, Nat.le_of_ble_eq_true rfl⟩ t34 (fun v9 N9 h35 => ?_) (fun E9 N9 h35 => by cases h35)
        cases h35
        show G z mX9_readAgain (d + 2) 0 0 63 [some (.ref 33), some (.ref 1), some (.int x2), some (.int x3), some (.int (nI i4))] [.int v32] (mrow (mrow (mrow (mrow (mrow M 1 r33) 33 q33) 34 q34) 35 q35) 36 q36) Q
        refine G.sl [(.bipush 93, 2, 0, 0, 0, nI 93)] [] (pc2 := 65) (ls2 := [some (.ref 33), some (.ref 1), some (.int x2), some (.int x3), some (.int (nI i4))]) (st2 := [.int (nI 93), .int v32]) (M2 := mrow (mrow (mrow (mrow (mrow M 1 r33) 33 q33) 34 q34) 35 q35) 36 q36) (Ps := []) (by decide +kernel) rfl rfl trivial ?_
        refine G.ic_eq (off := (17)) (tgt := 82) (by decide +kernel) rfl (fun c36 => ?_) (fun c36 => ?_)
        · skip
          rw [if_pos c36] at hk
          refine G.loc (ls2 := [some (.ref 33), some (.ref 1), none, some (.int x3), none]) (by simp [subL]) ?_
          simp only [x_readAgain_43, g24, if_neg c29, g31, if_pos c36] at hX
          exact hX
        · skip
          rw [if_neg c36] at hk
          refine G.sl [(.aload_n 0, 1, 0, 0, 0, 0), (.aload_n 1, 1, 1, 0, 0, 0), (.iload_n 2, 1, 2, 0, 0, 0), (.iconst 1, 1, 0, 0, 0, nI 1), (.iadd, 1, 0, 0, 0, 0)] [] (pc2 := 73) (ls2 := [some (.ref 33), some (.ref 1), some (.int x2), some (.int x3), some (.int (nI i4))]) (st2 := [.int (x2 + (nI 1)), .ref 1, .ref 33]) (M2 := mrow (mrow (mrow (mrow (mrow M 1 r33) 33 q33) 34 q34) 35 q35) 36 q36) (Ps := []) (by decide +kernel) rfl rfl trivial ?_
          obtain ⟨k37, hk⟩ := hk
          rcases g38 : fz r33 (M.1 2) q33 q34 q35 q36 (x2 + (nI 1)) with ⟨u39, r40, r41, r42, r43, r44⟩
          try simp only [g38] at hk
          have t45 : GM z mX9_readStep (d + 1) [.ref 33, .ref 1, .int (x2 + (nI 1))] (mrow (mrow (mrow (mrow (mrow M 1 r33) 33 q33) 34 q34) 35 q35) 36 q36) (fun rs => rs = .inl (none, mrow (mrow (mrow (mrow (mrow M 1 r40) 33 r41) 34 r42) 35 r43) 36 r44)) := by
            have q9 := Hz 1 (mrow (mrow (mrow (mrow (mrow M 1 r33) 33 q33) 34 q34) 35 q35) 36 q36) (x2 + (nI 1)) hr ht hf
            try simp only [mput, mrow_same, mrow_hit, mrow_miss, mrow_sw, idr_eq, ne_eq, Nat.reduceEqDiff, not_false_eq_true, Nat.reduceLT, reduceCtorEq, g38] at q9
            exact q9 (by first | exact k37 | (simp only [mput, mrow_same, mrow_hit, mrow_miss, mrow_sw, idr_eq, ne_eq, Nat.reduceEqDiff, not_false_eq_true, Nat.reduceLT, reduceCtorEq]; exact k37))
          refine G.callV (as := [.ref 1, .int (x2 + (nI 1))]) (rest := []) (a := 33) oX9_readStep lk_EvenFinders_Work_35 (by decide +kernel) rfl rfl ⟨rfl, rfl⟩ (Nat.le_of_ble_eq_true rfl) rfl ⟨Nat.le_of_ble_eq_true rfl, Nat.le_of_ble_eq_true rfl⟩ t45 (fun v9 N9 h46 => ?_) (fun E9 N9 h46 => by cases h46)
          cases h46
          show G z mX9_readAgain (d + 2) 0 0 76 [some (.ref 33), some (.ref 1), some (.int x2), some (.int x3), some (.int (nI i4))] [] (mrow (mrow (mrow (mrow (mrow M 1 r40) 33 r41) 34 r42) 35 r43) 36 r44) Q
          refine G.sl [(.iinc 4 1, 3, 4, 0, 0, nI 1), (.goto (-36), 3, 43, 0, 0, 0)] [] (pc2 := 43) (ls2 := [some (.ref 33), some (.ref 1), some (.int x2), some (.int x3), some (.int ((nI i4) + nI 1))]) (st2 := []) (M2 := mrow (mrow (mrow (mrow (mrow M 1 r40) 33 r41) 34 r42) 35 r43) 36 r44) (Ps := []) (by decide +kernel) rfl rfl trivial ?_
          rw [nI_add i4 1]
          simp only [x_readAgain_43, g24, if_neg c29, g31, if_neg c36, g38] at hX
          exact ih (i4 + 1) r40 r41 r42 r43 r44 (by omega) hk hX
set_option maxHeartbeats 4000000 in
set_option maxRecDepth 3000 in
theorem c_x_readAgain_33_1 (z : Zp) (d : Nat) (M : Mem) (x2 : Int32) (nr : Nat) (hnr : nr ≤ 12) (hr : M.1 3 1 = nI nr) (nt : Nat) (hnt : nt ≤ 10) (ht : M.1 3 2 = nI nt) (nf : Nat) (hnf : nf ≤ 6) (hf : M.1 3 3 = nI nf) (fz : (Nat → Int32) → (Nat → Int32) → (Nat → Int32) → (Nat → Int32) → (Nat → Int32) → (Nat → Int32) → Int32 → Int32 × (Nat → Int32) × (Nat → Int32) × (Nat → Int32) × (Nat → Int32) × (Nat → Int32)) (gz : (Nat → Int32) → (Nat → Int32) → (Nat → Int32) → (Nat → Int32) → (Nat → Int32) → (Nat → Int32) → Int32 → Prop) (Hz : ∀ (j : Nat) (M : Mem) (x2 : Int32), M.1 3 1 = nI nr → M.1 3 2 = nI nt → M.1 3 3 = nI nf → gz (M.1 1) (M.1 2) (M.1 33) (M.1 34) (M.1 35) (M.1 36) x2 → GM z mX9_readStep (d + j) [.ref 33, .ref 1, .int x2] M (fun rs => rs = .inl (none, mrow (mrow (mrow (mrow (mrow M 1 ((fz (M.1 1) (M.1 2) (M.1 33) (M.1 34) (M.1 35) (M.1 36) x2).2.1)) 33 ((fz (M.1 1) (M.1 2) (M.1 33) (M.1 34) (M.1 35) (M.1 36) x2).2.2.1)) 34 ((fz (M.1 1) (M.1 2) (M.1 33) (M.1 34) (M.1 35) (M.1 36) x2).2.2.2.1)) 35 ((fz (M.1 1) (M.1 2) (M.1 33) (M.1 34) (M.1 35) (M.1 36) x2).2.2.2.2.1)) 36 ((fz (M.1 1) (M.1 2) (M.1 33) (M.1 34) (M.1 35) (M.1 36) x2).2.2.2.2.2)))) (hk : x_readAgain_ok fz gz (M.1 1) (M.1 2) (M.1 33) (M.1 34) (M.1 35) (M.1 36) x2) : GM z mX9_readAgain (d + 2) [.ref 33, .ref 1, .int x2] M (fun rs => rs = .inl (none, mrow (mrow (mrow (mrow (mrow M 1 ((x_readAgain fz (M.1 1) (M.1 2) (M.1 33) (M.1 34) (M.1 35) (M.1 36) x2).2.1)) 33 ((x_readAgain fz (M.1 1) (M.1 2) (M.1 33) (M.1 34) (M.1 35) (M.1 36) x2).2.2.1)) 34 ((x_readAgain fz (M.1 1) (M.1 2) (M.1 33) (M.1 34) (M.1 35) (M.1 36) x2).2.2.2.1)) 35 ((x_readAgain fz (M.1 1) (M.1 2) (M.1 33) (M.1 34) (M.1 35) (M.1 36) x2).2.2.2.2.1)) 36 ((x_readAgain fz (M.1 1) (M.1 2) (M.1 33) (M.1 34) (M.1 35) (M.1 36) x2).2.2.2.2.2))) := by
  simp only [x_readAgain_ok] at hk
  refine GM.of oX9_readAgain.1 (Nat.le_of_ble_eq_true rfl) ?_
  show G z mX9_readAgain (d + 2) 0 0 0 [some (.ref 33), some (.ref 1), some (.int x2), none, none] [] M _
  obtain ⟨Q, hQ⟩ : ∃ Q : Rs → Prop, Q = (fun rs => rs = .inl (none, mrow (mrow (mrow (mrow (mrow M 1 ((x_readAgain fz (M.1 1) (M.1 2) (M.1 33) (M.1 34) (M.1 35) (M.1 36) x2).2.1)) 33 ((x_readAgain fz (M.1 1) (M.1 2) (M.1 33) (M.1 34) (M.1 35) (M.1 36) x2).2.2.1)) 34 ((x_readAgain fz (M.1 1) (M.1 2) (M.1 33) (M.1 34) (M.1 35) (M.1 36) x2).2.2.2.1)) 35 ((x_readAgain fz (M.1 1) (M.1 2) (M.1 33) (M.1 34) (M.1 35) (M.1 36) x2).2.2.2.2.1)) 36 ((x_readAgain fz (M.1 1) (M.1 2) (M.1 33) (M.1 34) (M.1 35) (M.1 36) x2).2.2.2.2.2))) := ⟨_, rfl⟩
  rw [← hQ]
  refine G.sl [(.iload_n 2, 1, 2, 0, 0, 0), (.bipush 6, 2, 0, 0, 0, nI 6)] [] (pc2 := 3) (ls2 := [some (.ref 33), some (.ref 1), some (.int x2), none, none]) (st2 := [.int (nI 6), .int x2]) (M2 := M) (Ps := []) (by decide +kernel) rfl rfl trivial ?_
  refine G.ic_lt (off := (13)) (tgt := 16) (by decide +kernel) rfl (fun c1 => ?_) (fun c1 => ?_)
  · skip
    rw [if_pos c1] at hk
    refine G.sl [(.aload_n 0, 1, 0, 0, 0, 0), (.getfield 25, 3, 8, 3, 68, 0), (.istore_n 3, 1, 3, 0, 0, 0), (.aload_n 0, 1, 0, 0, 0, 0), (.iconst 5, 1, 0, 0, 0, nI 5), (.aload_n 1, 1, 1, 0, 0, 0), (.iconst 0, 1, 0, 0, 0, nI 0), (.bipush 30, 2, 0, 0, 0, nI 30)] [] (pc2 := 27) (ls2 := [some (.ref 33), some (.ref 1), some (.int x2), some (.int (M.1 33 3)), none]) (st2 := [.int (nI 30), .int (nI 0), .ref 1, .int (nI 5), .ref 33]) (M2 := M) (Ps := []) (by decide +kernel) rfl rfl trivial ?_
    obtain ⟨k2, hk⟩ := hk
    rcases g3 : t_number (M.1 1) (M.1 2) (nI 0) (nI 30) with ⟨v4, r5⟩
    try simp only [g3] at hk
    have t6 : GM z mX6_number (d + 1) [.ref 1, .int (nI 0), .int (nI 30)] M (fun rs => rs = .inl (some (.int v4), mrow M 1 r5)) := by
      have q9 := c_t_number_1 z d M (nI 0) (nI 30) k2
      try simp only [mput, mrow_same, mrow_hit, mrow_miss, mrow_sw, idr_eq, ne_eq, Nat.reduceEqDiff, not_false_eq_true, Nat.reduceLT, reduceCtorEq, g3] at q9
      exact q9
    refine G.callV (as := [.int (nI 0), .int (nI 30)]) (rest := [.int (nI 5), .ref 33]) (a := 1) oX6_number lk_EvenFinders_Work_57 (by decide +kernel) rfl rfl ⟨rfl, rfl⟩ (Nat.le_of_ble_eq_true rfl) rfl ⟨Nat.le_of_ble_eq_true rfl, Nat.le_of_ble_eq_true rfl⟩ t6 (fun v9 N9 h7 => ?_) (fun E9 N9 h7 => by cases h7)
    cases h7
    show G z mX9_readAgain (d + 2) 0 0 30 [some (.ref 33), some (.ref 1), some (.int x2), some (.int (M.1 33 3)), none] [.int v4, .int (nI 5), .ref 33] (mrow M 1 r5) Q
    refine G.sl [(.iconst 0, 1, 0, 0, 0, nI 0)] [] (pc2 := 31) (ls2 := [some (.ref 33), some (.ref 1), some (.int x2), some (.int (M.1 33 3)), none]) (st2 := [.int (nI 0), .int v4, .int (nI 5), .ref 33]) (M2 := mrow M 1 r5) (Ps := []) (by decide +kernel) rfl rfl trivial ?_
    obtain ⟨k8, hk⟩ := hk
    rcases g9 : x_put (M.1 33) (M.1 34) (M.1 35) (M.1 36) (nI 5) v4 (nI 0) with ⟨u10, r11, r12, r13, r14⟩
    try simp only [g9] at hk
    have t15 : GM z mX9_put (d + 1) [.ref 33, .int (nI 5), .int v4, .int (nI 0)] (mrow M 1 r5) (fun rs => rs = .inl (none, mrow (mrow (mrow (mrow (mrow M 1 r5) 33 r11) 34 r12) 35 r13) 36 r14)) := by
      have q9 := c_x_put_33 z (d + 1) (mrow M 1 r5) (nI 5) v4 (nI 0) k8
      try simp only [mput, mrow_same, mrow_hit, mrow_miss, mrow_sw, idr_eq, ne_eq, Nat.reduceEqDiff, not_false_eq_true, Nat.reduceLT, reduceCtorEq, g9] at q9
      exact q9
    refine G.callV (as := [.int (nI 5), .int v4, .int (nI 0)]) (rest := []) (a := 33) oX9_put lk_EvenFinders_Work_48 (by decide +kernel) rfl rfl ⟨rfl, rfl⟩ (Nat.le_of_ble_eq_true rfl) rfl ⟨Nat.le_of_ble_eq_true rfl, Nat.le_of_ble_eq_true rfl⟩ t15 (fun v9 N9 h16 => ?_) (fun E9 N9 h16 => by cases h16)
    cases h16
    show G z mX9_readAgain (d + 2) 0 0 34 [some (.ref 33), some (.ref 1), some (.int x2), some (.int (M.1 33 3)), none] [] (mrow (mrow (mrow (mrow (mrow M 1 r5) 33 r11) 34 r12) 35 r13) 36 r14) Q
    refine G.sl [(.aload_n 1, 1, 1, 0, 0, 0), (.bipush 91, 2, 0, 0, 0, nI 91)] [] (pc2 := 37) (ls2 := [some (.ref 33), some (.ref 1), some (.int x2), some (.int (M.1 33 3)), none]) (st2 := [.int (nI 91), .ref 1]) (M2 := mrow (mrow (mrow (mrow (mrow M 1 r5) 33 r11) 34 r12) 35 r13) 36 r14) (Ps := []) (by decide +kernel) rfl rfl trivial ?_
    obtain ⟨k17, hk⟩ := hk
    rcases g18 : t_needSign r5 (M.1 2) (nI 91) with ⟨u19, r20⟩
    try simp only [g18] at hk
    have t21 : GM z mX6_needSign (d + 1) [.ref 1, .int (nI 91)] (mrow (mrow (mrow (mrow (mrow M 1 r5) 33 r11) 34 r12) 35 r13) 36 r14) (fun rs => rs = .inl (none, mrow (mrow (mrow (mrow (mrow M 1 r20) 33 r11) 34 r12) 35 r13) 36 r14)) := by
      have q9 := c_t_needSign_1 z d (mrow (mrow (mrow (mrow (mrow M 1 r5) 33 r11) 34 r12) 35 r13) 36 r14) (nI 91) k17
      try simp only [mput, mrow_same, mrow_hit, mrow_miss, mrow_sw, idr_eq, ne_eq, Nat.reduceEqDiff, not_false_eq_true, Nat.reduceLT, reduceCtorEq, g18] at q9
      exact q9
    refine G.callV (as := [.int (nI 91)]) (rest := []) (a := 1) oX6_needSign lk_EvenFinders_Work_67 (by decide +kernel) rfl rfl ⟨rfl, rfl⟩ (Nat.le_of_ble_eq_true rfl) rfl ⟨Nat.le_of_ble_eq_true rfl, Nat.le_of_ble_eq_true rfl⟩ t21 (fun v9 N9 h22 => ?_) (fun E9 N9 h22 => by cases h22)
    cases h22
    show G z mX9_readAgain (d + 2) 0 0 40 [some (.ref 33), some (.ref 1), some (.int x2), some (.int (M.1 33 3)), none] [] (mrow (mrow (mrow (mrow (mrow M 1 r20) 33 r11) 34 r12) 35 r13) 36 r14) Q
    refine G.sl [(.iconst 0, 1, 0, 0, 0, nI 0), (.istore 4, 2, 4, 0, 0, 0)] [] (pc2 := 43) (ls2 := [some (.ref 33), some (.ref 1), some (.int x2), some (.int (M.1 33 3)), some (.int (nI 0))]) (st2 := []) (M2 := mrow (mrow (mrow (mrow (mrow M 1 r20) 33 r11) 34 r12) 35 r13) 36 r14) (Ps := []) (by decide +kernel) rfl rfl trivial ?_
    obtain ⟨k47, hk⟩ := hk
    refine G.mem (M' := mrow (mrow (mrow (mrow (mrow (mrow (mrow (mrow (mrow (mrow M 1 r20) 33 r11) 34 r12) 35 r13) 36 r14) 1 ((mrow (mrow (mrow (mrow (mrow M 1 r20) 33 r11) 34 r12) 35 r13) 36 r14).1 1)) 33 ((mrow (mrow (mrow (mrow (mrow M 1 r20) 33 r11) 34 r12) 35 r13) 36 r14).1 33)) 34 ((mrow (mrow (mrow (mrow (mrow M 1 r20) 33 r11) 34 r12) 35 r13) 36 r14).1 34)) 35 ((mrow (mrow (mrow (mrow (mrow M 1 r20) 33 r11) 34 r12) 35 r13) 36 r14).1 35)) 36 ((mrow (mrow (mrow (mrow (mrow M 1 r20) 33 r11) 34 r12) 35 r13) 36 r14).1 36)) (by simp only [mrow_self]) ?_
    refine lp_x_readAgain_33_1_43 z d (mrow (mrow (mrow (mrow (mrow M 1 r20) 33 r11) 34 r12) 35 r13) 36 r14) Q (cN 150) x2 (M.1 33 3) nr hnr hr nt hnt ht nf hnf hf fz gz Hz (cN_eq 150) (cN 150) 0 ((mrow (mrow (mrow (mrow (mrow M 1 r20) 33 r11) 34 r12) 35 r13) 36 r14).1 1) ((mrow (mrow (mrow (mrow (mrow M 1 r20) 33 r11) 34 r12) 35 r13) 36 r14).1 33) ((mrow (mrow (mrow (mrow (mrow M 1 r20) 33 r11) 34 r12) 35 r13) 36 r14).1 34) ((mrow (mrow (mrow (mrow (mrow M 1 r20) 33 r11) 34 r12) 35 r13) 36 r14).1 35) ((mrow (mrow (mrow (mrow (mrow M 1 r20) 33 r11) 34 r12) 35 r13) 36 r14).1 36) (Nat.zero_add _) (by first | (simp only [mput, mrow_same, mrow_hit, mrow_miss, mrow_sw, idr_eq, ne_eq, Nat.reduceEqDiff, not_false_eq_true, Nat.reduceLT, reduceCtorEq]; exact k47) | exact k47) ?_
    try simp only [mput, mrow_same, mrow_hit, mrow_miss, mrow_sw, idr_eq, ne_eq, Nat.reduceEqDiff, not_false_eq_true, Nat.reduceLT, reduceCtorEq]
    rcases g48 : x_readAgain_43 fz (M.1 2) x2 (M.1 33 3) (cN 150) 0 r20 r11 r12 r13 r14 with ⟨r49, r50, r51, r52, r53⟩
    try simp only [g48] at hk
    show G z mX9_readAgain (d + 2) 0 0 82 [some (.ref 33), some (.ref 1), none, some (.int (M.1 33 3)), none] [] (mrow (mrow (mrow (mrow (mrow M 1 r49) 33 r50) 34 r51) 35 r52) 36 r53) Q
    refine G.sl [(.aload_n 1, 1, 1, 0, 0, 0), (.bipush 93, 2, 0, 0, 0, nI 93)] [] (pc2 := 85) (ls2 := [some (.ref 33), some (.ref 1), none, some (.int (M.1 33 3)), none]) (st2 := [.int (nI 93), .ref 1]) (M2 := mrow (mrow (mrow (mrow (mrow M 1 r49) 33 r50) 34 r51) 35 r52) 36 r53) (Ps := []) (by decide +kernel) rfl rfl trivial ?_
    obtain ⟨k54, hk⟩ := hk
    rcases g55 : t_needSign r49 (M.1 2) (nI 93) with ⟨u56, r57⟩
    try simp only [g55] at hk
    have t58 : GM z mX6_needSign (d + 1) [.ref 1, .int (nI 93)] (mrow (mrow (mrow (mrow (mrow M 1 r49) 33 r50) 34 r51) 35 r52) 36 r53) (fun rs => rs = .inl (none, mrow (mrow (mrow (mrow (mrow M 1 r57) 33 r50) 34 r51) 35 r52) 36 r53)) := by
      have q9 := c_t_needSign_1 z d (mrow (mrow (mrow (mrow (mrow M 1 r49) 33 r50) 34 r51) 35 r52) 36 r53) (nI 93) k54
      try simp only [mput, mrow_same, mrow_hit, mrow_miss, mrow_sw, idr_eq, ne_eq, Nat.reduceEqDiff, not_false_eq_true, Nat.reduceLT, reduceCtorEq, g55] at q9
      exact q9
    refine G.callV (as := [.int (nI 93)]) (rest := []) (a := 1) oX6_needSign lk_EvenFinders_Work_67 (by decide +kernel) rfl rfl ⟨rfl, rfl⟩ (Nat.le_of_ble_eq_true rfl) rfl ⟨Nat.le_of_ble_eq_true rfl, Nat.le_of_ble_eq_true rfl⟩ t58 (fun v9 N9 h59 => ?_) (fun E9 N9 h59 => by cases h59)
    cases h59
    show G z mX9_readAgain (d + 2) 0 0 88 [some (.ref 33), some (.ref 1), none, some (.int (M.1 33 3)), none] [] (mrow (mrow (mrow (mrow (mrow M 1 r57) 33 r50) 34 r51) 35 r52) 36 r53) Q
    refine G.sl [(.iload_n 3, 1, 3, 0, 0, 0), (.aload_n 0, 1, 0, 0, 0, 0), (.getfield 18, 3, 8, 7, 72, 0), (.arraylength, 1, 0, 0, 0, 0)] [] (pc2 := 94) (ls2 := [some (.ref 33), some (.ref 1), none, some (.int (M.1 33 3)), none]) (st2 := [.int (nI 150), .int (M.1 33 3)]) (M2 := mrow (mrow (mrow (mrow (mrow M 1 r57) 33 r50) 34 r51) 35 r52) 36 r53) (Ps := []) (by decide +kernel) rfl rfl trivial ?_
    refine G.ic_ge (off := (13)) (tgt := 107) (by decide +kernel) rfl (fun c60 => ?_) (fun c60 => ?_)
    · skip
      rw [if_pos c60] at hk
      exact G.retv (by decide +kernel) rfl (Nat.le_of_ble_eq_true rfl) (Nat.le_of_ble_eq_true rfl) ((by rw [hQ]; simp only [x_readAgain, if_pos c1, g3, g9, g18, g48, g55, if_pos c60, mrow_self]))
    · skip
      rw [if_neg c60] at hk
      obtain ⟨k61, k62, hk⟩ := hk
      refine G.sl [(.aload_n 0, 1, 0, 0, 0, 0), (.getfield 18, 3, 8, 7, 72, 0), (.iload_n 3, 1, 3, 0, 0, 0), (.aload_n 0, 1, 0, 0, 0, 0), (.getfield 25, 3, 8, 3, 68, 0), (.iastore, 1, 0, 0, 0, 0)] [ix (M.1 33 3)] (pc2 := 107) (ls2 := [some (.ref 33), some (.ref 1), none, some (.int (M.1 33 3)), none]) (st2 := []) (M2 := mput (mrow (mrow (mrow (mrow (mrow M 1 r57) 33 r50) 34 r51) 35 r52) 36 r53) 36 (ix (M.1 33 3)) (r50 3)) (Ps := [(M.1 33 3) = nI (ix (M.1 33 3)) ∧ (ix (M.1 33 3)) < 150]) (by decide +kernel) rfl rfl ⟨⟨(ixE k61), k62⟩, trivial⟩ ?_
      refine G.mem (M' := mrow (mrow (mrow (mrow (mrow M 1 r57) 33 r50) 34 r51) 35 r52) 36 (upd r53 (ix (M.1 33 3)) (r50 3))) (by first | rfl | (simp only [mput, mrow_same, mrow_hit, mrow_miss, mrow_sw, idr_eq, ne_eq, Nat.reduceEqDiff, not_false_eq_true, Nat.reduceLT, reduceCtorEq]; done)) ?_
      exact G.retv (by decide +kernel) rfl (Nat.le_of_ble_eq_true rfl) (Nat.le_of_ble_eq_true rfl) ((by rw [hQ]; simp only [x_readAgain, if_pos c1, g3, g9, g18, g48, g55, if_neg c60, mrow_self]))
  · skip
    rw [if_neg c1] at hk
    refine G.sl [(.aload_n 1, 1, 1, 0, 0, 0), (.iconst 3, 1, 0, 0, 0, nI 3), (.aload_n 1, 1, 1, 0, 0, 0), (.getfield 71, 3, 5, 4, 9, 0)] [] (pc2 := 12) (ls2 := [some (.ref 33), some (.ref 1), some (.int x2), none, none]) (st2 := [.int (M.1 1 4), .int (nI 3), .ref 1]) (M2 := M) (Ps := []) (by decide +kernel) rfl rfl trivial ?_
    rcases g64 : t_fail (M.1 1) (nI 3) (M.1 1 4) with ⟨u65, r66⟩
    have t67 : GM z mX6_fail (d + 1) [.ref 1, .int (nI 3), .int (M.1 1 4)] M (fun rs => rs = .inl (none, mrow M 1 r66)) := by
      have q9 := c_t_fail_1 z (d + 1) M (nI 3) (M.1 1 4)
      try simp only [mput, mrow_same, mrow_hit, mrow_miss, mrow_sw, idr_eq, ne_eq, Nat.reduceEqDiff, not_false_eq_true, Nat.reduceLT, reduceCtorEq, g64] at q9
      exact q9
    refine G.callV (as := [.int (nI 3), .int (M.1 1 4)]) (rest := []) (a := 1) oX6_fail lk_EvenFinders_Work_74 (by decide +kernel) rfl rfl ⟨rfl, rfl⟩ (Nat.le_of_ble_eq_true rfl) rfl ⟨Nat.le_of_ble_eq_true rfl, Nat.le_of_ble_eq_true rfl⟩ t67 (fun v9 N9 h68 => ?_) (fun E9 N9 h68 => by cases h68)
    cases h68
    show G z mX9_readAgain (d + 2) 0 0 15 [some (.ref 33), some (.ref 1), some (.int x2), none, none] [] (mrow M 1 r66) Q
    refine G.mem (M' := mrow (mrow (mrow (mrow (mrow M 1 r66) 33 (M.1 33)) 34 (M.1 34)) 35 (M.1 35)) 36 (M.1 36)) ((((((mrow_id (N := mrow M 1 r66) (c := 33) (f := M.1 33) (by first | rfl | (simp only [mput, mrow_same, mrow_hit, mrow_miss, mrow_sw, idr_eq, ne_eq, Nat.reduceEqDiff, not_false_eq_true, Nat.reduceLT, reduceCtorEq]; done))).symm).trans (mrow_id (N := mrow (mrow M 1 r66) 33 (M.1 33)) (c := 34) (f := M.1 34) (by first | rfl | (simp only [mput, mrow_same, mrow_hit, mrow_miss, mrow_sw, idr_eq, ne_eq, Nat.reduceEqDiff, not_false_eq_true, Nat.reduceLT, reduceCtorEq]; done))).symm).trans (mrow_id (N := mrow (mrow (mrow M 1 r66) 33 (M.1 33)) 34 (M.1 34)) (c := 35) (f := M.1 35) (by first | rfl | (simp only [mput, mrow_same, mrow_hit, mrow_miss, mrow_sw, idr_eq, ne_eq, Nat.reduceEqDiff, not_false_eq_true, Nat.reduceLT, reduceCtorEq]; done))).symm).trans (mrow_id (N := mrow (mrow (mrow (mrow M 1 r66) 33 (M.1 33)) 34 (M.1 34)) 35 (M.1 35)) (c := 36) (f := M.1 36) (by first | rfl | (simp only [mput, mrow_same, mrow_hit, mrow_miss, mrow_sw, idr_eq, ne_eq, Nat.reduceEqDiff, not_false_eq_true, Nat.reduceLT, reduceCtorEq]; done))).symm).trans (by first | rfl | (simp only [mput, mrow_same, mrow_hit, mrow_miss, mrow_sw, idr_eq, ne_eq, Nat.reduceEqDiff, not_false_eq_true, Nat.reduceLT, reduceCtorEq]; done))) ?_
    exact G.retv (by decide +kernel) rfl (Nat.le_of_ble_eq_true rfl) (Nat.le_of_ble_eq_true rfl) ((by rw [hQ]; simp only [x_readAgain, if_neg c1, g64, mrow_self]))
set_option maxHeartbeats 4000000 in
set_option maxRecDepth 3000 in
theorem c_x_readStep_33_1_st (z : Zp) (d : Nat) (M : Mem) (x2 : Int32) (nr : Nat) (hnr : nr ≤ 12) (hr : M.1 3 1 = nI nr) (nt : Nat) (hnt : nt ≤ 10) (ht : M.1 3 2 = nI nt) (nf : Nat) (hnf : nf ≤ 6) (hf : M.1 3 3 = nI nf) (fz : (Nat → Int32) → (Nat → Int32) → (Nat → Int32) → (Nat → Int32) → (Nat → Int32) → (Nat → Int32) → Int32 → Int32 × (Nat → Int32) × (Nat → Int32) × (Nat → Int32) × (Nat → Int32) × (Nat → Int32)) (gz : (Nat → Int32) → (Nat → Int32) → (Nat → Int32) → (Nat → Int32) → (Nat → Int32) → (Nat → Int32) → Int32 → Prop) (Hz : ∀ (j : Nat) (M : Mem) (x2 : Int32), M.1 3 1 = nI nr → M.1 3 2 = nI nt → M.1 3 3 = nI nf → gz (M.1 1) (M.1 2) (M.1 33) (M.1 34) (M.1 35) (M.1 36) x2 → GM z mX9_readStep (d + j) [.ref 33, .ref 1, .int x2] M (fun rs => rs = .inl (none, mrow (mrow (mrow (mrow (mrow M 1 ((fz (M.1 1) (M.1 2) (M.1 33) (M.1 34) (M.1 35) (M.1 36) x2).2.1)) 33 ((fz (M.1 1) (M.1 2) (M.1 33) (M.1 34) (M.1 35) (M.1 36) x2).2.2.1)) 34 ((fz (M.1 1) (M.1 2) (M.1 33) (M.1 34) (M.1 35) (M.1 36) x2).2.2.2.1)) 35 ((fz (M.1 1) (M.1 2) (M.1 33) (M.1 34) (M.1 35) (M.1 36) x2).2.2.2.2.1)) 36 ((fz (M.1 1) (M.1 2) (M.1 33) (M.1 34) (M.1 35) (M.1 36) x2).2.2.2.2.2)))) (hk : x_readStep_st_ok fz gz (M.1 1) (M.1 2) (M.1 33) (M.1 34) (M.1 35) (M.1 36) nr nt nf x2) : GM z mX9_readStep (d + 6) [.ref 33, .ref 1, .int x2] M (fun rs => rs = .inl (none, mrow (mrow (mrow (mrow (mrow M 1 ((x_readStep_st fz (M.1 1) (M.1 2) (M.1 33) (M.1 34) (M.1 35) (M.1 36) nr nt nf x2).2.1)) 33 ((x_readStep_st fz (M.1 1) (M.1 2) (M.1 33) (M.1 34) (M.1 35) (M.1 36) nr nt nf x2).2.2.1)) 34 ((x_readStep_st fz (M.1 1) (M.1 2) (M.1 33) (M.1 34) (M.1 35) (M.1 36) nr nt nf x2).2.2.2.1)) 35 ((x_readStep_st fz (M.1 1) (M.1 2) (M.1 33) (M.1 34) (M.1 35) (M.1 36) nr nt nf x2).2.2.2.2.1)) 36 ((x_readStep_st fz (M.1 1) (M.1 2) (M.1 33) (M.1 34) (M.1 35) (M.1 36) nr nt nf x2).2.2.2.2.2))) := by
  simp only [x_readStep_st_ok] at hk
  refine GM.of oX9_readStep.1 (Nat.le_of_ble_eq_true rfl) ?_
  show G z mX9_readStep (d + 6) 0 0 0 [some (.ref 33), some (.ref 1), some (.int x2), none, none] [] M _
  obtain ⟨Q, hQ⟩ : ∃ Q : Rs → Prop, Q = (fun rs => rs = .inl (none, mrow (mrow (mrow (mrow (mrow M 1 ((x_readStep_st fz (M.1 1) (M.1 2) (M.1 33) (M.1 34) (M.1 35) (M.1 36) nr nt nf x2).2.1)) 33 ((x_readStep_st fz (M.1 1) (M.1 2) (M.1 33) (M.1 34) (M.1 35) (M.1 36) nr nt nf x2).2.2.1)) 34 ((x_readStep_st fz (M.1 1) (M.1 2) (M.1 33) (M.1 34) (M.1 35) (M.1 36) nr nt nf x2).2.2.2.1)) 35 ((x_readStep_st fz (M.1 1) (M.1 2) (M.1 33) (M.1 34) (M.1 35) (M.1 36) nr nt nf x2).2.2.2.2.1)) 36 ((x_readStep_st fz (M.1 1) (M.1 2) (M.1 33) (M.1 34) (M.1 35) (M.1 36) nr nt nf x2).2.2.2.2.2))) := ⟨_, rfl⟩
  rw [← hQ]
  refine G.sl [(.aload_n 1, 1, 1, 0, 0, 0), (.ldc 39, 2, 1, 3, 0, 0)] [] (pc2 := 3) (ls2 := [some (.ref 33), some (.ref 1), some (.int x2), none, none]) (st2 := [.ref 1003, .ref 1]) (M2 := M) (Ps := []) (by decide +kernel) rfl rfl trivial ?_
  obtain ⟨k1, hk⟩ := hk
  rcases g2 : t_word_s3 (M.1 1) (M.1 2) with ⟨v3, r4⟩
  try simp only [g2] at hk
  have t5 : GM z mX6_word (d + 5) [.ref 1, .ref 1003] M (fun rs => rs = .inl (some (.int v3), mrow M 1 r4)) := by
    have q9 := c_t_word_s3_1 z d M k1
    try simp only [mput, mrow_same, mrow_hit, mrow_miss, mrow_sw, idr_eq, ne_eq, Nat.reduceEqDiff, not_false_eq_true, Nat.reduceLT, reduceCtorEq, g2] at q9
    exact q9
  refine G.callV (as := [.ref 1003]) (rest := []) (a := 1) oX6_word lk_EvenFinders_Work_41 (by decide +kernel) rfl rfl ⟨rfl, rfl⟩ (Nat.le_of_ble_eq_true rfl) rfl ⟨Nat.le_of_ble_eq_true rfl, Nat.le_of_ble_eq_true rfl⟩ t5 (fun v9 N9 h6 => ?_) (fun E9 N9 h6 => by cases h6)
  cases h6
  show G z mX9_readStep (d + 6) 0 0 6 [some (.ref 33), some (.ref 1), some (.int x2), none, none] [.int v3] (mrow M 1 r4) Q
  refine G.sl [(.istore_n 3, 1, 3, 0, 0, 0), (.iload_n 3, 1, 3, 0, 0, 0), (.iconst 5, 1, 0, 0, 0, nI 5)] [] (pc2 := 9) (ls2 := [some (.ref 33), some (.ref 1), some (.int x2), some (.int v3), none]) (st2 := [.int (nI 5), .int v3]) (M2 := mrow M 1 r4) (Ps := []) (by decide +kernel) rfl rfl trivial ?_
  refine G.ic_ne (off := (12)) (tgt := 21) (by decide +kernel) rfl (fun c7 => ?_) (fun c7 => ?_)
  · skip
    rw [if_neg c7] at hk
    refine G.sl [(.iload_n 3, 1, 3, 0, 0, 0), (.iconst 4, 1, 0, 0, 0, nI 4)] [] (pc2 := 23) (ls2 := [some (.ref 33), some (.ref 1), some (.int x2), some (.int v3), none]) (st2 := [.int (nI 4), .int v3]) (M2 := mrow M 1 r4) (Ps := []) (by decide +kernel) rfl rfl trivial ?_
    refine G.ic_ne (off := (13)) (tgt := 36) (by decide +kernel) rfl (fun c8 => ?_) (fun c8 => ?_)
    · skip
      rw [if_neg c8] at hk
      refine G.sl [(.iload_n 3, 1, 3, 0, 0, 0), (.iconst (-1), 1, 0, 0, 0, (-1))] [] (pc2 := 38) (ls2 := [some (.ref 33), some (.ref 1), some (.int x2), some (.int v3), none]) (st2 := [.int ((-1)), .int v3]) (M2 := mrow M 1 r4) (Ps := []) (by decide +kernel) rfl rfl trivial ?_
      refine G.ic_eq (off := (54)) (tgt := 92) (by decide +kernel) rfl (fun c9 => ?_) (fun c9 => ?_)
      · skip
        rw [if_pos c9] at hk
        refine G.sl [(.aload_n 1, 1, 1, 0, 0, 0), (.bipush 59, 2, 0, 0, 0, nI 59)] [] (pc2 := 95) (ls2 := [some (.ref 33), some (.ref 1), some (.int x2), some (.int v3), none]) (st2 := [.int (nI 59), .ref 1]) (M2 := mrow M 1 r4) (Ps := []) (by decide +kernel) rfl rfl trivial ?_
        obtain ⟨k10, hk⟩ := hk
        rcases g11 : t_needSign r4 (M.1 2) (nI 59) with ⟨u12, r13⟩
        have t14 : GM z mX6_needSign (d + 5) [.ref 1, .int (nI 59)] (mrow M 1 r4) (fun rs => rs = .inl (none, mrow M 1 r13)) := by
          have q9 := c_t_needSign_1 z (d + 4) (mrow M 1 r4) (nI 59) k10
          try simp only [mput, mrow_same, mrow_hit, mrow_miss, mrow_sw, idr_eq, ne_eq, Nat.reduceEqDiff, not_false_eq_true, Nat.reduceLT, reduceCtorEq, g11] at q9
          exact q9
        refine G.callV (as := [.int (nI 59)]) (rest := []) (a := 1) oX6_needSign lk_EvenFinders_Work_67 (by decide +kernel) rfl rfl ⟨rfl, rfl⟩ (Nat.le_of_ble_eq_true rfl) rfl ⟨Nat.le_of_ble_eq_true rfl, Nat.le_of_ble_eq_true rfl⟩ t14 (fun v9 N9 h15 => ?_) (fun E9 N9 h15 => by cases h15)
        cases h15
        show G z mX9_readStep (d + 6) 0 0 98 [some (.ref 33), some (.ref 1), some (.int x2), some (.int v3), none] [] (mrow M 1 r13) Q
        refine G.mem (M' := mrow (mrow (mrow (mrow (mrow M 1 r13) 33 (M.1 33)) 34 (M.1 34)) 35 (M.1 35)) 36 (M.1 36)) ((((((mrow_id (N := mrow M 1 r13) (c := 33) (f := M.1 33) (by first | rfl | (simp only [mput, mrow_same, mrow_hit, mrow_miss, mrow_sw, idr_eq, ne_eq, Nat.reduceEqDiff, not_false_eq_true, Nat.reduceLT, reduceCtorEq]; done))).symm).trans (mrow_id (N := mrow (mrow M 1 r13) 33 (M.1 33)) (c := 34) (f := M.1 34) (by first | rfl | (simp only [mput, mrow_same, mrow_hit, mrow_miss, mrow_sw, idr_eq, ne_eq, Nat.reduceEqDiff, not_false_eq_true, Nat.reduceLT, reduceCtorEq]; done))).symm).trans (mrow_id (N := mrow (mrow (mrow M 1 r13) 33 (M.1 33)) 34 (M.1 34)) (c := 35) (f := M.1 35) (by first | rfl | (simp only [mput, mrow_same, mrow_hit, mrow_miss, mrow_sw, idr_eq, ne_eq, Nat.reduceEqDiff, not_false_eq_true, Nat.reduceLT, reduceCtorEq]; done))).symm).trans (mrow_id (N := mrow (mrow (mrow (mrow M 1 r13) 33 (M.1 33)) 34 (M.1 34)) 35 (M.1 35)) (c := 36) (f := M.1 36) (by first | rfl | (simp only [mput, mrow_same, mrow_hit, mrow_miss, mrow_sw, idr_eq, ne_eq, Nat.reduceEqDiff, not_false_eq_true, Nat.reduceLT, reduceCtorEq]; done))).symm).trans (by first | rfl | (simp only [mput, mrow_same, mrow_hit, mrow_miss, mrow_sw, idr_eq, ne_eq, Nat.reduceEqDiff, not_false_eq_true, Nat.reduceLT, reduceCtorEq]; done))) ?_
        exact G.retv (by decide +kernel) rfl (Nat.le_of_ble_eq_true rfl) (Nat.le_of_ble_eq_true rfl) ((by rw [hQ]; simp only [x_readStep_st, g2, if_neg c7, if_neg c8, if_pos c9, g11, mrow_self]))
      · skip
        rw [if_neg c9] at hk
        refine G.sl [(.aload_n 1, 1, 1, 0, 0, 0), (.iconst 0, 1, 0, 0, 0, nI 0), (.aload_n 0, 1, 0, 0, 0, 0), (.getfield 21, 3, 8, 4, 69, 0), (.getfield 52, 3, 6, 3, 31, 0), (.iconst 1, 1, 0, 0, 0, nI 1), (.isub, 1, 0, 0, 0, 0)] [] (pc2 := 52) (ls2 := [some (.ref 33), some (.ref 1), some (.int x2), some (.int v3), none]) (st2 := [.int ((M.1 3 3) - (nI 1)), .int (nI 0), .ref 1]) (M2 := mrow M 1 r4) (Ps := []) (by decide +kernel) rfl rfl trivial ?_
        rw [hf]
        obtain ⟨k16, hk⟩ := hk
        rcases g17 : t_number r4 (M.1 2) (nI 0) ((nI nf) - (nI 1)) with ⟨v18, r19⟩
        try simp only [g17] at hk
        have t20 : GM z mX6_number (d + 5) [.ref 1, .int (nI 0), .int ((nI nf) - (nI 1))] (mrow M 1 r4) (fun rs => rs = .inl (some (.int v18), mrow M 1 r19)) := by
          have q9 := c_t_number_1 z (d + 4) (mrow M 1 r4) (nI 0) ((nI nf) - (nI 1)) k16
          try simp only [mput, mrow_same, mrow_hit, mrow_miss, mrow_sw, idr_eq, ne_eq, Nat.reduceEqDiff, not_false_eq_true, Nat.reduceLT, reduceCtorEq, g17] at q9
          exact q9
        refine G.callV (as := [.int (nI 0), .int ((nI nf) - (nI 1))]) (rest := []) (a := 1) oX6_number lk_EvenFinders_Work_57 (by decide +kernel) rfl rfl ⟨rfl, rfl⟩ (Nat.le_of_ble_eq_true rfl) rfl ⟨Nat.le_of_ble_eq_true rfl, Nat.le_of_ble_eq_true rfl⟩ t20 (fun v9 N9 h21 => ?_) (fun E9 N9 h21 => by cases h21)
        cases h21
        show G z mX9_readStep (d + 6) 0 0 55 [some (.ref 33), some (.ref 1), some (.int x2), some (.int v3), none] [.int v18] (mrow M 1 r19) Q
        refine G.sl [(.istore 4, 2, 4, 0, 0, 0), (.aload_n 0, 1, 0, 0, 0, 0), (.iload_n 3, 1, 3, 0, 0, 0), (.iload 4, 2, 4, 0, 0, 0), (.aload_n 1, 1, 1, 0, 0, 0), (.iconst 0, 1, 0, 0, 0, nI 0), (.iload_n 3, 1, 3, 0, 0, 0)] [] (pc2 := 64) (ls2 := [some (.ref 33), some (.ref 1), some (.int x2), some (.int v3), some (.int v18)]) (st2 := [.int v3, .int (nI 0), .ref 1, .int v18, .int v3, .ref 33]) (M2 := mrow M 1 r19) (Ps := []) (by decide +kernel) rfl rfl trivial ?_
        refine G.if_ne (off := (13)) (tgt := 77) (by decide +kernel) rfl (fun c22 => ?_) (fun c22 => ?_)
        · skip
          rw [if_neg c22] at hk
          refine G.sl [(.aload_n 0, 1, 0, 0, 0, 0), (.getfield 21, 3, 8, 4, 69, 0), (.getfield 64, 3, 6, 2, 26, 0), (.iconst 1, 1, 0, 0, 0, nI 1), (.isub, 1, 0, 0, 0, 0)] [] (pc2 := 86) (ls2 := [some (.ref 33), some (.ref 1), some (.int x2), some (.int v3), some (.int v18)]) (st2 := [.int ((M.1 3 2) - (nI 1)), .int (nI 0), .ref 1, .int v18, .int v3, .ref 33]) (M2 := mrow M 1 r19) (Ps := []) (by decide +kernel) rfl rfl trivial ?_
          rw [ht]
          obtain ⟨k23, hk⟩ := hk
          rcases g24 : t_number r19 (M.1 2) (nI 0) ((nI nt) - (nI 1)) with ⟨v25, r26⟩
          try simp only [g24] at hk
          have t27 : GM z mX6_number (d + 5) [.ref 1, .int (nI 0), .int ((nI nt) - (nI 1))] (mrow M 1 r19) (fun rs => rs = .inl (some (.int v25), mrow M 1 r26)) := by
            have q9 := c_t_number_1 z (d + 4) (mrow M 1 r19) (nI 0) ((nI nt) - (nI 1)) k23
            try simp only [mput, mrow_same, mrow_hit, mrow_miss, mrow_sw, idr_eq, ne_eq, Nat.reduceEqDiff, not_false_eq_true, Nat.reduceLT, reduceCtorEq, g24] at q9
            exact q9
          refine G.callV (as := [.int (nI 0), .int ((nI nt) - (nI 1))]) (rest := [.int v18, .int v3, .ref 33]) (a := 1) oX6_number lk_EvenFinders_Work_57 (by decide +kernel) rfl rfl ⟨rfl, rfl⟩ (Nat.le_of_ble_eq_true rfl) rfl ⟨Nat.le_of_ble_eq_true rfl, Nat.le_of_ble_eq_true rfl⟩ t27 (fun v9 N9 h28 => ?_) (fun E9 N9 h28 => by cases h28)
          cases h28
          show G z mX9_readStep (d + 6) 0 0 89 [some (.ref 33), some (.ref 1), some (.int x2), some (.int v3), some (.int v18)] [.int v25, .int v18, .int v3, .ref 33] (mrow M 1 r26) Q
          obtain ⟨k29, hk⟩ := hk
          rcases g30 : x_put (M.1 33) (M.1 34) (M.1 35) (M.1 36) v3 v18 v25 with ⟨u31, r32, r33, r34, r35⟩
          try simp only [g30] at hk
          have t36 : GM z mX9_put (d + 5) [.ref 33, .int v3, .int v18, .int v25] (mrow M 1 r26) (fun rs => rs = .inl (none, mrow (mrow (mrow (mrow (mrow M 1 r26) 33 r32) 34 r33) 35 r34) 36 r35)) := by
            have q9 := c_x_put_33 z (d + 5) (mrow M 1 r26) v3 v18 v25 k29
            try simp only [mput, mrow_same, mrow_hit, mrow_miss, mrow_sw, idr_eq, ne_eq, Nat.reduceEqDiff, not_false_eq_true, Nat.reduceLT, reduceCtorEq, g30] at q9
            exact q9
          refine G.callV (as := [.int v3, .int v18, .int v25]) (rest := []) (a := 33) oX9_put lk_EvenFinders_Work_48 (by decide +kernel) rfl rfl ⟨rfl, rfl⟩ (Nat.le_of_ble_eq_true rfl) rfl ⟨Nat.le_of_ble_eq_true rfl, Nat.le_of_ble_eq_true rfl⟩ t36 (fun v9 N9 h37 => ?_) (fun E9 N9 h37 => by cases h37)
          cases h37
          show G z mX9_readStep (d + 6) 0 0 92 [some (.ref 33), some (.ref 1), some (.int x2), some (.int v3), some (.int v18)] [] (mrow (mrow (mrow (mrow (mrow M 1 r26) 33 r32) 34 r33) 35 r34) 36 r35) Q
          refine G.sl [(.aload_n 1, 1, 1, 0, 0, 0), (.bipush 59, 2, 0, 0, 0, nI 59)] [] (pc2 := 95) (ls2 := [some (.ref 33), some (.ref 1), some (.int x2), some (.int v3), some (.int v18)]) (st2 := [.int (nI 59), .ref 1]) (M2 := mrow (mrow (mrow (mrow (mrow M 1 r26) 33 r32) 34 r33) 35 r34) 36 r35) (Ps := []) (by decide +kernel) rfl rfl trivial ?_
          obtain ⟨k38, hk⟩ := hk
          rcases g39 : t_needSign r26 (M.1 2) (nI 59) with ⟨u40, r41⟩
          have t42 : GM z mX6_needSign (d + 5) [.ref 1, .int (nI 59)] (mrow (mrow (mrow (mrow (mrow M 1 r26) 33 r32) 34 r33) 35 r34) 36 r35) (fun rs => rs = .inl (none, mrow (mrow (mrow (mrow (mrow M 1 r41) 33 r32) 34 r33) 35 r34) 36 r35)) := by
            have q9 := c_t_needSign_1 z (d + 4) (mrow (mrow (mrow (mrow (mrow M 1 r26) 33 r32) 34 r33) 35 r34) 36 r35) (nI 59) k38
            try simp only [mput, mrow_same, mrow_hit, mrow_miss, mrow_sw, idr_eq, ne_eq, Nat.reduceEqDiff, not_false_eq_true, Nat.reduceLT, reduceCtorEq, g39] at q9
            exact q9
          refine G.callV (as := [.int (nI 59)]) (rest := []) (a := 1) oX6_needSign lk_EvenFinders_Work_67 (by decide +kernel) rfl rfl ⟨rfl, rfl⟩ (Nat.le_of_ble_eq_true rfl) rfl ⟨Nat.le_of_ble_eq_true rfl, Nat.le_of_ble_eq_true rfl⟩ t42 (fun v9 N9 h43 => ?_) (fun E9 N9 h43 => by cases h43)
          cases h43
          show G z mX9_readStep (d + 6) 0 0 98 [some (.ref 33), some (.ref 1), some (.int x2), some (.int v3), some (.int v18)] [] (mrow (mrow (mrow (mrow (mrow M 1 r41) 33 r32) 34 r33) 35 r34) 36 r35) Q
          exact G.retv (by decide +kernel) rfl (Nat.le_of_ble_eq_true rfl) (Nat.le_of_ble_eq_true rfl) ((by rw [hQ]; simp only [x_readStep_st, g2, if_neg c7, if_neg c8, if_neg c9, g17, if_neg c22, g24, g30, g39, mrow_self]))
        · skip
          rw [if_pos c22] at hk
          refine G.sl [(.aload_n 0, 1, 0, 0, 0, 0), (.getfield 21, 3, 8, 4, 69, 0), (.getfield 61, 3, 6, 1, 20, 0), (.goto 10, 3, 84, 0, 0, 0), (.iconst 1, 1, 0, 0, 0, nI 1), (.isub, 1, 0, 0, 0, 0)] [] (pc2 := 86) (ls2 := [some (.ref 33), some (.ref 1), some (.int x2), some (.int v3), some (.int v18)]) (st2 := [.int ((M.1 3 1) - (nI 1)), .int (nI 0), .ref 1, .int v18, .int v3, .ref 33]) (M2 := mrow M 1 r19) (Ps := []) (by decide +kernel) rfl rfl trivial ?_
          rw [hr]
          obtain ⟨k44, hk⟩ := hk
          rcases g45 : t_number r19 (M.1 2) (nI 0) ((nI nr) - (nI 1)) with ⟨v46, r47⟩
          try simp only [g45] at hk
          have t48 : GM z mX6_number (d + 5) [.ref 1, .int (nI 0), .int ((nI nr) - (nI 1))] (mrow M 1 r19) (fun rs => rs = .inl (some (.int v46), mrow M 1 r47)) := by
            have q9 := c_t_number_1 z (d + 4) (mrow M 1 r19) (nI 0) ((nI nr) - (nI 1)) k44
            try simp only [mput, mrow_same, mrow_hit, mrow_miss, mrow_sw, idr_eq, ne_eq, Nat.reduceEqDiff, not_false_eq_true, Nat.reduceLT, reduceCtorEq, g45] at q9
            exact q9
          refine G.callV (as := [.int (nI 0), .int ((nI nr) - (nI 1))]) (rest := [.int v18, .int v3, .ref 33]) (a := 1) oX6_number lk_EvenFinders_Work_57 (by decide +kernel) rfl rfl ⟨rfl, rfl⟩ (Nat.le_of_ble_eq_true rfl) rfl ⟨Nat.le_of_ble_eq_true rfl, Nat.le_of_ble_eq_true rfl⟩ t48 (fun v9 N9 h49 => ?_) (fun E9 N9 h49 => by cases h49)
          cases h49
          show G z mX9_readStep (d + 6) 0 0 89 [some (.ref 33), some (.ref 1), some (.int x2), some (.int v3), some (.int v18)] [.int v46, .int v18, .int v3, .ref 33] (mrow M 1 r47) Q
          obtain ⟨k50, hk⟩ := hk
          rcases g51 : x_put (M.1 33) (M.1 34) (M.1 35) (M.1 36) v3 v18 v46 with ⟨u52, r53, r54, r55, r56⟩
          try simp only [g51] at hk
          have t57 : GM z mX9_put (d + 5) [.ref 33, .int v3, .int v18, .int v46] (mrow M 1 r47) (fun rs => rs = .inl (none, mrow (mrow (mrow (mrow (mrow M 1 r47) 33 r53) 34 r54) 35 r55) 36 r56)) := by
            have q9 := c_x_put_33 z (d + 5) (mrow M 1 r47) v3 v18 v46 k50
            try simp only [mput, mrow_same, mrow_hit, mrow_miss, mrow_sw, idr_eq, ne_eq, Nat.reduceEqDiff, not_false_eq_true, Nat.reduceLT, reduceCtorEq, g51] at q9
            exact q9
          refine G.callV (as := [.int v3, .int v18, .int v46]) (rest := []) (a := 33) oX9_put lk_EvenFinders_Work_48 (by decide +kernel) rfl rfl ⟨rfl, rfl⟩ (Nat.le_of_ble_eq_true rfl) rfl ⟨Nat.le_of_ble_eq_true rfl, Nat.le_of_ble_eq_true rfl⟩ t57 (fun v9 N9 h58 => ?_) (fun E9 N9 h58 => by cases h58)
          cases h58
          show G z mX9_readStep (d + 6) 0 0 92 [some (.ref 33), some (.ref 1), some (.int x2), some (.int v3), some (.int v18)] [] (mrow (mrow (mrow (mrow (mrow M 1 r47) 33 r53) 34 r54) 35 r55) 36 r56) Q
          refine G.sl [(.aload_n 1, 1, 1, 0, 0, 0), (.bipush 59, 2, 0, 0, 0, nI 59)] [] (pc2 := 95) (ls2 := [some (.ref 33), some (.ref 1), some (.int x2), some (.int v3), some (.int v18)]) (st2 := [.int (nI 59), .ref 1]) (M2 := mrow (mrow (mrow (mrow (mrow M 1 r47) 33 r53) 34 r54) 35 r55) 36 r56) (Ps := []) (by decide +kernel) rfl rfl trivial ?_
          obtain ⟨k59, hk⟩ := hk
          rcases g60 : t_needSign r47 (M.1 2) (nI 59) with ⟨u61, r62⟩
          have t63 : GM z mX6_needSign (d + 5) [.ref 1, .int (nI 59)] (mrow (mrow (mrow (mrow (mrow M 1 r47) 33 r53) 34 r54) 35 r55) 36 r56) (fun rs => rs = .inl (none, mrow (mrow (mrow (mrow (mrow M 1 r62) 33 r53) 34 r54) 35 r55) 36 r56)) := by
            have q9 := c_t_needSign_1 z (d + 4) (mrow (mrow (mrow (mrow (mrow M 1 r47) 33 r53) 34 r54) 35 r55) 36 r56) (nI 59) k59
            try simp only [mput, mrow_same, mrow_hit, mrow_miss, mrow_sw, idr_eq, ne_eq, Nat.reduceEqDiff, not_false_eq_true, Nat.reduceLT, reduceCtorEq, g60] at q9
            exact q9
          refine G.callV (as := [.int (nI 59)]) (rest := []) (a := 1) oX6_needSign lk_EvenFinders_Work_67 (by decide +kernel) rfl rfl ⟨rfl, rfl⟩ (Nat.le_of_ble_eq_true rfl) rfl ⟨Nat.le_of_ble_eq_true rfl, Nat.le_of_ble_eq_true rfl⟩ t63 (fun v9 N9 h64 => ?_) (fun E9 N9 h64 => by cases h64)
          cases h64
          show G z mX9_readStep (d + 6) 0 0 98 [some (.ref 33), some (.ref 1), some (.int x2), some (.int v3), some (.int v18)] [] (mrow (mrow (mrow (mrow (mrow M 1 r62) 33 r53) 34 r54) 35 r55) 36 r56) Q
          exact G.retv (by decide +kernel) rfl (Nat.le_of_ble_eq_true rfl) (Nat.le_of_ble_eq_true rfl) ((by rw [hQ]; simp only [x_readStep_st, g2, if_neg c7, if_neg c8, if_neg c9, g17, if_pos c22, g45, g51, g60, mrow_self]))
    · skip
      rw [if_pos c8] at hk
      refine G.sl [(.aload_n 0, 1, 0, 0, 0, 0), (.iconst 4, 1, 0, 0, 0, nI 4), (.iconst 0, 1, 0, 0, 0, nI 0), (.iconst 0, 1, 0, 0, 0, nI 0)] [] (pc2 := 30) (ls2 := [some (.ref 33), some (.ref 1), some (.int x2), some (.int v3), none]) (st2 := [.int (nI 0), .int (nI 0), .int (nI 4), .ref 33]) (M2 := mrow M 1 r4) (Ps := []) (by decide +kernel) rfl rfl trivial ?_
      obtain ⟨k65, hk⟩ := hk
      rcases g66 : x_put (M.1 33) (M.1 34) (M.1 35) (M.1 36) (nI 4) (nI 0) (nI 0) with ⟨u67, r68, r69, r70, r71⟩
      try simp only [g66] at hk
      have t72 : GM z mX9_put (d + 5) [.ref 33, .int (nI 4), .int (nI 0), .int (nI 0)] (mrow M 1 r4) (fun rs => rs = .inl (none, mrow (mrow (mrow (mrow (mrow M 1 r4) 33 r68) 34 r69) 35 r70) 36 r71)) := by
        have q9 := c_x_put_33 z (d + 5) (mrow M 1 r4) (nI 4) (nI 0) (nI 0) k65
        try simp only [mput, mrow_same, mrow_hit, mrow_miss, mrow_sw, idr_eq, ne_eq, Nat.reduceEqDiff, not_false_eq_true, Nat.reduceLT, reduceCtorEq, g66] at q9
        exact q9
      refine G.callV (as := [.int (nI 4), .int (nI 0), .int (nI 0)]) (rest := []) (a := 33) oX9_put lk_EvenFinders_Work_48 (by decide +kernel) rfl rfl ⟨rfl, rfl⟩ (Nat.le_of_ble_eq_true rfl) rfl ⟨Nat.le_of_ble_eq_true rfl, Nat.le_of_ble_eq_true rfl⟩ t72 (fun v9 N9 h73 => ?_) (fun E9 N9 h73 => by cases h73)
      cases h73
      show G z mX9_readStep (d + 6) 0 0 33 [some (.ref 33), some (.ref 1), some (.int x2), some (.int v3), none] [] (mrow (mrow (mrow (mrow (mrow M 1 r4) 33 r68) 34 r69) 35 r70) 36 r71) Q
      refine G.sl [(.goto 59, 3, 92, 0, 0, 0), (.aload_n 1, 1, 1, 0, 0, 0), (.bipush 59, 2, 0, 0, 0, nI 59)] [] (pc2 := 95) (ls2 := [some (.ref 33), some (.ref 1), some (.int x2), some (.int v3), none]) (st2 := [.int (nI 59), .ref 1]) (M2 := mrow (mrow (mrow (mrow (mrow M 1 r4) 33 r68) 34 r69) 35 r70) 36 r71) (Ps := []) (by decide +kernel) rfl rfl trivial ?_
      obtain ⟨k74, hk⟩ := hk
      rcases g75 : t_needSign r4 (M.1 2) (nI 59) with ⟨u76, r77⟩
      have t78 : GM z mX6_needSign (d + 5) [.ref 1, .int (nI 59)] (mrow (mrow (mrow (mrow (mrow M 1 r4) 33 r68) 34 r69) 35 r70) 36 r71) (fun rs => rs = .inl (none, mrow (mrow (mrow (mrow (mrow M 1 r77) 33 r68) 34 r69) 35 r70) 36 r71)) := by
        have q9 := c_t_needSign_1 z (d + 4) (mrow (mrow (mrow (mrow (mrow M 1 r4) 33 r68) 34 r69) 35 r70) 36 r71) (nI 59) k74
        try simp only [mput, mrow_same, mrow_hit, mrow_miss, mrow_sw, idr_eq, ne_eq, Nat.reduceEqDiff, not_false_eq_true, Nat.reduceLT, reduceCtorEq, g75] at q9
        exact q9
      refine G.callV (as := [.int (nI 59)]) (rest := []) (a := 1) oX6_needSign lk_EvenFinders_Work_67 (by decide +kernel) rfl rfl ⟨rfl, rfl⟩ (Nat.le_of_ble_eq_true rfl) rfl ⟨Nat.le_of_ble_eq_true rfl, Nat.le_of_ble_eq_true rfl⟩ t78 (fun v9 N9 h79 => ?_) (fun E9 N9 h79 => by cases h79)
      cases h79
      show G z mX9_readStep (d + 6) 0 0 98 [some (.ref 33), some (.ref 1), some (.int x2), some (.int v3), none] [] (mrow (mrow (mrow (mrow (mrow M 1 r77) 33 r68) 34 r69) 35 r70) 36 r71) Q
      exact G.retv (by decide +kernel) rfl (Nat.le_of_ble_eq_true rfl) (Nat.le_of_ble_eq_true rfl) ((by rw [hQ]; simp only [x_readStep_st, g2, if_neg c7, if_pos c8, g66, g75, mrow_self]))
  · skip
    rw [if_pos c7] at hk
    refine G.sl [(.aload_n 0, 1, 0, 0, 0, 0), (.aload_n 1, 1, 1, 0, 0, 0), (.iload_n 2, 1, 2, 0, 0, 0)] [] (pc2 := 15) (ls2 := [some (.ref 33), some (.ref 1), some (.int x2), some (.int v3), none]) (st2 := [.int x2, .ref 1, .ref 33]) (M2 := mrow M 1 r4) (Ps := []) (by decide +kernel) rfl rfl trivial ?_
    obtain ⟨k80, hk⟩ := hk
    rcases g81 : x_readAgain fz r4 (M.1 2) (M.1 33) (M.1 34) (M.1 35) (M.1 36) x2 with ⟨u82, r83, r84, r85, r86, r87⟩
    try simp only [g81] at hk
    have t88 : GM z mX9_readAgain (d + 5) [.ref 33, .ref 1, .int x2] (mrow M 1 r4) (fun rs => rs = .inl (none, mrow (mrow (mrow (mrow (mrow M 1 r83) 33 r84) 34 r85) 35 r86) 36 r87)) := by
      have q9 := c_x_readAgain_33_1 z (d + 3) (mrow M 1 r4) x2 nr hnr hr nt hnt ht nf hnf hf fz gz (fun j M x2 hr ht hf hk => by have q9 := Hz (3 + j) M x2 hr ht hf hk; rw [show d + (3 + j) = d + 3 + j by omega] at q9; exact q9) k80
      try simp only [mput, mrow_same, mrow_hit, mrow_miss, mrow_sw, idr_eq, ne_eq, Nat.reduceEqDiff, not_false_eq_true, Nat.reduceLT, reduceCtorEq, g81] at q9
      exact q9
    refine G.callV (as := [.ref 1, .int x2]) (rest := []) (a := 33) oX9_readAgain lk_EvenFinders_Work_45 (by decide +kernel) rfl rfl ⟨rfl, rfl⟩ (Nat.le_of_ble_eq_true rfl) rfl ⟨Nat.le_of_ble_eq_true rfl, Nat.le_of_ble_eq_true rfl⟩ t88 (fun v9 N9 h89 => ?_) (fun E9 N9 h89 => by cases h89)
    cases h89
    show G z mX9_readStep (d + 6) 0 0 18 [some (.ref 33), some (.ref 1), some (.int x2), some (.int v3), none] [] (mrow (mrow (mrow (mrow (mrow M 1 r83) 33 r84) 34 r85) 35 r86) 36 r87) Q
    refine G.sl [(.goto 74, 3, 92, 0, 0, 0), (.aload_n 1, 1, 1, 0, 0, 0), (.bipush 59, 2, 0, 0, 0, nI 59)] [] (pc2 := 95) (ls2 := [some (.ref 33), some (.ref 1), some (.int x2), some (.int v3), none]) (st2 := [.int (nI 59), .ref 1]) (M2 := mrow (mrow (mrow (mrow (mrow M 1 r83) 33 r84) 34 r85) 35 r86) 36 r87) (Ps := []) (by decide +kernel) rfl rfl trivial ?_
    obtain ⟨k90, hk⟩ := hk
    rcases g91 : t_needSign r83 (M.1 2) (nI 59) with ⟨u92, r93⟩
    have t94 : GM z mX6_needSign (d + 5) [.ref 1, .int (nI 59)] (mrow (mrow (mrow (mrow (mrow M 1 r83) 33 r84) 34 r85) 35 r86) 36 r87) (fun rs => rs = .inl (none, mrow (mrow (mrow (mrow (mrow M 1 r93) 33 r84) 34 r85) 35 r86) 36 r87)) := by
      have q9 := c_t_needSign_1 z (d + 4) (mrow (mrow (mrow (mrow (mrow M 1 r83) 33 r84) 34 r85) 35 r86) 36 r87) (nI 59) k90
      try simp only [mput, mrow_same, mrow_hit, mrow_miss, mrow_sw, idr_eq, ne_eq, Nat.reduceEqDiff, not_false_eq_true, Nat.reduceLT, reduceCtorEq, g91] at q9
      exact q9
    refine G.callV (as := [.int (nI 59)]) (rest := []) (a := 1) oX6_needSign lk_EvenFinders_Work_67 (by decide +kernel) rfl rfl ⟨rfl, rfl⟩ (Nat.le_of_ble_eq_true rfl) rfl ⟨Nat.le_of_ble_eq_true rfl, Nat.le_of_ble_eq_true rfl⟩ t94 (fun v9 N9 h95 => ?_) (fun E9 N9 h95 => by cases h95)
    cases h95
    show G z mX9_readStep (d + 6) 0 0 98 [some (.ref 33), some (.ref 1), some (.int x2), some (.int v3), none] [] (mrow (mrow (mrow (mrow (mrow M 1 r93) 33 r84) 34 r85) 35 r86) 36 r87) Q
    exact G.retv (by decide +kernel) rfl (Nat.le_of_ble_eq_true rfl) (Nat.le_of_ble_eq_true rfl) ((by rw [hQ]; simp only [x_readStep_st, g2, if_pos c7, g81, g91, mrow_self]))
