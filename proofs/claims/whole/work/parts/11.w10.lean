theorem k_isPlace_01 (Rmd Rrefused : Nat → Int32) (np : Nat) (x1 : Int32) (x2 : Int32) : (k_isPlace Rmd Rrefused np x1 x2).1 = 0 ∨ (k_isPlace Rmd Rrefused np x1 x2).1 = 1 := by
  unfold k_isPlace
  repeat' split
  all_goals first | exact Or.inl rfl | exact Or.inr rfl | exact k_within_01 _ _ _ | (rename_i h9; have q9 := k_may_0_01 (Rmd) (Rrefused) (k_within x1 (nI 0) ((nI np) - (nI 1))) x2; rw [h9] at q9; exact q9)
set_option maxHeartbeats 4000000 in
set_option maxRecDepth 3000 in
theorem c_k_isPlace_54 (z : Zp) (d : Nat) (M : Mem) (x1 : Int32) (x2 : Int32) (np : Nat) (hnp : np ≤ 8) (cp : M.1 54 20 = nI np) : GM z mX12_isPlace (d + 1) [.ref 54, .int x1, .int x2] M (fun rs => rs = .inl (some (.int ((k_isPlace (M.1 54) (M.1 55) np x1 x2).1)), mrow (mrow M 54 ((k_isPlace (M.1 54) (M.1 55) np x1 x2).2.1)) 55 ((k_isPlace (M.1 54) (M.1 55) np x1 x2).2.2))) := by
  refine GM.of oX12_isPlace.1 (Nat.le_of_ble_eq_true rfl) ?_
  show G z mX12_isPlace (d + 1) 0 0 0 [some (.ref 54), some (.int x1), some (.int x2)] [] M _
  obtain ⟨Q, hQ⟩ : ∃ Q : Rs → Prop, Q = (fun rs => rs = .inl (some (.int ((k_isPlace (M.1 54) (M.1 55) np x1 x2).1)), mrow (mrow M 54 ((k_isPlace (M.1 54) (M.1 55) np x1 x2).2.1)) 55 ((k_isPlace (M.1 54) (M.1 55) np x1 x2).2.2))) := ⟨_, rfl⟩
  rw [← hQ]
  refine G.sl [(.aload_n 0, 1, 0, 0, 0, 0), (.iload_n 1, 1, 1, 0, 0, 0), (.iconst 0, 1, 0, 0, 0, nI 0), (.aload_n 0, 1, 0, 0, 0, 0), (.getfield 156, 3, 11, 20, 143, 0), (.iconst 1, 1, 0, 0, 0, nI 1), (.isub, 1, 0, 0, 0, 0)] [] (pc2 := 9) (ls2 := [some (.ref 54), some (.int x1), some (.int x2)]) (st2 := [.int ((M.1 54 20) - (nI 1)), .int (nI 0), .int x1, .ref 54]) (M2 := M) (Ps := []) (by decide +kernel) rfl rfl trivial ?_
  rw [cp]
  have t2 : GM z mX12_within (d) [.int x1, .int (nI 0), .int ((nI np) - (nI 1))] M (fun rs => rs = .inl (some (.int (k_within x1 (nI 0) ((nI np) - (nI 1)))), M)) := by
    have q9 := c_k_within z d M x1 (nI 0) ((nI np) - (nI 1))
    try simp only [mput, mrow_same, mrow_hit, mrow_miss, mrow_sw, idr_eq, ne_eq, Nat.reduceEqDiff, not_false_eq_true, Nat.reduceLT, reduceCtorEq] at q9
    exact q9
  refine G.callS (as := [.int x1, .int (nI 0), .int ((nI np) - (nI 1))]) (rest := [.ref 54]) oX12_within lk_EvenFindersModel_379 (by decide +kernel) rfl (Nat.le_of_ble_eq_true rfl) rfl ⟨Nat.le_of_ble_eq_true rfl, Nat.le_of_ble_eq_true rfl⟩ t2 (fun v9 N9 h3 => ?_) (fun E9 N9 h3 => by cases h3)
  cases h3
  show G z mX12_isPlace (d + 1) 0 0 12 [some (.ref 54), some (.int x1), some (.int x2)] [.int (k_within x1 (nI 0) ((nI np) - (nI 1))), .ref 54] M Q
  refine G.sl [(.iload_n 2, 1, 2, 0, 0, 0), (.iconst 0, 1, 0, 0, 0, nI 0)] [] (pc2 := 14) (ls2 := [some (.ref 54), some (.int x1), some (.int x2)]) (st2 := [.int (nI 0), .int x2, .int (k_within x1 (nI 0) ((nI np) - (nI 1))), .ref 54]) (M2 := M) (Ps := []) (by decide +kernel) rfl rfl trivial ?_
  rcases g5 : k_may_0 (M.1 54) (M.1 55) (k_within x1 (nI 0) ((nI np) - (nI 1))) x2 with ⟨v6, r7, r8⟩
  have ev6 : v6 = 0 ∨ v6 = 1 := by
    have q9 := k_may_0_01 (M.1 54) (M.1 55) (k_within x1 (nI 0) ((nI np) - (nI 1))) x2
    rw [g5] at q9
    exact q9
  have t9 : GM z mX12_may (d) [.ref 54, .int (k_within x1 (nI 0) ((nI np) - (nI 1))), .int x2, .int (nI 0)] M (fun rs => rs = .inl (some (.int v6), mrow (mrow M 54 r7) 55 r8)) := by
    have q9 := c_k_may_0_54 z d M (k_within x1 (nI 0) ((nI np) - (nI 1))) x2
    try simp only [mput, mrow_same, mrow_hit, mrow_miss, mrow_sw, idr_eq, ne_eq, Nat.reduceEqDiff, not_false_eq_true, Nat.reduceLT, reduceCtorEq, g5] at q9
    exact q9
  refine G.callV (as := [.int (k_within x1 (nI 0) ((nI np) - (nI 1))), .int x2, .int (nI 0)]) (rest := []) (a := 54) oX12_may lk_EvenFindersModel_213 (by decide +kernel) rfl rfl ⟨rfl, rfl⟩ (Nat.le_of_ble_eq_true rfl) rfl ⟨Nat.le_of_ble_eq_true rfl, Nat.le_of_ble_eq_true rfl⟩ t9 (fun v9 N9 h10 => ?_) (fun E9 N9 h10 => by cases h10)
  cases h10
  show G z mX12_isPlace (d + 1) 0 0 17 [some (.ref 54), some (.int x1), some (.int x2)] [.int v6] (mrow (mrow M 54 r7) 55 r8) Q
  exact G.reti (by decide +kernel) rfl (nar01 ev6) (Nat.le_of_ble_eq_true rfl) (Nat.le_of_ble_eq_true rfl) ((by rw [hQ]; simp only [k_isPlace, g5, mrow_self]))
set_option maxHeartbeats 4000000 in
set_option maxRecDepth 3000 in
theorem lp_k_place_54_67 (z : Zp) (d : Nat) (M : Mem) (Q : Rs → Prop) (x1 : Int32) (x2 : Int32) (nf : Nat) (hnf : nf ≤ 6) (cf : M.1 54 23 = nI nf) (hX : G z mX12_place (d + 2) 0 0 107 [some (.ref 54), some (.int x1), some (.int x2), some (.int (k_place_67 (M.1 72) x1 x2 nf)), none, none] [] M Q) : G z mX12_place (d + 2) 0 0 67 [some (.ref 54), some (.int x1), some (.int x2), some (.int (nI 0)), some (.int (nI 0)), none] [] M Q := by
  refine down (n := nf) (P := fun i4 => G z mX12_place (d + 2) 0 0 67 [some (.ref 54), some (.int x1), some (.int x2), some (.int (k_place_67 (M.1 72) x1 x2 i4)), some (.int (nI i4)), none] [] M Q) ?_ ?_ 0 (Nat.zero_le _)
  · skip
    refine G.sl [(.iload 4, 2, 4, 0, 0, 0), (.aload_n 0, 1, 0, 0, 0, 0), (.getfield 165, 3, 11, 23, 146, 0)] [] (pc2 := 73) (ls2 := [some (.ref 54), some (.int x1), some (.int x2), some (.int (k_place_67 (M.1 72) x1 x2 nf)), some (.int (nI nf)), none]) (st2 := [.int (M.1 54 23), .int (nI nf)]) (M2 := M) (Ps := []) (by decide +kernel) rfl rfl trivial ?_
    rw [cf]
    refine G.ic_ge (off := (34)) (tgt := 107) (by decide +kernel) rfl (fun _ => ?_) (fun h9 => absurd (nI_le (by omega) (by omega)) h9)
    refine G.loc (ls2 := [some (.ref 54), some (.int x1), some (.int x2), some (.int (k_place_67 (M.1 72) x1 x2 nf)), none, none]) (by simp [subL]) ?_
    exact hX
  · skip
    intro i4 hi ih
    show G z mX12_place (d + 2) 0 0 67 [some (.ref 54), some (.int x1), some (.int x2), some (.int (k_place_67 (M.1 72) x1 x2 i4)), some (.int (nI i4)), none] [] M Q
    refine G.sl [(.iload 4, 2, 4, 0, 0, 0), (.aload_n 0, 1, 0, 0, 0, 0), (.getfield 165, 3, 11, 23, 146, 0)] [] (pc2 := 73) (ls2 := [some (.ref 54), some (.int x1), some (.int x2), some (.int (k_place_67 (M.1 72) x1 x2 i4)), some (.int (nI i4)), none]) (st2 := [.int (M.1 54 23), .int (nI i4)]) (M2 := M) (Ps := []) (by decide +kernel) rfl rfl trivial ?_
    rw [cf]
    refine G.ic_ge (off := (34)) (tgt := 107) (by decide +kernel) rfl (fun h9 => absurd h9 (nI_ge (by omega) (by omega))) (fun _ => ?_)
    refine G.sl [(.iload_n 3, 1, 3, 0, 0, 0), (.aload_n 0, 1, 0, 0, 0, 0), (.getfield 68, 3, 11, 41, 164, 0), (.bipush 20, 2, 0, 0, 0, nI 20), (.iload 4, 2, 4, 0, 0, 0), (.iadd, 1, 0, 0, 0, 0), (.iaload, 1, 0, 0, 0, 0), (.iload_n 1, 1, 1, 0, 0, 0)] [20 + i4] (pc2 := 88) (ls2 := [some (.ref 54), some (.int x1), some (.int x2), some (.int (k_place_67 (M.1 72) x1 x2 i4)), some (.int (nI i4)), none]) (st2 := [.int x1, .int (M.1 72 (20 + i4)), .int (k_place_67 (M.1 72) x1 x2 i4)]) (M2 := M) (Ps := [((nI 20) + (nI i4)) = nI (20 + i4) ∧ (20 + i4) < 51]) (by decide +kernel) rfl rfl ⟨⟨(nI_add _ _), (by omega)⟩, trivial⟩ ?_
    refine G.ic_ne (off := (10)) (tgt := 98) (by decide +kernel) rfl (fun c27 => ?_) (fun c27 => ?_)
    · skip
      refine G.sl [(.iconst 0, 1, 0, 0, 0, nI 0), (.ior, 1, 0, 0, 0, 0), (.istore_n 3, 1, 3, 0, 0, 0), (.iinc 4 1, 3, 4, 0, 0, nI 1), (.goto (-37), 3, 67, 0, 0, 0)] [] (pc2 := 67) (ls2 := [some (.ref 54), some (.int x1), some (.int x2), some (.int ((k_place_67 (M.1 72) x1 x2 i4) ||| (nI 0))), some (.int ((nI i4) + nI 1)), none]) (st2 := []) (M2 := M) (Ps := []) (by decide +kernel) rfl rfl trivial ?_
      rw [nI_add i4 1]
      simp only [k_place_67, if_neg c27] at ih
      exact ih
    · skip
      refine G.sl [(.iconst 1, 1, 0, 0, 0, nI 1), (.iload 4, 2, 4, 0, 0, 0), (.ishl, 1, 0, 0, 0, 0), (.goto 4, 3, 99, 0, 0, 0), (.ior, 1, 0, 0, 0, 0), (.istore_n 3, 1, 3, 0, 0, 0), (.iinc 4 1, 3, 4, 0, 0, nI 1), (.goto (-37), 3, 67, 0, 0, 0)] [] (pc2 := 67) (ls2 := [some (.ref 54), some (.int x1), some (.int x2), some (.int ((k_place_67 (M.1 72) x1 x2 i4) ||| ((nI 1) <<< ((nI i4) &&& 31)))), some (.int ((nI i4) + nI 1)), none]) (st2 := []) (M2 := M) (Ps := []) (by decide +kernel) rfl rfl trivial ?_
      rw [nI_add i4 1]
      simp only [k_place_67, if_pos c27] at ih
      exact ih
set_option maxHeartbeats 4000000 in
set_option maxRecDepth 3000 in
theorem lp_k_place_54_113 (z : Zp) (d : Nat) (M : Mem) (Q : Rs → Prop) (x1 : Int32) (x2 : Int32) (x3 : Int32) (nr : Nat) (hnr : nr ≤ 12) (cr : M.1 54 21 = nI nr) (hX : G z mX12_place (d + 2) 0 0 166 [none, none, some (.int x2), some (.int x3), some (.int (k_place_113 (M.1 60) x1 x2 x3 nr)), none] [] M Q) : G z mX12_place (d + 2) 0 0 113 [some (.ref 54), some (.int x1), some (.int x2), some (.int x3), some (.int (nI 0)), some (.int (nI 0))] [] M Q := by
  refine down (n := nr) (P := fun i5 => G z mX12_place (d + 2) 0 0 113 [some (.ref 54), some (.int x1), some (.int x2), some (.int x3), some (.int (k_place_113 (M.1 60) x1 x2 x3 i5)), some (.int (nI i5))] [] M Q) ?_ ?_ 0 (Nat.zero_le _)
  · skip
    refine G.sl [(.iload 5, 2, 5, 0, 0, 0), (.aload_n 0, 1, 0, 0, 0, 0), (.getfield 159, 3, 11, 21, 144, 0)] [] (pc2 := 119) (ls2 := [some (.ref 54), some (.int x1), some (.int x2), some (.int x3), some (.int (k_place_113 (M.1 60) x1 x2 x3 nr)), some (.int (nI nr))]) (st2 := [.int (M.1 54 21), .int (nI nr)]) (M2 := M) (Ps := []) (by decide +kernel) rfl rfl trivial ?_
    rw [cr]
    refine G.ic_ge (off := (47)) (tgt := 166) (by decide +kernel) rfl (fun _ => ?_) (fun h9 => absurd (nI_le (by omega) (by omega)) h9)
    refine G.loc (ls2 := [none, none, some (.int x2), some (.int x3), some (.int (k_place_113 (M.1 60) x1 x2 x3 nr)), none]) (by simp [subL]) ?_
    exact hX
  · skip
    intro i5 hi ih
    show G z mX12_place (d + 2) 0 0 113 [some (.ref 54), some (.int x1), some (.int x2), some (.int x3), some (.int (k_place_113 (M.1 60) x1 x2 x3 i5)), some (.int (nI i5))] [] M Q
    refine G.sl [(.iload 5, 2, 5, 0, 0, 0), (.aload_n 0, 1, 0, 0, 0, 0), (.getfield 159, 3, 11, 21, 144, 0)] [] (pc2 := 119) (ls2 := [some (.ref 54), some (.int x1), some (.int x2), some (.int x3), some (.int (k_place_113 (M.1 60) x1 x2 x3 i5)), some (.int (nI i5))]) (st2 := [.int (M.1 54 21), .int (nI i5)]) (M2 := M) (Ps := []) (by decide +kernel) rfl rfl trivial ?_
    rw [cr]
    refine G.ic_ge (off := (47)) (tgt := 166) (by decide +kernel) rfl (fun h9 => absurd h9 (nI_ge (by omega) (by omega))) (fun _ => ?_)
    refine G.sl [(.iload 4, 2, 4, 0, 0, 0), (.aload_n 0, 1, 0, 0, 0, 0), (.getfield 32, 3, 11, 13, 136, 0), (.iconst 3, 1, 0, 0, 0, nI 3), (.iload 5, 2, 5, 0, 0, 0), (.imul, 1, 0, 0, 0, 0), (.iaload, 1, 0, 0, 0, 0), (.iload_n 1, 1, 1, 0, 0, 0)] [3 * i5] (pc2 := 134) (ls2 := [some (.ref 54), some (.int x1), some (.int x2), some (.int x3), some (.int (k_place_113 (M.1 60) x1 x2 x3 i5)), some (.int (nI i5))]) (st2 := [.int x1, .int (M.1 60 (3 * i5)), .int (k_place_113 (M.1 60) x1 x2 x3 i5)]) (M2 := M) (Ps := [((nI 3) * (nI i5)) = nI (3 * i5) ∧ (3 * i5) < 36]) (by decide +kernel) rfl rfl ⟨⟨(pk_mul _ _), (by omega)⟩, trivial⟩ ?_
    refine G.ic_eq (off := (18)) (tgt := 152) (by decide +kernel) rfl (fun c31 => ?_) (fun c31 => ?_)
    · skip
      refine G.sl [(.iconst 1, 1, 0, 0, 0, nI 1), (.goto 4, 3, 157, 0, 0, 0), (.iadd, 1, 0, 0, 0, 0), (.istore 4, 2, 4, 0, 0, 0), (.iinc 5 1, 3, 5, 0, 0, nI 1), (.goto (-50), 3, 113, 0, 0, 0)] [] (pc2 := 113) (ls2 := [some (.ref 54), some (.int x1), some (.int x2), some (.int x3), some (.int ((k_place_113 (M.1 60) x1 x2 x3 i5) + (nI 1))), some (.int ((nI i5) + nI 1))]) (st2 := []) (M2 := M) (Ps := []) (by decide +kernel) rfl rfl trivial ?_
      rw [nI_add i5 1]
      simp only [k_place_113, if_pos c31] at ih
      exact ih
    · skip
      refine G.sl [(.aload_n 0, 1, 0, 0, 0, 0), (.getfield 32, 3, 11, 13, 136, 0), (.iconst 3, 1, 0, 0, 0, nI 3), (.iload 5, 2, 5, 0, 0, 0), (.imul, 1, 0, 0, 0, 0), (.iconst 1, 1, 0, 0, 0, nI 1), (.iadd, 1, 0, 0, 0, 0), (.iaload, 1, 0, 0, 0, 0), (.iload_n 1, 1, 1, 0, 0, 0)] [(3 * i5) + 1] (pc2 := 149) (ls2 := [some (.ref 54), some (.int x1), some (.int x2), some (.int x3), some (.int (k_place_113 (M.1 60) x1 x2 x3 i5)), some (.int (nI i5))]) (st2 := [.int x1, .int (M.1 60 ((3 * i5) + 1)), .int (k_place_113 (M.1 60) x1 x2 x3 i5)]) (M2 := M) (Ps := [(((nI 3) * (nI i5)) + (nI 1)) = nI ((3 * i5) + 1) ∧ ((3 * i5) + 1) < 36]) (by decide +kernel) rfl rfl ⟨⟨(nAdd (pk_mul _ _) rfl), (by omega)⟩, trivial⟩ ?_
      refine G.ic_ne (off := (7)) (tgt := 156) (by decide +kernel) rfl (fun c32 => ?_) (fun c32 => ?_)
      · skip
        refine G.sl [(.iconst 0, 1, 0, 0, 0, nI 0), (.iadd, 1, 0, 0, 0, 0), (.istore 4, 2, 4, 0, 0, 0), (.iinc 5 1, 3, 5, 0, 0, nI 1), (.goto (-50), 3, 113, 0, 0, 0)] [] (pc2 := 113) (ls2 := [some (.ref 54), some (.int x1), some (.int x2), some (.int x3), some (.int ((k_place_113 (M.1 60) x1 x2 x3 i5) + (nI 0))), some (.int ((nI i5) + nI 1))]) (st2 := []) (M2 := M) (Ps := []) (by decide +kernel) rfl rfl trivial ?_
        rw [nI_add i5 1]
        simp only [k_place_113, if_neg c31, if_neg c32] at ih
        exact ih
      · skip
        refine G.sl [(.iconst 1, 1, 0, 0, 0, nI 1), (.goto 4, 3, 157, 0, 0, 0), (.iadd, 1, 0, 0, 0, 0), (.istore 4, 2, 4, 0, 0, 0), (.iinc 5 1, 3, 5, 0, 0, nI 1), (.goto (-50), 3, 113, 0, 0, 0)] [] (pc2 := 113) (ls2 := [some (.ref 54), some (.int x1), some (.int x2), some (.int x3), some (.int ((k_place_113 (M.1 60) x1 x2 x3 i5) + (nI 1))), some (.int ((nI i5) + nI 1))]) (st2 := []) (M2 := M) (Ps := []) (by decide +kernel) rfl rfl trivial ?_
        rw [nI_add i5 1]
        simp only [k_place_113, if_neg c31, if_pos c32] at ih
        exact ih
set_option maxHeartbeats 4000000 in
set_option maxRecDepth 3000 in
theorem lp_k_lyingAt_54_4 (z : Zp) (d : Nat) (M : Mem) (Q : Rs → Prop) (x1 : Int32) (nt : Nat) (hnt : nt ≤ 10) (ct : M.1 54 22 = nI nt) (hX : G z mX12_lyingAt (d) 0 0 53 [none, none, some (.int (k_lyingAt_4 (M.1 72) x1 nt)), none] [] M Q) : G z mX12_lyingAt (d) 0 0 4 [some (.ref 54), some (.int x1), some (.int (nI 0)), some (.int (nI 0))] [] M Q := by
  refine down (n := nt) (P := fun i3 => G z mX12_lyingAt (d) 0 0 4 [some (.ref 54), some (.int x1), some (.int (k_lyingAt_4 (M.1 72) x1 i3)), some (.int (nI i3))] [] M Q) ?_ ?_ 0 (Nat.zero_le _)
  · skip
    refine G.sl [(.iload_n 3, 1, 3, 0, 0, 0), (.aload_n 0, 1, 0, 0, 0, 0), (.getfield 162, 3, 11, 22, 145, 0)] [] (pc2 := 9) (ls2 := [some (.ref 54), some (.int x1), some (.int (k_lyingAt_4 (M.1 72) x1 nt)), some (.int (nI nt))]) (st2 := [.int (M.1 54 22), .int (nI nt)]) (M2 := M) (Ps := []) (by decide +kernel) rfl rfl trivial ?_
    rw [ct]
    refine G.ic_ge (off := (44)) (tgt := 53) (by decide +kernel) rfl (fun _ => ?_) (fun h9 => absurd (nI_le (by omega) (by omega)) h9)
    refine G.loc (ls2 := [none, none, some (.int (k_lyingAt_4 (M.1 72) x1 nt)), none]) (by simp [subL]) ?_
    exact hX
  · skip
    intro i3 hi ih
    show G z mX12_lyingAt (d) 0 0 4 [some (.ref 54), some (.int x1), some (.int (k_lyingAt_4 (M.1 72) x1 i3)), some (.int (nI i3))] [] M Q
    refine G.sl [(.iload_n 3, 1, 3, 0, 0, 0), (.aload_n 0, 1, 0, 0, 0, 0), (.getfield 162, 3, 11, 22, 145, 0)] [] (pc2 := 9) (ls2 := [some (.ref 54), some (.int x1), some (.int (k_lyingAt_4 (M.1 72) x1 i3)), some (.int (nI i3))]) (st2 := [.int (M.1 54 22), .int (nI i3)]) (M2 := M) (Ps := []) (by decide +kernel) rfl rfl trivial ?_
    rw [ct]
    refine G.ic_ge (off := (44)) (tgt := 53) (by decide +kernel) rfl (fun h9 => absurd h9 (nI_ge (by omega) (by omega))) (fun _ => ?_)
    refine G.sl [(.iload_n 2, 1, 2, 0, 0, 0), (.aload_n 0, 1, 0, 0, 0, 0), (.getfield 68, 3, 11, 41, 164, 0), (.bipush 10, 2, 0, 0, 0, nI 10), (.iload_n 3, 1, 3, 0, 0, 0), (.iadd, 1, 0, 0, 0, 0), (.iaload, 1, 0, 0, 0, 0), (.iconst (-1), 1, 0, 0, 0, (-1))] [10 + i3] (pc2 := 23) (ls2 := [some (.ref 54), some (.int x1), some (.int (k_lyingAt_4 (M.1 72) x1 i3)), some (.int (nI i3))]) (st2 := [.int ((-1)), .int (M.1 72 (10 + i3)), .int (k_lyingAt_4 (M.1 72) x1 i3)]) (M2 := M) (Ps := [((nI 10) + (nI i3)) = nI (10 + i3) ∧ (10 + i3) < 51]) (by decide +kernel) rfl rfl ⟨⟨(nI_add _ _), (by omega)⟩, trivial⟩ ?_
    refine G.ic_ne (off := (21)) (tgt := 44) (by decide +kernel) rfl (fun c1 => ?_) (fun c1 => ?_)
    · skip
      refine G.sl [(.iconst 0, 1, 0, 0, 0, nI 0), (.ior, 1, 0, 0, 0, 0), (.istore_n 2, 1, 2, 0, 0, 0), (.iinc 3 1, 3, 3, 0, 0, nI 1), (.goto (-46), 3, 4, 0, 0, 0)] [] (pc2 := 4) (ls2 := [some (.ref 54), some (.int x1), some (.int ((k_lyingAt_4 (M.1 72) x1 i3) ||| (nI 0))), some (.int ((nI i3) + nI 1))]) (st2 := []) (M2 := M) (Ps := []) (by decide +kernel) rfl rfl trivial ?_
      rw [nI_add i3 1]
      simp only [k_lyingAt_4, if_neg c1] at ih
      exact ih
    · skip
      refine G.sl [(.aload_n 0, 1, 0, 0, 0, 0), (.getfield 68, 3, 11, 41, 164, 0), (.iconst 0, 1, 0, 0, 0, nI 0), (.iload_n 3, 1, 3, 0, 0, 0), (.iadd, 1, 0, 0, 0, 0), (.iaload, 1, 0, 0, 0, 0), (.iload_n 1, 1, 1, 0, 0, 0)] [0 + i3] (pc2 := 35) (ls2 := [some (.ref 54), some (.int x1), some (.int (k_lyingAt_4 (M.1 72) x1 i3)), some (.int (nI i3))]) (st2 := [.int x1, .int (M.1 72 (0 + i3)), .int (k_lyingAt_4 (M.1 72) x1 i3)]) (M2 := M) (Ps := [((nI 0) + (nI i3)) = nI (0 + i3) ∧ (0 + i3) < 51]) (by decide +kernel) rfl rfl ⟨⟨(nI_add _ _), (by omega)⟩, trivial⟩ ?_
      refine G.ic_ne (off := (9)) (tgt := 44) (by decide +kernel) rfl (fun c2 => ?_) (fun c2 => ?_)
      · skip
        refine G.sl [(.iconst 0, 1, 0, 0, 0, nI 0), (.ior, 1, 0, 0, 0, 0), (.istore_n 2, 1, 2, 0, 0, 0), (.iinc 3 1, 3, 3, 0, 0, nI 1), (.goto (-46), 3, 4, 0, 0, 0)] [] (pc2 := 4) (ls2 := [some (.ref 54), some (.int x1), some (.int ((k_lyingAt_4 (M.1 72) x1 i3) ||| (nI 0))), some (.int ((nI i3) + nI 1))]) (st2 := []) (M2 := M) (Ps := []) (by decide +kernel) rfl rfl trivial ?_
        rw [nI_add i3 1]
        simp only [k_lyingAt_4, if_pos c1, if_neg c2] at ih
        exact ih
      · skip
        refine G.sl [(.iconst 1, 1, 0, 0, 0, nI 1), (.iload_n 3, 1, 3, 0, 0, 0), (.ishl, 1, 0, 0, 0, 0), (.goto 4, 3, 45, 0, 0, 0), (.ior, 1, 0, 0, 0, 0), (.istore_n 2, 1, 2, 0, 0, 0), (.iinc 3 1, 3, 3, 0, 0, nI 1), (.goto (-46), 3, 4, 0, 0, 0)] [] (pc2 := 4) (ls2 := [some (.ref 54), some (.int x1), some (.int ((k_lyingAt_4 (M.1 72) x1 i3) ||| ((nI 1) <<< ((nI i3) &&& 31)))), some (.int ((nI i3) + nI 1))]) (st2 := []) (M2 := M) (Ps := []) (by decide +kernel) rfl rfl trivial ?_
        rw [nI_add i3 1]
        simp only [k_lyingAt_4, if_pos c1, if_pos c2] at ih
        exact ih
set_option maxHeartbeats 4000000 in
set_option maxRecDepth 3000 in
theorem c_k_lyingAt_54 (z : Zp) (d : Nat) (M : Mem) (x1 : Int32) (nt : Nat) (hnt : nt ≤ 10) (ct : M.1 54 22 = nI nt) : GM z mX12_lyingAt (d) [.ref 54, .int x1] M (fun rs => rs = .inl (some (.int (k_lyingAt (M.1 72) nt x1)), M)) := by
  refine GM.of oX12_lyingAt.1 (Nat.le_of_ble_eq_true rfl) ?_
  show G z mX12_lyingAt (d) 0 0 0 [some (.ref 54), some (.int x1), none, none] [] M _
  obtain ⟨Q, hQ⟩ : ∃ Q : Rs → Prop, Q = (fun rs => rs = .inl (some (.int (k_lyingAt (M.1 72) nt x1)), M)) := ⟨_, rfl⟩
  rw [← hQ]
  refine G.sl [(.iconst 0, 1, 0, 0, 0, nI 0), (.istore_n 2, 1, 2, 0, 0, 0), (.iconst 0, 1, 0, 0, 0, nI 0), (.istore_n 3, 1, 3, 0, 0, 0)] [] (pc2 := 4) (ls2 := [some (.ref 54), some (.int x1), some (.int (nI 0)), some (.int (nI 0))]) (st2 := []) (M2 := M) (Ps := []) (by decide +kernel) rfl rfl trivial ?_
  refine lp_k_lyingAt_54_4 z d M Q x1 nt hnt ct ?_
  show G z mX12_lyingAt (d) 0 0 53 [none, none, some (.int (k_lyingAt_4 (M.1 72) x1 nt)), none] [] M Q
  refine G.sl [(.iload_n 2, 1, 2, 0, 0, 0)] [] (pc2 := 54) (ls2 := [none, none, some (.int (k_lyingAt_4 (M.1 72) x1 nt)), none]) (st2 := [.int (k_lyingAt_4 (M.1 72) x1 nt)]) (M2 := M) (Ps := []) (by decide +kernel) rfl rfl trivial ?_
  exact G.reti (by decide +kernel) rfl rfl (Nat.le_of_ble_eq_true rfl) (Nat.le_of_ble_eq_true rfl) ((by rw [hQ]; simp only [k_lyingAt, mrow_self]))
set_option maxHeartbeats 4000000 in
set_option maxRecDepth 3000 in
theorem c_k_place_54 (z : Zp) (d : Nat) (M : Mem) (x1 : Int32) (x2 : Int32) (np : Nat) (hnp : np ≤ 8) (cp : M.1 54 20 = nI np) (hk : k_place_ok (M.1 54) (M.1 55) (M.1 60) (M.1 61) (M.1 71) (M.1 72) np x1 x2) : GM z mX12_place (d + 2) [.ref 54, .int x1, .int x2] M (fun rs => rs = .inl (some (.int ((k_place (M.1 54) (M.1 55) (M.1 60) (M.1 61) (M.1 71) (M.1 72) np x1 x2).1)), mrow (mrow (mrow M 54 ((k_place (M.1 54) (M.1 55) (M.1 60) (M.1 61) (M.1 71) (M.1 72) np x1 x2).2.1)) 55 ((k_place (M.1 54) (M.1 55) (M.1 60) (M.1 61) (M.1 71) (M.1 72) np x1 x2).2.2.1)) 72 ((k_place (M.1 54) (M.1 55) (M.1 60) (M.1 61) (M.1 71) (M.1 72) np x1 x2).2.2.2))) := by
  simp only [k_place_ok] at hk
  refine GM.of oX12_place.1 (Nat.le_of_ble_eq_true rfl) ?_
  show G z mX12_place (d + 2) 0 0 0 [some (.ref 54), some (.int x1), some (.int x2), none, none, none] [] M _
  obtain ⟨Q, hQ⟩ : ∃ Q : Rs → Prop, Q = (fun rs => rs = .inl (some (.int ((k_place (M.1 54) (M.1 55) (M.1 60) (M.1 61) (M.1 71) (M.1 72) np x1 x2).1)), mrow (mrow (mrow M 54 ((k_place (M.1 54) (M.1 55) (M.1 60) (M.1 61) (M.1 71) (M.1 72) np x1 x2).2.1)) 55 ((k_place (M.1 54) (M.1 55) (M.1 60) (M.1 61) (M.1 71) (M.1 72) np x1 x2).2.2.1)) 72 ((k_place (M.1 54) (M.1 55) (M.1 60) (M.1 61) (M.1 71) (M.1 72) np x1 x2).2.2.2))) := ⟨_, rfl⟩
  rw [← hQ]
  refine G.sl [(.aload_n 0, 1, 0, 0, 0, 0), (.iconst 0, 1, 0, 0, 0, nI 0), (.putfield 3, 3, 11, 0, 123, 0), (.aload_n 0, 1, 0, 0, 0, 0), (.iload_n 1, 1, 1, 0, 0, 0), (.iconst 1, 1, 0, 0, 0, nI 1)] [] (pc2 := 8) (ls2 := [some (.ref 54), some (.int x1), some (.int x2), none, none, none]) (st2 := [.int (nI 1), .int x1, .ref 54]) (M2 := mput M 54 0 (nI 0)) (Ps := []) (by decide +kernel) rfl rfl trivial ?_
  refine G.mem (M' := mrow M 54 (upd (M.1 54) 0 (nI 0))) (by first | rfl | (simp only [mput, mrow_same, mrow_hit, mrow_miss, mrow_sw, idr_eq, ne_eq, Nat.reduceEqDiff, not_false_eq_true, Nat.reduceLT, reduceCtorEq]; done)) ?_
  obtain ⟨k1, hk⟩ := hk
  rcases g2 : k_isPlace (upd (M.1 54) 0 (nI 0)) (M.1 55) np x1 (nI 1) with ⟨v3, r4, r5⟩
  try simp only [g2] at hk
  have ev3 : v3 = 0 ∨ v3 = 1 := by
    have q9 := k_isPlace_01 (upd (M.1 54) 0 (nI 0)) (M.1 55) np x1 (nI 1)
    rw [g2] at q9
    exact q9
  have t6 : GM z mX12_isPlace (d + 1) [.ref 54, .int x1, .int (nI 1)] (mrow M 54 (upd (M.1 54) 0 (nI 0))) (fun rs => rs = .inl (some (.int v3), mrow (mrow M 54 r4) 55 r5)) := by
    have q9 := c_k_isPlace_54 z d (mrow M 54 (upd (M.1 54) 0 (nI 0))) x1 (nI 1) np hnp cp
    try simp only [mput, mrow_same, mrow_hit, mrow_miss, mrow_sw, idr_eq, ne_eq, Nat.reduceEqDiff, not_false_eq_true, Nat.reduceLT, reduceCtorEq, g2] at q9
    exact q9
  refine G.callV (as := [.int x1, .int (nI 1)]) (rest := []) (a := 54) oX12_isPlace lk_EvenFindersModel_394 (by decide +kernel) rfl rfl ⟨rfl, rfl⟩ (Nat.le_of_ble_eq_true rfl) rfl ⟨Nat.le_of_ble_eq_true rfl, Nat.le_of_ble_eq_true rfl⟩ t6 (fun v9 N9 h7 => ?_) (fun E9 N9 h7 => by cases h7)
  cases h7
  show G z mX12_place (d + 2) 0 0 11 [some (.ref 54), some (.int x1), some (.int x2), none, none, none] [.int v3] (mrow (mrow M 54 r4) 55 r5) Q
  refine G.if_eq (off := (18)) (tgt := 29) (by decide +kernel) rfl (fun c8 => ?_) (fun c8 => ?_)
  · skip
    rw [if_pos c8] at hk
    refine G.sl [(.iconst 0, 1, 0, 0, 0, nI 0)] [] (pc2 := 30) (ls2 := [some (.ref 54), some (.int x1), some (.int x2), none, none, none]) (st2 := [.int (nI 0)]) (M2 := mrow (mrow M 54 r4) 55 r5) (Ps := []) (by decide +kernel) rfl rfl trivial ?_
    refine G.mem (M' := mrow (mrow (mrow M 54 r4) 55 r5) 72 (M.1 72)) (((mrow_id (N := mrow (mrow M 54 r4) 55 r5) (c := 72) (f := M.1 72) (by first | rfl | (simp only [mput, mrow_same, mrow_hit, mrow_miss, mrow_sw, idr_eq, ne_eq, Nat.reduceEqDiff, not_false_eq_true, Nat.reduceLT, reduceCtorEq]; done))).symm).trans (by first | rfl | (simp only [mput, mrow_same, mrow_hit, mrow_miss, mrow_sw, idr_eq, ne_eq, Nat.reduceEqDiff, not_false_eq_true, Nat.reduceLT, reduceCtorEq]; done))) ?_
    exact G.reti (by decide +kernel) rfl rfl (Nat.le_of_ble_eq_true rfl) (Nat.le_of_ble_eq_true rfl) ((by rw [hQ]; simp only [k_place, g2, if_pos c8, mrow_self]))
  · skip
    rw [if_neg c8] at hk
    refine G.sl [(.aload_n 0, 1, 0, 0, 0, 0), (.iload_n 2, 1, 2, 0, 0, 0), (.iconst 0, 1, 0, 0, 0, nI 0), (.iconst 3, 1, 0, 0, 0, nI 3)] [] (pc2 := 18) (ls2 := [some (.ref 54), some (.int x1), some (.int x2), none, none, none]) (st2 := [.int (nI 3), .int (nI 0), .int x2, .ref 54]) (M2 := mrow (mrow M 54 r4) 55 r5) (Ps := []) (by decide +kernel) rfl rfl trivial ?_
    obtain ⟨k9, hk⟩ := hk
    have t10 : GM z mX12_within (d + 1) [.int x2, .int (nI 0), .int (nI 3)] (mrow (mrow M 54 r4) 55 r5) (fun rs => rs = .inl (some (.int (k_within x2 (nI 0) (nI 3))), mrow (mrow M 54 r4) 55 r5)) := by
      have q9 := c_k_within z (d + 1) (mrow (mrow M 54 r4) 55 r5) x2 (nI 0) (nI 3)
      try simp only [mput, mrow_same, mrow_hit, mrow_miss, mrow_sw, idr_eq, ne_eq, Nat.reduceEqDiff, not_false_eq_true, Nat.reduceLT, reduceCtorEq] at q9
      exact q9
    refine G.callS (as := [.int x2, .int (nI 0), .int (nI 3)]) (rest := [.ref 54]) oX12_within lk_EvenFindersModel_379 (by decide +kernel) rfl (Nat.le_of_ble_eq_true rfl) rfl ⟨Nat.le_of_ble_eq_true rfl, Nat.le_of_ble_eq_true rfl⟩ t10 (fun v9 N9 h11 => ?_) (fun E9 N9 h11 => by cases h11)
    cases h11
    show G z mX12_place (d + 2) 0 0 21 [some (.ref 54), some (.int x1), some (.int x2), none, none, none] [.int (k_within x2 (nI 0) (nI 3)), .ref 54] (mrow (mrow M 54 r4) 55 r5) Q
    refine G.sl [(.iconst 2, 1, 0, 0, 0, nI 2), (.iconst 1, 1, 0, 0, 0, nI 1)] [] (pc2 := 23) (ls2 := [some (.ref 54), some (.int x1), some (.int x2), none, none, none]) (st2 := [.int (nI 1), .int (nI 2), .int (k_within x2 (nI 0) (nI 3)), .ref 54]) (M2 := mrow (mrow M 54 r4) 55 r5) (Ps := []) (by decide +kernel) rfl rfl trivial ?_
    obtain ⟨k12, hk⟩ := hk
    rcases g13 : k_may_1 r4 r5 (k_within x2 (nI 0) (nI 3)) (nI 2) with ⟨v14, r15, r16⟩
    try simp only [g13] at hk
    have ev14 : v14 = 0 ∨ v14 = 1 := by
      have q9 := k_may_1_01 r4 r5 (k_within x2 (nI 0) (nI 3)) (nI 2)
      rw [g13] at q9
      exact q9
    have t17 : GM z mX12_may (d + 1) [.ref 54, .int (k_within x2 (nI 0) (nI 3)), .int (nI 2), .int (nI 1)] (mrow (mrow M 54 r4) 55 r5) (fun rs => rs = .inl (some (.int v14), mrow (mrow M 54 r15) 55 r16)) := by
      have q9 := c_k_may_1_54 z (d + 1) (mrow (mrow M 54 r4) 55 r5) (k_within x2 (nI 0) (nI 3)) (nI 2)
      try simp only [mput, mrow_same, mrow_hit, mrow_miss, mrow_sw, idr_eq, ne_eq, Nat.reduceEqDiff, not_false_eq_true, Nat.reduceLT, reduceCtorEq, g13] at q9
      exact q9
    refine G.callV (as := [.int (k_within x2 (nI 0) (nI 3)), .int (nI 2), .int (nI 1)]) (rest := []) (a := 54) oX12_may lk_EvenFindersModel_213 (by decide +kernel) rfl rfl ⟨rfl, rfl⟩ (Nat.le_of_ble_eq_true rfl) rfl ⟨Nat.le_of_ble_eq_true rfl, Nat.le_of_ble_eq_true rfl⟩ t17 (fun v9 N9 h18 => ?_) (fun E9 N9 h18 => by cases h18)
    cases h18
    show G z mX12_place (d + 2) 0 0 26 [some (.ref 54), some (.int x1), some (.int x2), none, none, none] [.int v14] (mrow (mrow M 54 r15) 55 r16) Q
    refine G.if_ne (off := (5)) (tgt := 31) (by decide +kernel) rfl (fun c19 => ?_) (fun c19 => ?_)
    · skip
      rw [if_neg c19] at hk
      refine G.sl [(.aload_n 0, 1, 0, 0, 0, 0)] [] (pc2 := 32) (ls2 := [some (.ref 54), some (.int x1), some (.int x2), none, none, none]) (st2 := [.ref 54]) (M2 := mrow (mrow M 54 r15) 55 r16) (Ps := []) (by decide +kernel) rfl rfl trivial ?_
      obtain ⟨k20, hk⟩ := hk
      rcases g21 : k_take (M.1 71) (M.1 72) with ⟨u22, r23⟩
      try simp only [g21] at hk
      have t24 : GM z mX12_take (d + 1) [.ref 54] (mrow (mrow M 54 r15) 55 r16) (fun rs => rs = .inl (none, mrow (mrow (mrow M 54 r15) 55 r16) 72 r23)) := by
        have q9 := c_k_take_54 z d (mrow (mrow M 54 r15) 55 r16) k20
        try simp only [mput, mrow_same, mrow_hit, mrow_miss, mrow_sw, idr_eq, ne_eq, Nat.reduceEqDiff, not_false_eq_true, Nat.reduceLT, reduceCtorEq, g21] at q9
        exact q9
      refine G.callV (as := []) (rest := []) (a := 54) oX12_take lk_EvenFindersModel_320 (by decide +kernel) rfl rfl ⟨rfl, rfl⟩ (Nat.le_of_ble_eq_true rfl) rfl ⟨Nat.le_of_ble_eq_true rfl, Nat.le_of_ble_eq_true rfl⟩ t24 (fun v9 N9 h25 => ?_) (fun E9 N9 h25 => by cases h25)
      cases h25
      show G z mX12_place (d + 2) 0 0 35 [some (.ref 54), some (.int x1), some (.int x2), none, none, none] [] (mrow (mrow (mrow M 54 r15) 55 r16) 72 r23) Q
      refine G.sl [(.iload_n 2, 1, 2, 0, 0, 0), (.iconst 2, 1, 0, 0, 0, nI 2)] [] (pc2 := 37) (ls2 := [some (.ref 54), some (.int x1), some (.int x2), none, none, none]) (st2 := [.int (nI 2), .int x2]) (M2 := mrow (mrow (mrow M 54 r15) 55 r16) 72 r23) (Ps := []) (by decide +kernel) rfl rfl trivial ?_
      refine G.ic_ge (off := (25)) (tgt := 62) (by decide +kernel) rfl (fun c26 => ?_) (fun c26 => ?_)
      · skip
        rw [if_pos c26] at hk
        refine G.sl [(.iconst 0, 1, 0, 0, 0, nI 0), (.istore_n 3, 1, 3, 0, 0, 0), (.iconst 0, 1, 0, 0, 0, nI 0), (.istore 4, 2, 4, 0, 0, 0)] [] (pc2 := 67) (ls2 := [some (.ref 54), some (.int x1), some (.int x2), some (.int (nI 0)), some (.int (nI 0)), none]) (st2 := []) (M2 := mrow (mrow (mrow M 54 r15) 55 r16) 72 r23) (Ps := []) (by decide +kernel) rfl rfl trivial ?_
        obtain ⟨k28, k29, hk⟩ := hk
        obtain ⟨k30, hk⟩ := hk
        refine lp_k_place_54_67 z d (mrow (mrow (mrow M 54 r15) 55 r16) 72 r23) Q x1 x2 (ix (r15 23)) k29 (ixE k28) ?_
        show G z mX12_place (d + 2) 0 0 107 [some (.ref 54), some (.int x1), some (.int x2), some (.int (k_place_67 r23 x1 x2 (ix (r15 23)))), none, none] [] (mrow (mrow (mrow M 54 r15) 55 r16) 72 r23) Q
        refine G.sl [(.iconst 0, 1, 0, 0, 0, nI 0), (.istore 4, 2, 4, 0, 0, 0), (.iconst 0, 1, 0, 0, 0, nI 0), (.istore 5, 2, 5, 0, 0, 0)] [] (pc2 := 113) (ls2 := [some (.ref 54), some (.int x1), some (.int x2), some (.int (k_place_67 r23 x1 x2 (ix (r15 23)))), some (.int (nI 0)), some (.int (nI 0))]) (st2 := []) (M2 := mrow (mrow (mrow M 54 r15) 55 r16) 72 r23) (Ps := []) (by decide +kernel) rfl rfl trivial ?_
        obtain ⟨k33, k34, hk⟩ := hk
        refine lp_k_place_54_113 z d (mrow (mrow (mrow M 54 r15) 55 r16) 72 r23) Q x1 x2 (k_place_67 r23 x1 x2 (ix (r15 23))) (ix (r15 21)) k34 (ixE k33) ?_
        show G z mX12_place (d + 2) 0 0 166 [none, none, some (.int x2), some (.int (k_place_67 r23 x1 x2 (ix (r15 23)))), some (.int (k_place_113 (M.1 60) x1 x2 (k_place_67 r23 x1 x2 (ix (r15 23))) (ix (r15 21)))), none] [] (mrow (mrow (mrow M 54 r15) 55 r16) 72 r23) Q
        refine G.sl [(.iload_n 2, 1, 2, 0, 0, 0), (.iconst 2, 1, 0, 0, 0, nI 2)] [] (pc2 := 168) (ls2 := [none, none, some (.int x2), some (.int (k_place_67 r23 x1 x2 (ix (r15 23)))), some (.int (k_place_113 (M.1 60) x1 x2 (k_place_67 r23 x1 x2 (ix (r15 23))) (ix (r15 21)))), none]) (st2 := [.int (nI 2), .int x2]) (M2 := mrow (mrow (mrow M 54 r15) 55 r16) 72 r23) (Ps := []) (by decide +kernel) rfl rfl trivial ?_
        refine G.ic_ne (off := (7)) (tgt := 175) (by decide +kernel) rfl (fun c36 => ?_) (fun c36 => ?_)
        · skip
          refine G.sl [(.iload 4, 2, 4, 0, 0, 0)] [] (pc2 := 177) (ls2 := [none, none, some (.int x2), some (.int (k_place_67 r23 x1 x2 (ix (r15 23)))), some (.int (k_place_113 (M.1 60) x1 x2 (k_place_67 r23 x1 x2 (ix (r15 23))) (ix (r15 21)))), none]) (st2 := [.int (k_place_113 (M.1 60) x1 x2 (k_place_67 r23 x1 x2 (ix (r15 23))) (ix (r15 21)))]) (M2 := mrow (mrow (mrow M 54 r15) 55 r16) 72 r23) (Ps := []) (by decide +kernel) rfl rfl trivial ?_
          exact G.reti (by decide +kernel) rfl rfl (Nat.le_of_ble_eq_true rfl) (Nat.le_of_ble_eq_true rfl) ((by rw [hQ]; simp only [k_place, g2, if_neg c8, g13, if_neg c19, g21, if_pos c26, if_neg c36, mrow_self]))
        · skip
          refine G.sl [(.iload_n 3, 1, 3, 0, 0, 0), (.goto 5, 3, 177, 0, 0, 0)] [] (pc2 := 177) (ls2 := [none, none, some (.int x2), some (.int (k_place_67 r23 x1 x2 (ix (r15 23)))), some (.int (k_place_113 (M.1 60) x1 x2 (k_place_67 r23 x1 x2 (ix (r15 23))) (ix (r15 21)))), none]) (st2 := [.int (k_place_67 r23 x1 x2 (ix (r15 23)))]) (M2 := mrow (mrow (mrow M 54 r15) 55 r16) 72 r23) (Ps := []) (by decide +kernel) rfl rfl trivial ?_
          exact G.reti (by decide +kernel) rfl rfl (Nat.le_of_ble_eq_true rfl) (Nat.le_of_ble_eq_true rfl) ((by rw [hQ]; simp only [k_place, g2, if_neg c8, g13, if_neg c19, g21, if_pos c26, if_pos c36, mrow_self]))
      · skip
        rw [if_neg c26] at hk
        refine G.sl [(.iload_n 2, 1, 2, 0, 0, 0)] [] (pc2 := 41) (ls2 := [some (.ref 54), some (.int x1), some (.int x2), none, none, none]) (st2 := [.int x2]) (M2 := mrow (mrow (mrow M 54 r15) 55 r16) 72 r23) (Ps := []) (by decide +kernel) rfl rfl trivial ?_
        refine G.if_ne (off := (11)) (tgt := 52) (by decide +kernel) rfl (fun c37 => ?_) (fun c37 => ?_)
        · skip
          rw [if_neg c37] at hk
          refine G.sl [(.aload_n 0, 1, 0, 0, 0, 0), (.aload_n 0, 1, 0, 0, 0, 0), (.iload_n 1, 1, 1, 0, 0, 0)] [] (pc2 := 55) (ls2 := [some (.ref 54), some (.int x1), some (.int x2), none, none, none]) (st2 := [.int x1, .ref 54, .ref 54]) (M2 := mrow (mrow (mrow M 54 r15) 55 r16) 72 r23) (Ps := []) (by decide +kernel) rfl rfl trivial ?_
          obtain ⟨k38, k39, hk⟩ := hk
          have t41 : GM z mX12_lyingAt (d + 1) [.ref 54, .int x1] (mrow (mrow (mrow M 54 r15) 55 r16) 72 r23) (fun rs => rs = .inl (some (.int (k_lyingAt r23 (ix (r15 22)) x1)), mrow (mrow (mrow M 54 r15) 55 r16) 72 r23)) := by
            have q9 := c_k_lyingAt_54 z (d + 1) (mrow (mrow (mrow M 54 r15) 55 r16) 72 r23) x1 (ix (r15 22)) k39 (ixE k38)
            try simp only [mput, mrow_same, mrow_hit, mrow_miss, mrow_sw, idr_eq, ne_eq, Nat.reduceEqDiff, not_false_eq_true, Nat.reduceLT, reduceCtorEq] at q9
            exact q9
          refine G.callV (as := [.int x1]) (rest := [.ref 54]) (a := 54) oX12_lyingAt lk_EvenFindersModel_348 (by decide +kernel) rfl rfl ⟨rfl, rfl⟩ (Nat.le_of_ble_eq_true rfl) rfl ⟨Nat.le_of_ble_eq_true rfl, Nat.le_of_ble_eq_true rfl⟩ t41 (fun v9 N9 h42 => ?_) (fun E9 N9 h42 => by cases h42)
          cases h42
          show G z mX12_place (d + 2) 0 0 58 [some (.ref 54), some (.int x1), some (.int x2), none, none, none] [.int (k_lyingAt r23 (ix (r15 22)) x1), .ref 54] (mrow (mrow (mrow M 54 r15) 55 r16) 72 r23) Q
          have t44 : GM z mX12_worthOf (d + 1) [.ref 54, .int (k_lyingAt r23 (ix (r15 22)) x1)] (mrow (mrow (mrow M 54 r15) 55 r16) 72 r23) (fun rs => rs = .inl (some (.int (k_worthOf (M.1 61) (ix (r15 22)) (k_lyingAt r23 (ix (r15 22)) x1))), mrow (mrow (mrow M 54 r15) 55 r16) 72 r23)) := by
            have q9 := c_k_worthOf_54 z (d + 1) (mrow (mrow (mrow M 54 r15) 55 r16) 72 r23) (k_lyingAt r23 (ix (r15 22)) x1) (ix (r15 22)) (by omega) (ixE k38)
            try simp only [mput, mrow_same, mrow_hit, mrow_miss, mrow_sw, idr_eq, ne_eq, Nat.reduceEqDiff, not_false_eq_true, Nat.reduceLT, reduceCtorEq] at q9
            exact q9
          refine G.callV (as := [.int (k_lyingAt r23 (ix (r15 22)) x1)]) (rest := []) (a := 54) oX12_worthOf lk_EvenFindersModel_388 (by decide +kernel) rfl rfl ⟨rfl, rfl⟩ (Nat.le_of_ble_eq_true rfl) rfl ⟨Nat.le_of_ble_eq_true rfl, Nat.le_of_ble_eq_true rfl⟩ t44 (fun v9 N9 h45 => ?_) (fun E9 N9 h45 => by cases h45)
          cases h45
          show G z mX12_place (d + 2) 0 0 61 [some (.ref 54), some (.int x1), some (.int x2), none, none, none] [.int (k_worthOf (M.1 61) (ix (r15 22)) (k_lyingAt r23 (ix (r15 22)) x1))] (mrow (mrow (mrow M 54 r15) 55 r16) 72 r23) Q
          exact G.reti (by decide +kernel) rfl rfl (Nat.le_of_ble_eq_true rfl) (Nat.le_of_ble_eq_true rfl) ((by rw [hQ]; simp only [k_place, g2, if_neg c8, g13, if_neg c19, g21, if_neg c26, if_neg c37, mrow_self]))
        · skip
          rw [if_pos c37] at hk
          refine G.sl [(.aload_n 0, 1, 0, 0, 0, 0), (.iload_n 1, 1, 1, 0, 0, 0)] [] (pc2 := 46) (ls2 := [some (.ref 54), some (.int x1), some (.int x2), none, none, none]) (st2 := [.int x1, .ref 54]) (M2 := mrow (mrow (mrow M 54 r15) 55 r16) 72 r23) (Ps := []) (by decide +kernel) rfl rfl trivial ?_
          obtain ⟨k46, k47, hk⟩ := hk
          have t49 : GM z mX12_lyingAt (d + 1) [.ref 54, .int x1] (mrow (mrow (mrow M 54 r15) 55 r16) 72 r23) (fun rs => rs = .inl (some (.int (k_lyingAt r23 (ix (r15 22)) x1)), mrow (mrow (mrow M 54 r15) 55 r16) 72 r23)) := by
            have q9 := c_k_lyingAt_54 z (d + 1) (mrow (mrow (mrow M 54 r15) 55 r16) 72 r23) x1 (ix (r15 22)) k47 (ixE k46)
            try simp only [mput, mrow_same, mrow_hit, mrow_miss, mrow_sw, idr_eq, ne_eq, Nat.reduceEqDiff, not_false_eq_true, Nat.reduceLT, reduceCtorEq] at q9
            exact q9
          refine G.callV (as := [.int x1]) (rest := []) (a := 54) oX12_lyingAt lk_EvenFindersModel_348 (by decide +kernel) rfl rfl ⟨rfl, rfl⟩ (Nat.le_of_ble_eq_true rfl) rfl ⟨Nat.le_of_ble_eq_true rfl, Nat.le_of_ble_eq_true rfl⟩ t49 (fun v9 N9 h50 => ?_) (fun E9 N9 h50 => by cases h50)
          cases h50
          show G z mX12_place (d + 2) 0 0 49 [some (.ref 54), some (.int x1), some (.int x2), none, none, none] [.int (k_lyingAt r23 (ix (r15 22)) x1)] (mrow (mrow (mrow M 54 r15) 55 r16) 72 r23) Q
          refine G.sl [(.goto 12, 3, 61, 0, 0, 0)] [] (pc2 := 61) (ls2 := [some (.ref 54), some (.int x1), some (.int x2), none, none, none]) (st2 := [.int (k_lyingAt r23 (ix (r15 22)) x1)]) (M2 := mrow (mrow (mrow M 54 r15) 55 r16) 72 r23) (Ps := []) (by decide +kernel) rfl rfl trivial ?_
          exact G.reti (by decide +kernel) rfl rfl (Nat.le_of_ble_eq_true rfl) (Nat.le_of_ble_eq_true rfl) ((by rw [hQ]; simp only [k_place, g2, if_neg c8, g13, if_neg c19, g21, if_neg c26, if_pos c37, mrow_self]))
    · skip
      rw [if_pos c19] at hk
      refine G.sl [(.iconst 0, 1, 0, 0, 0, nI 0)] [] (pc2 := 30) (ls2 := [some (.ref 54), some (.int x1), some (.int x2), none, none, none]) (st2 := [.int (nI 0)]) (M2 := mrow (mrow M 54 r15) 55 r16) (Ps := []) (by decide +kernel) rfl rfl trivial ?_
      refine G.mem (M' := mrow (mrow (mrow M 54 r15) 55 r16) 72 (M.1 72)) (((mrow_id (N := mrow (mrow M 54 r15) 55 r16) (c := 72) (f := M.1 72) (by first | rfl | (simp only [mput, mrow_same, mrow_hit, mrow_miss, mrow_sw, idr_eq, ne_eq, Nat.reduceEqDiff, not_false_eq_true, Nat.reduceLT, reduceCtorEq]; done))).symm).trans (by first | rfl | (simp only [mput, mrow_same, mrow_hit, mrow_miss, mrow_sw, idr_eq, ne_eq, Nat.reduceEqDiff, not_false_eq_true, Nat.reduceLT, reduceCtorEq]; done))) ?_
      exact G.reti (by decide +kernel) rfl rfl (Nat.le_of_ble_eq_true rfl) (Nat.le_of_ble_eq_true rfl) ((by rw [hQ]; simp only [k_place, g2, if_neg c8, g13, if_pos c19, mrow_self]))
set_option maxHeartbeats 4000000 in
set_option maxRecDepth 3000 in
theorem c_k_road_54 (z : Zp) (d : Nat) (M : Mem) (x1 : Int32) (x2 : Int32) (nr : Nat) (hnr : nr ≤ 12) (cr : M.1 54 21 = nI nr) (hk : k_road_ok (M.1 54) (M.1 55) (M.1 60) nr x1 x2) : GM z mX12_road (d + 1) [.ref 54, .int x1, .int x2] M (fun rs => rs = .inl (some (.int ((k_road (M.1 54) (M.1 55) (M.1 60) nr x1 x2).1)), mrow (mrow M 54 ((k_road (M.1 54) (M.1 55) (M.1 60) nr x1 x2).2.1)) 55 ((k_road (M.1 54) (M.1 55) (M.1 60) nr x1 x2).2.2))) := by
  simp only [k_road_ok] at hk
  refine GM.of oX12_road.1 (Nat.le_of_ble_eq_true rfl) ?_
  show G z mX12_road (d + 1) 0 0 0 [some (.ref 54), some (.int x1), some (.int x2)] [] M _
  obtain ⟨Q, hQ⟩ : ∃ Q : Rs → Prop, Q = (fun rs => rs = .inl (some (.int ((k_road (M.1 54) (M.1 55) (M.1 60) nr x1 x2).1)), mrow (mrow M 54 ((k_road (M.1 54) (M.1 55) (M.1 60) nr x1 x2).2.1)) 55 ((k_road (M.1 54) (M.1 55) (M.1 60) nr x1 x2).2.2))) := ⟨_, rfl⟩
  rw [← hQ]
  refine G.sl [(.aload_n 0, 1, 0, 0, 0, 0), (.iconst 0, 1, 0, 0, 0, nI 0), (.putfield 3, 3, 11, 0, 123, 0), (.aload_n 0, 1, 0, 0, 0, 0), (.iload_n 1, 1, 1, 0, 0, 0), (.iconst 0, 1, 0, 0, 0, nI 0), (.aload_n 0, 1, 0, 0, 0, 0), (.getfield 159, 3, 11, 21, 144, 0), (.iconst 1, 1, 0, 0, 0, nI 1), (.isub, 1, 0, 0, 0, 0)] [] (pc2 := 14) (ls2 := [some (.ref 54), some (.int x1), some (.int x2)]) (st2 := [.int ((M.1 54 21) - (nI 1)), .int (nI 0), .int x1, .ref 54]) (M2 := mput M 54 0 (nI 0)) (Ps := []) (by decide +kernel) rfl rfl trivial ?_
  refine G.mem (M' := mrow M 54 (upd (M.1 54) 0 (nI 0))) (by first | rfl | (simp only [mput, mrow_same, mrow_hit, mrow_miss, mrow_sw, idr_eq, ne_eq, Nat.reduceEqDiff, not_false_eq_true, Nat.reduceLT, reduceCtorEq]; done)) ?_
  rw [cr]
  obtain ⟨k1, hk⟩ := hk
  have t2 : GM z mX12_within (d) [.int x1, .int (nI 0), .int ((nI nr) - (nI 1))] (mrow M 54 (upd (M.1 54) 0 (nI 0))) (fun rs => rs = .inl (some (.int (k_within x1 (nI 0) ((nI nr) - (nI 1)))), mrow M 54 (upd (M.1 54) 0 (nI 0)))) := by
    have q9 := c_k_within z d (mrow M 54 (upd (M.1 54) 0 (nI 0))) x1 (nI 0) ((nI nr) - (nI 1))
    try simp only [mput, mrow_same, mrow_hit, mrow_miss, mrow_sw, idr_eq, ne_eq, Nat.reduceEqDiff, not_false_eq_true, Nat.reduceLT, reduceCtorEq] at q9
    exact q9
  refine G.callS (as := [.int x1, .int (nI 0), .int ((nI nr) - (nI 1))]) (rest := [.ref 54]) oX12_within lk_EvenFindersModel_379 (by decide +kernel) rfl (Nat.le_of_ble_eq_true rfl) rfl ⟨Nat.le_of_ble_eq_true rfl, Nat.le_of_ble_eq_true rfl⟩ t2 (fun v9 N9 h3 => ?_) (fun E9 N9 h3 => by cases h3)
  cases h3
  show G z mX12_road (d + 1) 0 0 17 [some (.ref 54), some (.int x1), some (.int x2)] [.int (k_within x1 (nI 0) ((nI nr) - (nI 1))), .ref 54] (mrow M 54 (upd (M.1 54) 0 (nI 0))) Q
  refine G.sl [(.iconst 1, 1, 0, 0, 0, nI 1), (.iconst 0, 1, 0, 0, 0, nI 0)] [] (pc2 := 19) (ls2 := [some (.ref 54), some (.int x1), some (.int x2)]) (st2 := [.int (nI 0), .int (nI 1), .int (k_within x1 (nI 0) ((nI nr) - (nI 1))), .ref 54]) (M2 := mrow M 54 (upd (M.1 54) 0 (nI 0))) (Ps := []) (by decide +kernel) rfl rfl trivial ?_
  obtain ⟨k4, hk⟩ := hk
  rcases g5 : k_may_0 (upd (M.1 54) 0 (nI 0)) (M.1 55) (k_within x1 (nI 0) ((nI nr) - (nI 1))) (nI 1) with ⟨v6, r7, r8⟩
  try simp only [g5] at hk
  have ev6 : v6 = 0 ∨ v6 = 1 := by
    have q9 := k_may_0_01 (upd (M.1 54) 0 (nI 0)) (M.1 55) (k_within x1 (nI 0) ((nI nr) - (nI 1))) (nI 1)
    rw [g5] at q9
    exact q9
  have t9 : GM z mX12_may (d) [.ref 54, .int (k_within x1 (nI 0) ((nI nr) - (nI 1))), .int (nI 1), .int (nI 0)] (mrow M 54 (upd (M.1 54) 0 (nI 0))) (fun rs => rs = .inl (some (.int v6), mrow (mrow M 54 r7) 55 r8)) := by
    have q9 := c_k_may_0_54 z d (mrow M 54 (upd (M.1 54) 0 (nI 0))) (k_within x1 (nI 0) ((nI nr) - (nI 1))) (nI 1)
    try simp only [mput, mrow_same, mrow_hit, mrow_miss, mrow_sw, idr_eq, ne_eq, Nat.reduceEqDiff, not_false_eq_true, Nat.reduceLT, reduceCtorEq, g5] at q9
    exact q9
  refine G.callV (as := [.int (k_within x1 (nI 0) ((nI nr) - (nI 1))), .int (nI 1), .int (nI 0)]) (rest := []) (a := 54) oX12_may lk_EvenFindersModel_213 (by decide +kernel) rfl rfl ⟨rfl, rfl⟩ (Nat.le_of_ble_eq_true rfl) rfl ⟨Nat.le_of_ble_eq_true rfl, Nat.le_of_ble_eq_true rfl⟩ t9 (fun v9 N9 h10 => ?_) (fun E9 N9 h10 => by cases h10)
  cases h10
  show G z mX12_road (d + 1) 0 0 22 [some (.ref 54), some (.int x1), some (.int x2)] [.int v6] (mrow (mrow M 54 r7) 55 r8) Q
  refine G.if_eq (off := (18)) (tgt := 40) (by decide +kernel) rfl (fun c11 => ?_) (fun c11 => ?_)
  · skip
    rw [if_pos c11] at hk
    refine G.sl [(.iconst 0, 1, 0, 0, 0, nI 0)] [] (pc2 := 41) (ls2 := [some (.ref 54), some (.int x1), some (.int x2)]) (st2 := [.int (nI 0)]) (M2 := mrow (mrow M 54 r7) 55 r8) (Ps := []) (by decide +kernel) rfl rfl trivial ?_
    exact G.reti (by decide +kernel) rfl rfl (Nat.le_of_ble_eq_true rfl) (Nat.le_of_ble_eq_true rfl) ((by rw [hQ]; simp only [k_road, g5, if_pos c11, mrow_self]))
  · skip
    rw [if_neg c11] at hk
    refine G.sl [(.aload_n 0, 1, 0, 0, 0, 0), (.iload_n 2, 1, 2, 0, 0, 0), (.iconst 0, 1, 0, 0, 0, nI 0), (.iconst 2, 1, 0, 0, 0, nI 2)] [] (pc2 := 29) (ls2 := [some (.ref 54), some (.int x1), some (.int x2)]) (st2 := [.int (nI 2), .int (nI 0), .int x2, .ref 54]) (M2 := mrow (mrow M 54 r7) 55 r8) (Ps := []) (by decide +kernel) rfl rfl trivial ?_
    obtain ⟨k12, hk⟩ := hk
    have t13 : GM z mX12_within (d) [.int x2, .int (nI 0), .int (nI 2)] (mrow (mrow M 54 r7) 55 r8) (fun rs => rs = .inl (some (.int (k_within x2 (nI 0) (nI 2))), mrow (mrow M 54 r7) 55 r8)) := by
      have q9 := c_k_within z d (mrow (mrow M 54 r7) 55 r8) x2 (nI 0) (nI 2)
      try simp only [mput, mrow_same, mrow_hit, mrow_miss, mrow_sw, idr_eq, ne_eq, Nat.reduceEqDiff, not_false_eq_true, Nat.reduceLT, reduceCtorEq] at q9
      exact q9
    refine G.callS (as := [.int x2, .int (nI 0), .int (nI 2)]) (rest := [.ref 54]) oX12_within lk_EvenFindersModel_379 (by decide +kernel) rfl (Nat.le_of_ble_eq_true rfl) rfl ⟨Nat.le_of_ble_eq_true rfl, Nat.le_of_ble_eq_true rfl⟩ t13 (fun v9 N9 h14 => ?_) (fun E9 N9 h14 => by cases h14)
    cases h14
    show G z mX12_road (d + 1) 0 0 32 [some (.ref 54), some (.int x1), some (.int x2)] [.int (k_within x2 (nI 0) (nI 2)), .ref 54] (mrow (mrow M 54 r7) 55 r8) Q
    refine G.sl [(.iconst 2, 1, 0, 0, 0, nI 2), (.iconst 1, 1, 0, 0, 0, nI 1)] [] (pc2 := 34) (ls2 := [some (.ref 54), some (.int x1), some (.int x2)]) (st2 := [.int (nI 1), .int (nI 2), .int (k_within x2 (nI 0) (nI 2)), .ref 54]) (M2 := mrow (mrow M 54 r7) 55 r8) (Ps := []) (by decide +kernel) rfl rfl trivial ?_
    obtain ⟨k15, hk⟩ := hk
    rcases g16 : k_may_1 r7 r8 (k_within x2 (nI 0) (nI 2)) (nI 2) with ⟨v17, r18, r19⟩
    try simp only [g16] at hk
    have ev17 : v17 = 0 ∨ v17 = 1 := by
      have q9 := k_may_1_01 r7 r8 (k_within x2 (nI 0) (nI 2)) (nI 2)
      rw [g16] at q9
      exact q9
    have t20 : GM z mX12_may (d) [.ref 54, .int (k_within x2 (nI 0) (nI 2)), .int (nI 2), .int (nI 1)] (mrow (mrow M 54 r7) 55 r8) (fun rs => rs = .inl (some (.int v17), mrow (mrow M 54 r18) 55 r19)) := by
      have q9 := c_k_may_1_54 z d (mrow (mrow M 54 r7) 55 r8) (k_within x2 (nI 0) (nI 2)) (nI 2)
      try simp only [mput, mrow_same, mrow_hit, mrow_miss, mrow_sw, idr_eq, ne_eq, Nat.reduceEqDiff, not_false_eq_true, Nat.reduceLT, reduceCtorEq, g16] at q9
      exact q9
    refine G.callV (as := [.int (k_within x2 (nI 0) (nI 2)), .int (nI 2), .int (nI 1)]) (rest := []) (a := 54) oX12_may lk_EvenFindersModel_213 (by decide +kernel) rfl rfl ⟨rfl, rfl⟩ (Nat.le_of_ble_eq_true rfl) rfl ⟨Nat.le_of_ble_eq_true rfl, Nat.le_of_ble_eq_true rfl⟩ t20 (fun v9 N9 h21 => ?_) (fun E9 N9 h21 => by cases h21)
    cases h21
    show G z mX12_road (d + 1) 0 0 37 [some (.ref 54), some (.int x1), some (.int x2)] [.int v17] (mrow (mrow M 54 r18) 55 r19) Q
    refine G.if_ne (off := (5)) (tgt := 42) (by decide +kernel) rfl (fun c22 => ?_) (fun c22 => ?_)
    · skip
      rw [if_neg c22] at hk
      obtain ⟨k23, k24, k25, hk⟩ := hk
      refine G.sl [(.aload_n 0, 1, 0, 0, 0, 0), (.getfield 32, 3, 11, 13, 136, 0), (.iconst 3, 1, 0, 0, 0, nI 3), (.iload_n 1, 1, 1, 0, 0, 0), (.imul, 1, 0, 0, 0, 0), (.iload_n 2, 1, 2, 0, 0, 0), (.iadd, 1, 0, 0, 0, 0), (.iaload, 1, 0, 0, 0, 0)] [(3 * (ix x1)) + (ix x2)] (pc2 := 52) (ls2 := [some (.ref 54), some (.int x1), some (.int x2)]) (st2 := [.int (M.1 60 ((3 * (ix x1)) + (ix x2)))]) (M2 := mrow (mrow M 54 r18) 55 r19) (Ps := [(((nI 3) * x1) + x2) = nI ((3 * (ix x1)) + (ix x2)) ∧ ((3 * (ix x1)) + (ix x2)) < 36]) (by decide +kernel) rfl rfl ⟨⟨(nAdd (nMul rfl (ixE k23)) (ixE k24)), k25⟩, trivial⟩ ?_
      exact G.reti (by decide +kernel) rfl rfl (Nat.le_of_ble_eq_true rfl) (Nat.le_of_ble_eq_true rfl) ((by rw [hQ]; simp only [k_road, g5, if_neg c11, g16, if_neg c22, mrow_self]))
    · skip
      rw [if_pos c22] at hk
      refine G.sl [(.iconst 0, 1, 0, 0, 0, nI 0)] [] (pc2 := 41) (ls2 := [some (.ref 54), some (.int x1), some (.int x2)]) (st2 := [.int (nI 0)]) (M2 := mrow (mrow M 54 r18) 55 r19) (Ps := []) (by decide +kernel) rfl rfl trivial ?_
      exact G.reti (by decide +kernel) rfl rfl (Nat.le_of_ble_eq_true rfl) (Nat.le_of_ble_eq_true rfl) ((by rw [hQ]; simp only [k_road, g5, if_neg c11, g16, if_pos c22, mrow_self]))
theorem k_isThing_01 (Rmd Rrefused : Nat → Int32) (nt : Nat) (x1 : Int32) (x2 : Int32) : (k_isThing Rmd Rrefused nt x1 x2).1 = 0 ∨ (k_isThing Rmd Rrefused nt x1 x2).1 = 1 := by
  unfold k_isThing
  repeat' split
  all_goals first | exact Or.inl rfl | exact Or.inr rfl | exact k_within_01 _ _ _ | (rename_i h9; have q9 := k_may_0_01 (Rmd) (Rrefused) (k_within x1 (nI 0) ((nI nt) - (nI 1))) x2; rw [h9] at q9; exact q9)
set_option maxHeartbeats 4000000 in
set_option maxRecDepth 3000 in
theorem c_k_isThing_54 (z : Zp) (d : Nat) (M : Mem) (x1 : Int32) (x2 : Int32) (nt : Nat) (hnt : nt ≤ 10) (ct : M.1 54 22 = nI nt) : GM z mX12_isThing (d + 1) [.ref 54, .int x1, .int x2] M (fun rs => rs = .inl (some (.int ((k_isThing (M.1 54) (M.1 55) nt x1 x2).1)), mrow (mrow M 54 ((k_isThing (M.1 54) (M.1 55) nt x1 x2).2.1)) 55 ((k_isThing (M.1 54) (M.1 55) nt x1 x2).2.2))) := by
  refine GM.of oX12_isThing.1 (Nat.le_of_ble_eq_true rfl) ?_
  show G z mX12_isThing (d + 1) 0 0 0 [some (.ref 54), some (.int x1), some (.int x2)] [] M _
  obtain ⟨Q, hQ⟩ : ∃ Q : Rs → Prop, Q = (fun rs => rs = .inl (some (.int ((k_isThing (M.1 54) (M.1 55) nt x1 x2).1)), mrow (mrow M 54 ((k_isThing (M.1 54) (M.1 55) nt x1 x2).2.1)) 55 ((k_isThing (M.1 54) (M.1 55) nt x1 x2).2.2))) := ⟨_, rfl⟩
  rw [← hQ]
  refine G.sl [(.aload_n 0, 1, 0, 0, 0, 0), (.iload_n 1, 1, 1, 0, 0, 0), (.iconst 0, 1, 0, 0, 0, nI 0), (.aload_n 0, 1, 0, 0, 0, 0), (.getfield 162, 3, 11, 22, 145, 0), (.iconst 1, 1, 0, 0, 0, nI 1), (.isub, 1, 0, 0, 0, 0)] [] (pc2 := 9) (ls2 := [some (.ref 54), some (.int x1), some (.int x2)]) (st2 := [.int ((M.1 54 22) - (nI 1)), .int (nI 0), .int x1, .ref 54]) (M2 := M) (Ps := []) (by decide +kernel) rfl rfl trivial ?_
  rw [ct]
  have t2 : GM z mX12_within (d) [.int x1, .int (nI 0), .int ((nI nt) - (nI 1))] M (fun rs => rs = .inl (some (.int (k_within x1 (nI 0) ((nI nt) - (nI 1)))), M)) := by
    have q9 := c_k_within z d M x1 (nI 0) ((nI nt) - (nI 1))
    try simp only [mput, mrow_same, mrow_hit, mrow_miss, mrow_sw, idr_eq, ne_eq, Nat.reduceEqDiff, not_false_eq_true, Nat.reduceLT, reduceCtorEq] at q9
    exact q9
  refine G.callS (as := [.int x1, .int (nI 0), .int ((nI nt) - (nI 1))]) (rest := [.ref 54]) oX12_within lk_EvenFindersModel_379 (by decide +kernel) rfl (Nat.le_of_ble_eq_true rfl) rfl ⟨Nat.le_of_ble_eq_true rfl, Nat.le_of_ble_eq_true rfl⟩ t2 (fun v9 N9 h3 => ?_) (fun E9 N9 h3 => by cases h3)
  cases h3
  show G z mX12_isThing (d + 1) 0 0 12 [some (.ref 54), some (.int x1), some (.int x2)] [.int (k_within x1 (nI 0) ((nI nt) - (nI 1))), .ref 54] M Q
  refine G.sl [(.iload_n 2, 1, 2, 0, 0, 0), (.iconst 0, 1, 0, 0, 0, nI 0)] [] (pc2 := 14) (ls2 := [some (.ref 54), some (.int x1), some (.int x2)]) (st2 := [.int (nI 0), .int x2, .int (k_within x1 (nI 0) ((nI nt) - (nI 1))), .ref 54]) (M2 := M) (Ps := []) (by decide +kernel) rfl rfl trivial ?_
  rcases g5 : k_may_0 (M.1 54) (M.1 55) (k_within x1 (nI 0) ((nI nt) - (nI 1))) x2 with ⟨v6, r7, r8⟩
  have ev6 : v6 = 0 ∨ v6 = 1 := by
    have q9 := k_may_0_01 (M.1 54) (M.1 55) (k_within x1 (nI 0) ((nI nt) - (nI 1))) x2
    rw [g5] at q9
    exact q9
  have t9 : GM z mX12_may (d) [.ref 54, .int (k_within x1 (nI 0) ((nI nt) - (nI 1))), .int x2, .int (nI 0)] M (fun rs => rs = .inl (some (.int v6), mrow (mrow M 54 r7) 55 r8)) := by
    have q9 := c_k_may_0_54 z d M (k_within x1 (nI 0) ((nI nt) - (nI 1))) x2
    try simp only [mput, mrow_same, mrow_hit, mrow_miss, mrow_sw, idr_eq, ne_eq, Nat.reduceEqDiff, not_false_eq_true, Nat.reduceLT, reduceCtorEq, g5] at q9
    exact q9
  refine G.callV (as := [.int (k_within x1 (nI 0) ((nI nt) - (nI 1))), .int x2, .int (nI 0)]) (rest := []) (a := 54) oX12_may lk_EvenFindersModel_213 (by decide +kernel) rfl rfl ⟨rfl, rfl⟩ (Nat.le_of_ble_eq_true rfl) rfl ⟨Nat.le_of_ble_eq_true rfl, Nat.le_of_ble_eq_true rfl⟩ t9 (fun v9 N9 h10 => ?_) (fun E9 N9 h10 => by cases h10)
  cases h10
  show G z mX12_isThing (d + 1) 0 0 17 [some (.ref 54), some (.int x1), some (.int x2)] [.int v6] (mrow (mrow M 54 r7) 55 r8) Q
  exact G.reti (by decide +kernel) rfl (nar01 ev6) (Nat.le_of_ble_eq_true rfl) (Nat.le_of_ble_eq_true rfl) ((by rw [hQ]; simp only [k_isThing, g5, mrow_self]))
set_option maxHeartbeats 4000000 in
set_option maxRecDepth 3000 in
theorem c_k_thing_54 (z : Zp) (d : Nat) (M : Mem) (x1 : Int32) (x2 : Int32) (nt : Nat) (hnt : nt ≤ 10) (ct : M.1 54 22 = nI nt) (hk : k_thing_ok (M.1 54) (M.1 55) (M.1 61) (M.1 71) nt x1 x2) : GM z mX12_thing (d + 2) [.ref 54, .int x1, .int x2] M (fun rs => rs = .inl (some (.int ((k_thing (M.1 54) (M.1 55) (M.1 61) (M.1 71) nt x1 x2).1)), mrow (mrow M 54 ((k_thing (M.1 54) (M.1 55) (M.1 61) (M.1 71) nt x1 x2).2.1)) 55 ((k_thing (M.1 54) (M.1 55) (M.1 61) (M.1 71) nt x1 x2).2.2))) := by
  simp only [k_thing_ok] at hk
  refine GM.of oX12_thing.1 (Nat.le_of_ble_eq_true rfl) ?_
  show G z mX12_thing (d + 2) 0 0 0 [some (.ref 54), some (.int x1), some (.int x2)] [] M _
  obtain ⟨Q, hQ⟩ : ∃ Q : Rs → Prop, Q = (fun rs => rs = .inl (some (.int ((k_thing (M.1 54) (M.1 55) (M.1 61) (M.1 71) nt x1 x2).1)), mrow (mrow M 54 ((k_thing (M.1 54) (M.1 55) (M.1 61) (M.1 71) nt x1 x2).2.1)) 55 ((k_thing (M.1 54) (M.1 55) (M.1 61) (M.1 71) nt x1 x2).2.2))) := ⟨_, rfl⟩
  rw [← hQ]
  refine G.sl [(.aload_n 0, 1, 0, 0, 0, 0), (.iconst 0, 1, 0, 0, 0, nI 0), (.putfield 3, 3, 11, 0, 123, 0), (.aload_n 0, 1, 0, 0, 0, 0), (.iload_n 1, 1, 1, 0, 0, 0), (.iconst 1, 1, 0, 0, 0, nI 1)] [] (pc2 := 8) (ls2 := [some (.ref 54), some (.int x1), some (.int x2)]) (st2 := [.int (nI 1), .int x1, .ref 54]) (M2 := mput M 54 0 (nI 0)) (Ps := []) (by decide +kernel) rfl rfl trivial ?_
  refine G.mem (M' := mrow M 54 (upd (M.1 54) 0 (nI 0))) (by first | rfl | (simp only [mput, mrow_same, mrow_hit, mrow_miss, mrow_sw, idr_eq, ne_eq, Nat.reduceEqDiff, not_false_eq_true, Nat.reduceLT, reduceCtorEq]; done)) ?_
  obtain ⟨k1, hk⟩ := hk
  rcases g2 : k_isThing (upd (M.1 54) 0 (nI 0)) (M.1 55) nt x1 (nI 1) with ⟨v3, r4, r5⟩
  try simp only [g2] at hk
  have ev3 : v3 = 0 ∨ v3 = 1 := by
    have q9 := k_isThing_01 (upd (M.1 54) 0 (nI 0)) (M.1 55) nt x1 (nI 1)
    rw [g2] at q9
    exact q9
  have t6 : GM z mX12_isThing (d + 1) [.ref 54, .int x1, .int (nI 1)] (mrow M 54 (upd (M.1 54) 0 (nI 0))) (fun rs => rs = .inl (some (.int v3), mrow (mrow M 54 r4) 55 r5)) := by
    have q9 := c_k_isThing_54 z d (mrow M 54 (upd (M.1 54) 0 (nI 0))) x1 (nI 1) nt hnt ct
    try simp only [mput, mrow_same, mrow_hit, mrow_miss, mrow_sw, idr_eq, ne_eq, Nat.reduceEqDiff, not_false_eq_true, Nat.reduceLT, reduceCtorEq, g2] at q9
    exact q9
  refine G.callV (as := [.int x1, .int (nI 1)]) (rest := []) (a := 54) oX12_isThing lk_EvenFindersModel_397 (by decide +kernel) rfl rfl ⟨rfl, rfl⟩ (Nat.le_of_ble_eq_true rfl) rfl ⟨Nat.le_of_ble_eq_true rfl, Nat.le_of_ble_eq_true rfl⟩ t6 (fun v9 N9 h7 => ?_) (fun E9 N9 h7 => by cases h7)
  cases h7
  show G z mX12_thing (d + 2) 0 0 11 [some (.ref 54), some (.int x1), some (.int x2)] [.int v3] (mrow (mrow M 54 r4) 55 r5) Q
  refine G.if_eq (off := (18)) (tgt := 29) (by decide +kernel) rfl (fun c8 => ?_) (fun c8 => ?_)
  · skip
    rw [if_pos c8] at hk
    refine G.sl [(.iconst 0, 1, 0, 0, 0, nI 0)] [] (pc2 := 30) (ls2 := [some (.ref 54), some (.int x1), some (.int x2)]) (st2 := [.int (nI 0)]) (M2 := mrow (mrow M 54 r4) 55 r5) (Ps := []) (by decide +kernel) rfl rfl trivial ?_
    exact G.reti (by decide +kernel) rfl rfl (Nat.le_of_ble_eq_true rfl) (Nat.le_of_ble_eq_true rfl) ((by rw [hQ]; simp only [k_thing, g2, if_pos c8, mrow_self]))
  · skip
    rw [if_neg c8] at hk
    refine G.sl [(.aload_n 0, 1, 0, 0, 0, 0), (.iload_n 2, 1, 2, 0, 0, 0), (.iconst 0, 1, 0, 0, 0, nI 0), (.iconst 2, 1, 0, 0, 0, nI 2)] [] (pc2 := 18) (ls2 := [some (.ref 54), some (.int x1), some (.int x2)]) (st2 := [.int (nI 2), .int (nI 0), .int x2, .ref 54]) (M2 := mrow (mrow M 54 r4) 55 r5) (Ps := []) (by decide +kernel) rfl rfl trivial ?_
    obtain ⟨k9, hk⟩ := hk
    have t10 : GM z mX12_within (d + 1) [.int x2, .int (nI 0), .int (nI 2)] (mrow (mrow M 54 r4) 55 r5) (fun rs => rs = .inl (some (.int (k_within x2 (nI 0) (nI 2))), mrow (mrow M 54 r4) 55 r5)) := by
      have q9 := c_k_within z (d + 1) (mrow (mrow M 54 r4) 55 r5) x2 (nI 0) (nI 2)
      try simp only [mput, mrow_same, mrow_hit, mrow_miss, mrow_sw, idr_eq, ne_eq, Nat.reduceEqDiff, not_false_eq_true, Nat.reduceLT, reduceCtorEq] at q9
      exact q9
    refine G.callS (as := [.int x2, .int (nI 0), .int (nI 2)]) (rest := [.ref 54]) oX12_within lk_EvenFindersModel_379 (by decide +kernel) rfl (Nat.le_of_ble_eq_true rfl) rfl ⟨Nat.le_of_ble_eq_true rfl, Nat.le_of_ble_eq_true rfl⟩ t10 (fun v9 N9 h11 => ?_) (fun E9 N9 h11 => by cases h11)
    cases h11
    show G z mX12_thing (d + 2) 0 0 21 [some (.ref 54), some (.int x1), some (.int x2)] [.int (k_within x2 (nI 0) (nI 2)), .ref 54] (mrow (mrow M 54 r4) 55 r5) Q
    refine G.sl [(.iconst 2, 1, 0, 0, 0, nI 2), (.iconst 1, 1, 0, 0, 0, nI 1)] [] (pc2 := 23) (ls2 := [some (.ref 54), some (.int x1), some (.int x2)]) (st2 := [.int (nI 1), .int (nI 2), .int (k_within x2 (nI 0) (nI 2)), .ref 54]) (M2 := mrow (mrow M 54 r4) 55 r5) (Ps := []) (by decide +kernel) rfl rfl trivial ?_
    obtain ⟨k12, hk⟩ := hk
    rcases g13 : k_may_1 r4 r5 (k_within x2 (nI 0) (nI 2)) (nI 2) with ⟨v14, r15, r16⟩
    try simp only [g13] at hk
    have ev14 : v14 = 0 ∨ v14 = 1 := by
      have q9 := k_may_1_01 r4 r5 (k_within x2 (nI 0) (nI 2)) (nI 2)
      rw [g13] at q9
      exact q9
    have t17 : GM z mX12_may (d + 1) [.ref 54, .int (k_within x2 (nI 0) (nI 2)), .int (nI 2), .int (nI 1)] (mrow (mrow M 54 r4) 55 r5) (fun rs => rs = .inl (some (.int v14), mrow (mrow M 54 r15) 55 r16)) := by
      have q9 := c_k_may_1_54 z (d + 1) (mrow (mrow M 54 r4) 55 r5) (k_within x2 (nI 0) (nI 2)) (nI 2)
      try simp only [mput, mrow_same, mrow_hit, mrow_miss, mrow_sw, idr_eq, ne_eq, Nat.reduceEqDiff, not_false_eq_true, Nat.reduceLT, reduceCtorEq, g13] at q9
      exact q9
    refine G.callV (as := [.int (k_within x2 (nI 0) (nI 2)), .int (nI 2), .int (nI 1)]) (rest := []) (a := 54) oX12_may lk_EvenFindersModel_213 (by decide +kernel) rfl rfl ⟨rfl, rfl⟩ (Nat.le_of_ble_eq_true rfl) rfl ⟨Nat.le_of_ble_eq_true rfl, Nat.le_of_ble_eq_true rfl⟩ t17 (fun v9 N9 h18 => ?_) (fun E9 N9 h18 => by cases h18)
    cases h18
    show G z mX12_thing (d + 2) 0 0 26 [some (.ref 54), some (.int x1), some (.int x2)] [.int v14] (mrow (mrow M 54 r15) 55 r16) Q
    refine G.if_ne (off := (5)) (tgt := 31) (by decide +kernel) rfl (fun c19 => ?_) (fun c19 => ?_)
    · skip
      rw [if_neg c19] at hk
      refine G.sl [(.iload_n 2, 1, 2, 0, 0, 0)] [] (pc2 := 32) (ls2 := [some (.ref 54), some (.int x1), some (.int x2)]) (st2 := [.int x2]) (M2 := mrow (mrow M 54 r15) 55 r16) (Ps := []) (by decide +kernel) rfl rfl trivial ?_
      refine G.if_ne (off := (16)) (tgt := 48) (by decide +kernel) rfl (fun c20 => ?_) (fun c20 => ?_)
      · skip
        rw [if_neg c20] at hk
        refine G.sl [(.aload_n 0, 1, 0, 0, 0, 0), (.getfield 65, 3, 11, 40, 163, 0), (.iload_n 2, 1, 2, 0, 0, 0), (.iconst 1, 1, 0, 0, 0, nI 1)] [] (pc2 := 54) (ls2 := [some (.ref 54), some (.int x1), some (.int x2)]) (st2 := [.int (nI 1), .int x2, .ref 71]) (M2 := mrow (mrow M 54 r15) 55 r16) (Ps := []) (by decide +kernel) rfl rfl trivial ?_
        refine G.ic_ne (off := (7)) (tgt := 61) (by decide +kernel) rfl (fun c21 => ?_) (fun c21 => ?_)
        · skip
          rw [if_neg c21] at hk
          obtain ⟨k22, k23, hk⟩ := hk
          refine G.sl [(.bipush 10, 2, 0, 0, 0, nI 10), (.iload_n 1, 1, 1, 0, 0, 0), (.iadd, 1, 0, 0, 0, 0), (.iaload, 1, 0, 0, 0, 0)] [10 + (ix x1)] (pc2 := 66) (ls2 := [some (.ref 54), some (.int x1), some (.int x2)]) (st2 := [.int (M.1 71 (10 + (ix x1)))]) (M2 := mrow (mrow M 54 r15) 55 r16) (Ps := [((nI 10) + x1) = nI (10 + (ix x1)) ∧ (10 + (ix x1)) < 51]) (by decide +kernel) rfl rfl ⟨⟨(nAdd rfl (ixE k22)), k23⟩, trivial⟩ ?_
          exact G.reti (by decide +kernel) rfl rfl (Nat.le_of_ble_eq_true rfl) (Nat.le_of_ble_eq_true rfl) ((by rw [hQ]; simp only [k_thing, g2, if_neg c8, g13, if_neg c19, if_neg c20, if_neg c21, mrow_self]))
        · skip
          rw [if_pos c21] at hk
          obtain ⟨k24, k25, hk⟩ := hk
          refine G.sl [(.iconst 0, 1, 0, 0, 0, nI 0), (.goto 5, 3, 63, 0, 0, 0), (.iload_n 1, 1, 1, 0, 0, 0), (.iadd, 1, 0, 0, 0, 0), (.iaload, 1, 0, 0, 0, 0)] [0 + (ix x1)] (pc2 := 66) (ls2 := [some (.ref 54), some (.int x1), some (.int x2)]) (st2 := [.int (M.1 71 (0 + (ix x1)))]) (M2 := mrow (mrow M 54 r15) 55 r16) (Ps := [((nI 0) + x1) = nI (0 + (ix x1)) ∧ (0 + (ix x1)) < 51]) (by decide +kernel) rfl rfl ⟨⟨(nAdd rfl (ixE k24)), k25⟩, trivial⟩ ?_
          exact G.reti (by decide +kernel) rfl rfl (Nat.le_of_ble_eq_true rfl) (Nat.le_of_ble_eq_true rfl) ((by rw [hQ]; simp only [k_thing, g2, if_neg c8, g13, if_neg c19, if_neg c20, if_pos c21, mrow_self]))
      · skip
        rw [if_pos c20] at hk
        obtain ⟨k26, k27, hk⟩ := hk
        refine G.sl [(.aload_n 0, 1, 0, 0, 0, 0), (.getfield 35, 3, 11, 14, 137, 0), (.iconst 3, 1, 0, 0, 0, nI 3), (.iload_n 1, 1, 1, 0, 0, 0), (.imul, 1, 0, 0, 0, 0), (.iconst 2, 1, 0, 0, 0, nI 2), (.iadd, 1, 0, 0, 0, 0), (.iaload, 1, 0, 0, 0, 0), (.goto 21, 3, 66, 0, 0, 0)] [(3 * (ix x1)) + 2] (pc2 := 66) (ls2 := [some (.ref 54), some (.int x1), some (.int x2)]) (st2 := [.int (M.1 61 ((3 * (ix x1)) + 2))]) (M2 := mrow (mrow M 54 r15) 55 r16) (Ps := [(((nI 3) * x1) + (nI 2)) = nI ((3 * (ix x1)) + 2) ∧ ((3 * (ix x1)) + 2) < 30]) (by decide +kernel) rfl rfl ⟨⟨(nAdd (nMul rfl (ixE k26)) rfl), k27⟩, trivial⟩ ?_
        exact G.reti (by decide +kernel) rfl rfl (Nat.le_of_ble_eq_true rfl) (Nat.le_of_ble_eq_true rfl) ((by rw [hQ]; simp only [k_thing, g2, if_neg c8, g13, if_neg c19, if_pos c20, mrow_self]))
    · skip
      rw [if_pos c19] at hk
      refine G.sl [(.iconst 0, 1, 0, 0, 0, nI 0)] [] (pc2 := 30) (ls2 := [some (.ref 54), some (.int x1), some (.int x2)]) (st2 := [.int (nI 0)]) (M2 := mrow (mrow M 54 r15) 55 r16) (Ps := []) (by decide +kernel) rfl rfl trivial ?_
      exact G.reti (by decide +kernel) rfl rfl (Nat.le_of_ble_eq_true rfl) (Nat.le_of_ble_eq_true rfl) ((by rw [hQ]; simp only [k_thing, g2, if_neg c8, g13, if_pos c19, mrow_self]))
theorem k_isFinder_01 (Rmd Rrefused : Nat → Int32) (nf : Nat) (x1 : Int32) (x2 : Int32) : (k_isFinder Rmd Rrefused nf x1 x2).1 = 0 ∨ (k_isFinder Rmd Rrefused nf x1 x2).1 = 1 := by
  unfold k_isFinder
  repeat' split
  all_goals first | exact Or.inl rfl | exact Or.inr rfl | exact k_within_01 _ _ _ | (rename_i h9; have q9 := k_may_0_01 (Rmd) (Rrefused) (k_within x1 (nI 0) ((nI nf) - (nI 1))) x2; rw [h9] at q9; exact q9)
set_option maxHeartbeats 4000000 in
set_option maxRecDepth 3000 in
theorem c_k_isFinder_54 (z : Zp) (d : Nat) (M : Mem) (x1 : Int32) (x2 : Int32) (nf : Nat) (hnf : nf ≤ 6) (cf : M.1 54 23 = nI nf) : GM z mX12_isFinder (d + 1) [.ref 54, .int x1, .int x2] M (fun rs => rs = .inl (some (.int ((k_isFinder (M.1 54) (M.1 55) nf x1 x2).1)), mrow (mrow M 54 ((k_isFinder (M.1 54) (M.1 55) nf x1 x2).2.1)) 55 ((k_isFinder (M.1 54) (M.1 55) nf x1 x2).2.2))) := by
  refine GM.of oX12_isFinder.1 (Nat.le_of_ble_eq_true rfl) ?_
  show G z mX12_isFinder (d + 1) 0 0 0 [some (.ref 54), some (.int x1), some (.int x2)] [] M _
  obtain ⟨Q, hQ⟩ : ∃ Q : Rs → Prop, Q = (fun rs => rs = .inl (some (.int ((k_isFinder (M.1 54) (M.1 55) nf x1 x2).1)), mrow (mrow M 54 ((k_isFinder (M.1 54) (M.1 55) nf x1 x2).2.1)) 55 ((k_isFinder (M.1 54) (M.1 55) nf x1 x2).2.2))) := ⟨_, rfl⟩
  rw [← hQ]
  refine G.sl [(.aload_n 0, 1, 0, 0, 0, 0), (.iload_n 1, 1, 1, 0, 0, 0), (.iconst 0, 1, 0, 0, 0, nI 0), (.aload_n 0, 1, 0, 0, 0, 0), (.getfield 165, 3, 11, 23, 146, 0), (.iconst 1, 1, 0, 0, 0, nI 1), (.isub, 1, 0, 0, 0, 0)] [] (pc2 := 9) (ls2 := [some (.ref 54), some (.int x1), some (.int x2)]) (st2 := [.int ((M.1 54 23) - (nI 1)), .int (nI 0), .int x1, .ref 54]) (M2 := M) (Ps := []) (by decide +kernel) rfl rfl trivial ?_
  rw [cf]
  have t2 : GM z mX12_within (d) [.int x1, .int (nI 0), .int ((nI nf) - (nI 1))] M (fun rs => rs = .inl (some (.int (k_within x1 (nI 0) ((nI nf) - (nI 1)))), M)) := by
    have q9 := c_k_within z d M x1 (nI 0) ((nI nf) - (nI 1))
    try simp only [mput, mrow_same, mrow_hit, mrow_miss, mrow_sw, idr_eq, ne_eq, Nat.reduceEqDiff, not_false_eq_true, Nat.reduceLT, reduceCtorEq] at q9
    exact q9
  refine G.callS (as := [.int x1, .int (nI 0), .int ((nI nf) - (nI 1))]) (rest := [.ref 54]) oX12_within lk_EvenFindersModel_379 (by decide +kernel) rfl (Nat.le_of_ble_eq_true rfl) rfl ⟨Nat.le_of_ble_eq_true rfl, Nat.le_of_ble_eq_true rfl⟩ t2 (fun v9 N9 h3 => ?_) (fun E9 N9 h3 => by cases h3)
  cases h3
  show G z mX12_isFinder (d + 1) 0 0 12 [some (.ref 54), some (.int x1), some (.int x2)] [.int (k_within x1 (nI 0) ((nI nf) - (nI 1))), .ref 54] M Q
  refine G.sl [(.iload_n 2, 1, 2, 0, 0, 0), (.iconst 0, 1, 0, 0, 0, nI 0)] [] (pc2 := 14) (ls2 := [some (.ref 54), some (.int x1), some (.int x2)]) (st2 := [.int (nI 0), .int x2, .int (k_within x1 (nI 0) ((nI nf) - (nI 1))), .ref 54]) (M2 := M) (Ps := []) (by decide +kernel) rfl rfl trivial ?_
  rcases g5 : k_may_0 (M.1 54) (M.1 55) (k_within x1 (nI 0) ((nI nf) - (nI 1))) x2 with ⟨v6, r7, r8⟩
  have ev6 : v6 = 0 ∨ v6 = 1 := by
    have q9 := k_may_0_01 (M.1 54) (M.1 55) (k_within x1 (nI 0) ((nI nf) - (nI 1))) x2
    rw [g5] at q9
    exact q9
  have t9 : GM z mX12_may (d) [.ref 54, .int (k_within x1 (nI 0) ((nI nf) - (nI 1))), .int x2, .int (nI 0)] M (fun rs => rs = .inl (some (.int v6), mrow (mrow M 54 r7) 55 r8)) := by
    have q9 := c_k_may_0_54 z d M (k_within x1 (nI 0) ((nI nf) - (nI 1))) x2
    try simp only [mput, mrow_same, mrow_hit, mrow_miss, mrow_sw, idr_eq, ne_eq, Nat.reduceEqDiff, not_false_eq_true, Nat.reduceLT, reduceCtorEq, g5] at q9
    exact q9
  refine G.callV (as := [.int (k_within x1 (nI 0) ((nI nf) - (nI 1))), .int x2, .int (nI 0)]) (rest := []) (a := 54) oX12_may lk_EvenFindersModel_213 (by decide +kernel) rfl rfl ⟨rfl, rfl⟩ (Nat.le_of_ble_eq_true rfl) rfl ⟨Nat.le_of_ble_eq_true rfl, Nat.le_of_ble_eq_true rfl⟩ t9 (fun v9 N9 h10 => ?_) (fun E9 N9 h10 => by cases h10)
  cases h10
  show G z mX12_isFinder (d + 1) 0 0 17 [some (.ref 54), some (.int x1), some (.int x2)] [.int v6] (mrow (mrow M 54 r7) 55 r8) Q
  exact G.reti (by decide +kernel) rfl (nar01 ev6) (Nat.le_of_ble_eq_true rfl) (Nat.le_of_ble_eq_true rfl) ((by rw [hQ]; simp only [k_isFinder, g5, mrow_self]))
set_option maxHeartbeats 4000000 in
set_option maxRecDepth 3000 in
theorem lp_k_heldBy_54_4 (z : Zp) (d : Nat) (M : Mem) (Q : Rs → Prop) (x1 : Int32) (nt : Nat) (hnt : nt ≤ 10) (ct : M.1 54 22 = nI nt) (hX : G z mX12_heldBy (d) 0 0 41 [none, none, some (.int (k_heldBy_4 (M.1 72) x1 nt)), none] [] M Q) : G z mX12_heldBy (d) 0 0 4 [some (.ref 54), some (.int x1), some (.int (nI 0)), some (.int (nI 0))] [] M Q := by
  refine down (n := nt) (P := fun i3 => G z mX12_heldBy (d) 0 0 4 [some (.ref 54), some (.int x1), some (.int (k_heldBy_4 (M.1 72) x1 i3)), some (.int (nI i3))] [] M Q) ?_ ?_ 0 (Nat.zero_le _)
  · skip
    refine G.sl [(.iload_n 3, 1, 3, 0, 0, 0), (.aload_n 0, 1, 0, 0, 0, 0), (.getfield 162, 3, 11, 22, 145, 0)] [] (pc2 := 9) (ls2 := [some (.ref 54), some (.int x1), some (.int (k_heldBy_4 (M.1 72) x1 nt)), some (.int (nI nt))]) (st2 := [.int (M.1 54 22), .int (nI nt)]) (M2 := M) (Ps := []) (by decide +kernel) rfl rfl trivial ?_
    rw [ct]
    refine G.ic_ge (off := (32)) (tgt := 41) (by decide +kernel) rfl (fun _ => ?_) (fun h9 => absurd (nI_le (by omega) (by omega)) h9)
    refine G.loc (ls2 := [none, none, some (.int (k_heldBy_4 (M.1 72) x1 nt)), none]) (by simp [subL]) ?_
    exact hX
  · skip
    intro i3 hi ih
    show G z mX12_heldBy (d) 0 0 4 [some (.ref 54), some (.int x1), some (.int (k_heldBy_4 (M.1 72) x1 i3)), some (.int (nI i3))] [] M Q
    refine G.sl [(.iload_n 3, 1, 3, 0, 0, 0), (.aload_n 0, 1, 0, 0, 0, 0), (.getfield 162, 3, 11, 22, 145, 0)] [] (pc2 := 9) (ls2 := [some (.ref 54), some (.int x1), some (.int (k_heldBy_4 (M.1 72) x1 i3)), some (.int (nI i3))]) (st2 := [.int (M.1 54 22), .int (nI i3)]) (M2 := M) (Ps := []) (by decide +kernel) rfl rfl trivial ?_
    rw [ct]
    refine G.ic_ge (off := (32)) (tgt := 41) (by decide +kernel) rfl (fun h9 => absurd h9 (nI_ge (by omega) (by omega))) (fun _ => ?_)
    refine G.sl [(.iload_n 2, 1, 2, 0, 0, 0), (.aload_n 0, 1, 0, 0, 0, 0), (.getfield 68, 3, 11, 41, 164, 0), (.bipush 10, 2, 0, 0, 0, nI 10), (.iload_n 3, 1, 3, 0, 0, 0), (.iadd, 1, 0, 0, 0, 0), (.iaload, 1, 0, 0, 0, 0), (.iload_n 1, 1, 1, 0, 0, 0)] [10 + i3] (pc2 := 23) (ls2 := [some (.ref 54), some (.int x1), some (.int (k_heldBy_4 (M.1 72) x1 i3)), some (.int (nI i3))]) (st2 := [.int x1, .int (M.1 72 (10 + i3)), .int (k_heldBy_4 (M.1 72) x1 i3)]) (M2 := M) (Ps := [((nI 10) + (nI i3)) = nI (10 + i3) ∧ (10 + i3) < 51]) (by decide +kernel) rfl rfl ⟨⟨(nI_add _ _), (by omega)⟩, trivial⟩ ?_
    refine G.ic_ne (off := (9)) (tgt := 32) (by decide +kernel) rfl (fun c1 => ?_) (fun c1 => ?_)
    · skip
      refine G.sl [(.iconst 0, 1, 0, 0, 0, nI 0), (.ior, 1, 0, 0, 0, 0), (.istore_n 2, 1, 2, 0, 0, 0), (.iinc 3 1, 3, 3, 0, 0, nI 1), (.goto (-34), 3, 4, 0, 0, 0)] [] (pc2 := 4) (ls2 := [some (.ref 54), some (.int x1), some (.int ((k_heldBy_4 (M.1 72) x1 i3) ||| (nI 0))), some (.int ((nI i3) + nI 1))]) (st2 := []) (M2 := M) (Ps := []) (by decide +kernel) rfl rfl trivial ?_
      rw [nI_add i3 1]
      simp only [k_heldBy_4, if_neg c1] at ih
      exact ih
    · skip
      refine G.sl [(.iconst 1, 1, 0, 0, 0, nI 1), (.iload_n 3, 1, 3, 0, 0, 0), (.ishl, 1, 0, 0, 0, 0), (.goto 4, 3, 33, 0, 0, 0), (.ior, 1, 0, 0, 0, 0), (.istore_n 2, 1, 2, 0, 0, 0), (.iinc 3 1, 3, 3, 0, 0, nI 1), (.goto (-34), 3, 4, 0, 0, 0)] [] (pc2 := 4) (ls2 := [some (.ref 54), some (.int x1), some (.int ((k_heldBy_4 (M.1 72) x1 i3) ||| ((nI 1) <<< ((nI i3) &&& 31)))), some (.int ((nI i3) + nI 1))]) (st2 := []) (M2 := M) (Ps := []) (by decide +kernel) rfl rfl trivial ?_
      rw [nI_add i3 1]
      simp only [k_heldBy_4, if_pos c1] at ih
      exact ih
set_option maxHeartbeats 4000000 in
set_option maxRecDepth 3000 in
theorem c_k_heldBy_54 (z : Zp) (d : Nat) (M : Mem) (x1 : Int32) (nt : Nat) (hnt : nt ≤ 10) (ct : M.1 54 22 = nI nt) : GM z mX12_heldBy (d) [.ref 54, .int x1] M (fun rs => rs = .inl (some (.int (k_heldBy (M.1 72) nt x1)), M)) := by
  refine GM.of oX12_heldBy.1 (Nat.le_of_ble_eq_true rfl) ?_
  show G z mX12_heldBy (d) 0 0 0 [some (.ref 54), some (.int x1), none, none] [] M _
  obtain ⟨Q, hQ⟩ : ∃ Q : Rs → Prop, Q = (fun rs => rs = .inl (some (.int (k_heldBy (M.1 72) nt x1)), M)) := ⟨_, rfl⟩
  rw [← hQ]
  refine G.sl [(.iconst 0, 1, 0, 0, 0, nI 0), (.istore_n 2, 1, 2, 0, 0, 0), (.iconst 0, 1, 0, 0, 0, nI 0), (.istore_n 3, 1, 3, 0, 0, 0)] [] (pc2 := 4) (ls2 := [some (.ref 54), some (.int x1), some (.int (nI 0)), some (.int (nI 0))]) (st2 := []) (M2 := M) (Ps := []) (by decide +kernel) rfl rfl trivial ?_
  refine lp_k_heldBy_54_4 z d M Q x1 nt hnt ct ?_
  show G z mX12_heldBy (d) 0 0 41 [none, none, some (.int (k_heldBy_4 (M.1 72) x1 nt)), none] [] M Q
  refine G.sl [(.iload_n 2, 1, 2, 0, 0, 0)] [] (pc2 := 42) (ls2 := [none, none, some (.int (k_heldBy_4 (M.1 72) x1 nt)), none]) (st2 := [.int (k_heldBy_4 (M.1 72) x1 nt)]) (M2 := M) (Ps := []) (by decide +kernel) rfl rfl trivial ?_
  exact G.reti (by decide +kernel) rfl rfl (Nat.le_of_ble_eq_true rfl) (Nat.le_of_ble_eq_true rfl) ((by rw [hQ]; simp only [k_heldBy, mrow_self]))
set_option maxHeartbeats 4000000 in
set_option maxRecDepth 3000 in
theorem c_k_finder_54 (z : Zp) (d : Nat) (M : Mem) (x1 : Int32) (x2 : Int32) (nf : Nat) (hnf : nf ≤ 6) (cf : M.1 54 23 = nI nf) (hk : k_finder_ok (M.1 54) (M.1 55) (M.1 61) (M.1 71) (M.1 72) nf x1 x2) : GM z mX12_finder (d + 2) [.ref 54, .int x1, .int x2] M (fun rs => rs = .inl (some (.int ((k_finder (M.1 54) (M.1 55) (M.1 61) (M.1 71) (M.1 72) nf x1 x2).1)), mrow (mrow (mrow M 54 ((k_finder (M.1 54) (M.1 55) (M.1 61) (M.1 71) (M.1 72) nf x1 x2).2.1)) 55 ((k_finder (M.1 54) (M.1 55) (M.1 61) (M.1 71) (M.1 72) nf x1 x2).2.2.1)) 72 ((k_finder (M.1 54) (M.1 55) (M.1 61) (M.1 71) (M.1 72) nf x1 x2).2.2.2))) := by
  simp only [k_finder_ok] at hk
  refine GM.of oX12_finder.1 (Nat.le_of_ble_eq_true rfl) ?_
  show G z mX12_finder (d + 2) 0 0 0 [some (.ref 54), some (.int x1), some (.int x2)] [] M _
  obtain ⟨Q, hQ⟩ : ∃ Q : Rs → Prop, Q = (fun rs => rs = .inl (some (.int ((k_finder (M.1 54) (M.1 55) (M.1 61) (M.1 71) (M.1 72) nf x1 x2).1)), mrow (mrow (mrow M 54 ((k_finder (M.1 54) (M.1 55) (M.1 61) (M.1 71) (M.1 72) nf x1 x2).2.1)) 55 ((k_finder (M.1 54) (M.1 55) (M.1 61) (M.1 71) (M.1 72) nf x1 x2).2.2.1)) 72 ((k_finder (M.1 54) (M.1 55) (M.1 61) (M.1 71) (M.1 72) nf x1 x2).2.2.2))) := ⟨_, rfl⟩
  rw [← hQ]
  refine G.sl [(.aload_n 0, 1, 0, 0, 0, 0), (.iconst 0, 1, 0, 0, 0, nI 0), (.putfield 3, 3, 11, 0, 123, 0), (.aload_n 0, 1, 0, 0, 0, 0), (.iload_n 1, 1, 1, 0, 0, 0), (.iconst 1, 1, 0, 0, 0, nI 1)] [] (pc2 := 8) (ls2 := [some (.ref 54), some (.int x1), some (.int x2)]) (st2 := [.int (nI 1), .int x1, .ref 54]) (M2 := mput M 54 0 (nI 0)) (Ps := []) (by decide +kernel) rfl rfl trivial ?_
  refine G.mem (M' := mrow M 54 (upd (M.1 54) 0 (nI 0))) (by first | rfl | (simp only [mput, mrow_same, mrow_hit, mrow_miss, mrow_sw, idr_eq, ne_eq, Nat.reduceEqDiff, not_false_eq_true, Nat.reduceLT, reduceCtorEq]; done)) ?_
  obtain ⟨k1, hk⟩ := hk
  rcases g2 : k_isFinder (upd (M.1 54) 0 (nI 0)) (M.1 55) nf x1 (nI 1) with ⟨v3, r4, r5⟩
  try simp only [g2] at hk
  have ev3 : v3 = 0 ∨ v3 = 1 := by
    have q9 := k_isFinder_01 (upd (M.1 54) 0 (nI 0)) (M.1 55) nf x1 (nI 1)
    rw [g2] at q9
    exact q9
  have t6 : GM z mX12_isFinder (d + 1) [.ref 54, .int x1, .int (nI 1)] (mrow M 54 (upd (M.1 54) 0 (nI 0))) (fun rs => rs = .inl (some (.int v3), mrow (mrow M 54 r4) 55 r5)) := by
    have q9 := c_k_isFinder_54 z d (mrow M 54 (upd (M.1 54) 0 (nI 0))) x1 (nI 1) nf hnf cf
    try simp only [mput, mrow_same, mrow_hit, mrow_miss, mrow_sw, idr_eq, ne_eq, Nat.reduceEqDiff, not_false_eq_true, Nat.reduceLT, reduceCtorEq, g2] at q9
    exact q9
  refine G.callV (as := [.int x1, .int (nI 1)]) (rest := []) (a := 54) oX12_isFinder lk_EvenFindersModel_400 (by decide +kernel) rfl rfl ⟨rfl, rfl⟩ (Nat.le_of_ble_eq_true rfl) rfl ⟨Nat.le_of_ble_eq_true rfl, Nat.le_of_ble_eq_true rfl⟩ t6 (fun v9 N9 h7 => ?_) (fun E9 N9 h7 => by cases h7)
  cases h7
  show G z mX12_finder (d + 2) 0 0 11 [some (.ref 54), some (.int x1), some (.int x2)] [.int v3] (mrow (mrow M 54 r4) 55 r5) Q
  refine G.if_eq (off := (19)) (tgt := 30) (by decide +kernel) rfl (fun c8 => ?_) (fun c8 => ?_)
  · skip
    rw [if_pos c8] at hk
    refine G.sl [(.iconst 0, 1, 0, 0, 0, nI 0)] [] (pc2 := 31) (ls2 := [some (.ref 54), some (.int x1), some (.int x2)]) (st2 := [.int (nI 0)]) (M2 := mrow (mrow M 54 r4) 55 r5) (Ps := []) (by decide +kernel) rfl rfl trivial ?_
    refine G.mem (M' := mrow (mrow (mrow M 54 r4) 55 r5) 72 (M.1 72)) (((mrow_id (N := mrow (mrow M 54 r4) 55 r5) (c := 72) (f := M.1 72) (by first | rfl | (simp only [mput, mrow_same, mrow_hit, mrow_miss, mrow_sw, idr_eq, ne_eq, Nat.reduceEqDiff, not_false_eq_true, Nat.reduceLT, reduceCtorEq]; done))).symm).trans (by first | rfl | (simp only [mput, mrow_same, mrow_hit, mrow_miss, mrow_sw, idr_eq, ne_eq, Nat.reduceEqDiff, not_false_eq_true, Nat.reduceLT, reduceCtorEq]; done))) ?_
    exact G.reti (by decide +kernel) rfl rfl (Nat.le_of_ble_eq_true rfl) (Nat.le_of_ble_eq_true rfl) ((by rw [hQ]; simp only [k_finder, g2, if_pos c8, mrow_self]))
  · skip
    rw [if_neg c8] at hk
    refine G.sl [(.aload_n 0, 1, 0, 0, 0, 0), (.iload_n 2, 1, 2, 0, 0, 0), (.iconst 0, 1, 0, 0, 0, nI 0), (.bipush 6, 2, 0, 0, 0, nI 6)] [] (pc2 := 19) (ls2 := [some (.ref 54), some (.int x1), some (.int x2)]) (st2 := [.int (nI 6), .int (nI 0), .int x2, .ref 54]) (M2 := mrow (mrow M 54 r4) 55 r5) (Ps := []) (by decide +kernel) rfl rfl trivial ?_
    obtain ⟨k9, hk⟩ := hk
    have t10 : GM z mX12_within (d + 1) [.int x2, .int (nI 0), .int (nI 6)] (mrow (mrow M 54 r4) 55 r5) (fun rs => rs = .inl (some (.int (k_within x2 (nI 0) (nI 6))), mrow (mrow M 54 r4) 55 r5)) := by
      have q9 := c_k_within z (d + 1) (mrow (mrow M 54 r4) 55 r5) x2 (nI 0) (nI 6)
      try simp only [mput, mrow_same, mrow_hit, mrow_miss, mrow_sw, idr_eq, ne_eq, Nat.reduceEqDiff, not_false_eq_true, Nat.reduceLT, reduceCtorEq] at q9
      exact q9
    refine G.callS (as := [.int x2, .int (nI 0), .int (nI 6)]) (rest := [.ref 54]) oX12_within lk_EvenFindersModel_379 (by decide +kernel) rfl (Nat.le_of_ble_eq_true rfl) rfl ⟨Nat.le_of_ble_eq_true rfl, Nat.le_of_ble_eq_true rfl⟩ t10 (fun v9 N9 h11 => ?_) (fun E9 N9 h11 => by cases h11)
    cases h11
    show G z mX12_finder (d + 2) 0 0 22 [some (.ref 54), some (.int x1), some (.int x2)] [.int (k_within x2 (nI 0) (nI 6)), .ref 54] (mrow (mrow M 54 r4) 55 r5) Q
    refine G.sl [(.iconst 2, 1, 0, 0, 0, nI 2), (.iconst 1, 1, 0, 0, 0, nI 1)] [] (pc2 := 24) (ls2 := [some (.ref 54), some (.int x1), some (.int x2)]) (st2 := [.int (nI 1), .int (nI 2), .int (k_within x2 (nI 0) (nI 6)), .ref 54]) (M2 := mrow (mrow M 54 r4) 55 r5) (Ps := []) (by decide +kernel) rfl rfl trivial ?_
    obtain ⟨k12, hk⟩ := hk
    rcases g13 : k_may_1 r4 r5 (k_within x2 (nI 0) (nI 6)) (nI 2) with ⟨v14, r15, r16⟩
    try simp only [g13] at hk
    have ev14 : v14 = 0 ∨ v14 = 1 := by
      have q9 := k_may_1_01 r4 r5 (k_within x2 (nI 0) (nI 6)) (nI 2)
      rw [g13] at q9
      exact q9
    have t17 : GM z mX12_may (d + 1) [.ref 54, .int (k_within x2 (nI 0) (nI 6)), .int (nI 2), .int (nI 1)] (mrow (mrow M 54 r4) 55 r5) (fun rs => rs = .inl (some (.int v14), mrow (mrow M 54 r15) 55 r16)) := by
      have q9 := c_k_may_1_54 z (d + 1) (mrow (mrow M 54 r4) 55 r5) (k_within x2 (nI 0) (nI 6)) (nI 2)
      try simp only [mput, mrow_same, mrow_hit, mrow_miss, mrow_sw, idr_eq, ne_eq, Nat.reduceEqDiff, not_false_eq_true, Nat.reduceLT, reduceCtorEq, g13] at q9
      exact q9
    refine G.callV (as := [.int (k_within x2 (nI 0) (nI 6)), .int (nI 2), .int (nI 1)]) (rest := []) (a := 54) oX12_may lk_EvenFindersModel_213 (by decide +kernel) rfl rfl ⟨rfl, rfl⟩ (Nat.le_of_ble_eq_true rfl) rfl ⟨Nat.le_of_ble_eq_true rfl, Nat.le_of_ble_eq_true rfl⟩ t17 (fun v9 N9 h18 => ?_) (fun E9 N9 h18 => by cases h18)
    cases h18
    show G z mX12_finder (d + 2) 0 0 27 [some (.ref 54), some (.int x1), some (.int x2)] [.int v14] (mrow (mrow M 54 r15) 55 r16) Q
    refine G.if_ne (off := (5)) (tgt := 32) (by decide +kernel) rfl (fun c19 => ?_) (fun c19 => ?_)
    · skip
      rw [if_neg c19] at hk
      refine G.sl [(.aload_n 0, 1, 0, 0, 0, 0)] [] (pc2 := 33) (ls2 := [some (.ref 54), some (.int x1), some (.int x2)]) (st2 := [.ref 54]) (M2 := mrow (mrow M 54 r15) 55 r16) (Ps := []) (by decide +kernel) rfl rfl trivial ?_
      obtain ⟨k20, hk⟩ := hk
      rcases g21 : k_take (M.1 71) (M.1 72) with ⟨u22, r23⟩
      try simp only [g21] at hk
      have t24 : GM z mX12_take (d + 1) [.ref 54] (mrow (mrow M 54 r15) 55 r16) (fun rs => rs = .inl (none, mrow (mrow (mrow M 54 r15) 55 r16) 72 r23)) := by
        have q9 := c_k_take_54 z d (mrow (mrow M 54 r15) 55 r16) k20
        try simp only [mput, mrow_same, mrow_hit, mrow_miss, mrow_sw, idr_eq, ne_eq, Nat.reduceEqDiff, not_false_eq_true, Nat.reduceLT, reduceCtorEq, g21] at q9
        exact q9
      refine G.callV (as := []) (rest := []) (a := 54) oX12_take lk_EvenFindersModel_320 (by decide +kernel) rfl rfl ⟨rfl, rfl⟩ (Nat.le_of_ble_eq_true rfl) rfl ⟨Nat.le_of_ble_eq_true rfl, Nat.le_of_ble_eq_true rfl⟩ t24 (fun v9 N9 h25 => ?_) (fun E9 N9 h25 => by cases h25)
      cases h25
      show G z mX12_finder (d + 2) 0 0 36 [some (.ref 54), some (.int x1), some (.int x2)] [] (mrow (mrow (mrow M 54 r15) 55 r16) 72 r23) Q
      refine G.sl [(.iload_n 2, 1, 2, 0, 0, 0), (.iconst 2, 1, 0, 0, 0, nI 2)] [] (pc2 := 38) (ls2 := [some (.ref 54), some (.int x1), some (.int x2)]) (st2 := [.int (nI 2), .int x2]) (M2 := mrow (mrow (mrow M 54 r15) 55 r16) 72 r23) (Ps := []) (by decide +kernel) rfl rfl trivial ?_
      refine G.ic_eq (off := (8)) (tgt := 46) (by decide +kernel) rfl (fun c26 => ?_) (fun c26 => ?_)
      · skip
        rw [if_pos c26] at hk
        refine G.sl [(.iload_n 2, 1, 2, 0, 0, 0), (.iconst 2, 1, 0, 0, 0, nI 2)] [] (pc2 := 48) (ls2 := [some (.ref 54), some (.int x1), some (.int x2)]) (st2 := [.int (nI 2), .int x2]) (M2 := mrow (mrow (mrow M 54 r15) 55 r16) 72 r23) (Ps := []) (by decide +kernel) rfl rfl trivial ?_
        refine G.ic_ne (off := (11)) (tgt := 59) (by decide +kernel) rfl (fun h9 => absurd c26 h9) (fun _ => ?_)
        refine G.sl [(.aload_n 0, 1, 0, 0, 0, 0), (.iload_n 1, 1, 1, 0, 0, 0)] [] (pc2 := 53) (ls2 := [some (.ref 54), some (.int x1), some (.int x2)]) (st2 := [.int x1, .ref 54]) (M2 := mrow (mrow (mrow M 54 r15) 55 r16) 72 r23) (Ps := []) (by decide +kernel) rfl rfl trivial ?_
        obtain ⟨k27, k28, hk⟩ := hk
        have t30 : GM z mX12_heldBy (d + 1) [.ref 54, .int x1] (mrow (mrow (mrow M 54 r15) 55 r16) 72 r23) (fun rs => rs = .inl (some (.int (k_heldBy r23 (ix (r15 22)) x1)), mrow (mrow (mrow M 54 r15) 55 r16) 72 r23)) := by
          have q9 := c_k_heldBy_54 z (d + 1) (mrow (mrow (mrow M 54 r15) 55 r16) 72 r23) x1 (ix (r15 22)) k28 (ixE k27)
          try simp only [mput, mrow_same, mrow_hit, mrow_miss, mrow_sw, idr_eq, ne_eq, Nat.reduceEqDiff, not_false_eq_true, Nat.reduceLT, reduceCtorEq] at q9
          exact q9
        refine G.callV (as := [.int x1]) (rest := []) (a := 54) oX12_heldBy lk_EvenFindersModel_342 (by decide +kernel) rfl rfl ⟨rfl, rfl⟩ (Nat.le_of_ble_eq_true rfl) rfl ⟨Nat.le_of_ble_eq_true rfl, Nat.le_of_ble_eq_true rfl⟩ t30 (fun v9 N9 h31 => ?_) (fun E9 N9 h31 => by cases h31)
        cases h31
        show G z mX12_finder (d + 2) 0 0 56 [some (.ref 54), some (.int x1), some (.int x2)] [.int (k_heldBy r23 (ix (r15 22)) x1)] (mrow (mrow (mrow M 54 r15) 55 r16) 72 r23) Q
        refine G.sl [(.goto 12, 3, 68, 0, 0, 0)] [] (pc2 := 68) (ls2 := [some (.ref 54), some (.int x1), some (.int x2)]) (st2 := [.int (k_heldBy r23 (ix (r15 22)) x1)]) (M2 := mrow (mrow (mrow M 54 r15) 55 r16) 72 r23) (Ps := []) (by decide +kernel) rfl rfl trivial ?_
        exact G.reti (by decide +kernel) rfl rfl (Nat.le_of_ble_eq_true rfl) (Nat.le_of_ble_eq_true rfl) ((by rw [hQ]; simp only [k_finder, g2, if_neg c8, g13, if_neg c19, g21, if_pos c26, mrow_self]))
      · skip
        rw [if_neg c26] at hk
        refine G.sl [(.iload_n 2, 1, 2, 0, 0, 0), (.iconst 3, 1, 0, 0, 0, nI 3)] [] (pc2 := 43) (ls2 := [some (.ref 54), some (.int x1), some (.int x2)]) (st2 := [.int (nI 3), .int x2]) (M2 := mrow (mrow (mrow M 54 r15) 55 r16) 72 r23) (Ps := []) (by decide +kernel) rfl rfl trivial ?_
        refine G.ic_ne (off := (26)) (tgt := 69) (by decide +kernel) rfl (fun c32 => ?_) (fun c32 => ?_)
        · skip
          rw [if_neg c32] at hk
          refine G.sl [(.aload_n 0, 1, 0, 0, 0, 0), (.getfield 68, 3, 11, 41, 164, 0), (.iload_n 2, 1, 2, 0, 0, 0)] [] (pc2 := 74) (ls2 := [some (.ref 54), some (.int x1), some (.int x2)]) (st2 := [.int x2, .ref 72]) (M2 := mrow (mrow (mrow M 54 r15) 55 r16) 72 r23) (Ps := []) (by decide +kernel) rfl rfl trivial ?_
          refine G.if_ne (off := (8)) (tgt := 82) (by decide +kernel) rfl (fun c33 => ?_) (fun c33 => ?_)
          · skip
            rw [if_neg c33] at hk
            refine G.sl [(.iload_n 2, 1, 2, 0, 0, 0), (.iconst 1, 1, 0, 0, 0, nI 1)] [] (pc2 := 84) (ls2 := [some (.ref 54), some (.int x1), some (.int x2)]) (st2 := [.int (nI 1), .int x2, .ref 72]) (M2 := mrow (mrow (mrow M 54 r15) 55 r16) 72 r23) (Ps := []) (by decide +kernel) rfl rfl trivial ?_
            refine G.ic_ne (off := (8)) (tgt := 92) (by decide +kernel) rfl (fun c34 => ?_) (fun c34 => ?_)
            · skip
              rw [if_neg c34] at hk
              refine G.sl [(.iload_n 2, 1, 2, 0, 0, 0), (.iconst 4, 1, 0, 0, 0, nI 4)] [] (pc2 := 94) (ls2 := [some (.ref 54), some (.int x1), some (.int x2)]) (st2 := [.int (nI 4), .int x2, .ref 72]) (M2 := mrow (mrow (mrow M 54 r15) 55 r16) 72 r23) (Ps := []) (by decide +kernel) rfl rfl trivial ?_
              refine G.ic_ne (off := (8)) (tgt := 102) (by decide +kernel) rfl (fun c35 => ?_) (fun c35 => ?_)
              · skip
                rw [if_neg c35] at hk
                refine G.sl [(.iload_n 2, 1, 2, 0, 0, 0), (.iconst 5, 1, 0, 0, 0, nI 5)] [] (pc2 := 104) (ls2 := [some (.ref 54), some (.int x1), some (.int x2)]) (st2 := [.int (nI 5), .int x2, .ref 72]) (M2 := mrow (mrow (mrow M 54 r15) 55 r16) 72 r23) (Ps := []) (by decide +kernel) rfl rfl trivial ?_
                refine G.ic_ne (off := (8)) (tgt := 112) (by decide +kernel) rfl (fun c36 => ?_) (fun c36 => ?_)
                · skip
                  rw [if_neg c36] at hk
                  obtain ⟨k37, k38, hk⟩ := hk
                  refine G.sl [(.bipush 44, 2, 0, 0, 0, nI 44), (.iload_n 1, 1, 1, 0, 0, 0), (.iadd, 1, 0, 0, 0, 0), (.iaload, 1, 0, 0, 0, 0)] [44 + (ix x1)] (pc2 := 117) (ls2 := [some (.ref 54), some (.int x1), some (.int x2)]) (st2 := [.int (r23 (44 + (ix x1)))]) (M2 := mrow (mrow (mrow M 54 r15) 55 r16) 72 r23) (Ps := [((nI 44) + x1) = nI (44 + (ix x1)) ∧ (44 + (ix x1)) < 51]) (by decide +kernel) rfl rfl ⟨⟨(nAdd rfl (ixE k37)), k38⟩, trivial⟩ ?_
                  exact G.reti (by decide +kernel) rfl rfl (Nat.le_of_ble_eq_true rfl) (Nat.le_of_ble_eq_true rfl) ((by rw [hQ]; simp only [k_finder, g2, if_neg c8, g13, if_neg c19, g21, if_neg c26, if_neg c32, if_neg c33, if_neg c34, if_neg c35, if_neg c36, mrow_self]))
                · skip
                  rw [if_pos c36] at hk
                  obtain ⟨k39, k40, hk⟩ := hk
                  refine G.sl [(.bipush 38, 2, 0, 0, 0, nI 38), (.goto 5, 3, 114, 0, 0, 0), (.iload_n 1, 1, 1, 0, 0, 0), (.iadd, 1, 0, 0, 0, 0), (.iaload, 1, 0, 0, 0, 0)] [38 + (ix x1)] (pc2 := 117) (ls2 := [some (.ref 54), some (.int x1), some (.int x2)]) (st2 := [.int (r23 (38 + (ix x1)))]) (M2 := mrow (mrow (mrow M 54 r15) 55 r16) 72 r23) (Ps := [((nI 38) + x1) = nI (38 + (ix x1)) ∧ (38 + (ix x1)) < 51]) (by decide +kernel) rfl rfl ⟨⟨(nAdd rfl (ixE k39)), k40⟩, trivial⟩ ?_
                  exact G.reti (by decide +kernel) rfl rfl (Nat.le_of_ble_eq_true rfl) (Nat.le_of_ble_eq_true rfl) ((by rw [hQ]; simp only [k_finder, g2, if_neg c8, g13, if_neg c19, g21, if_neg c26, if_neg c32, if_neg c33, if_neg c34, if_neg c35, if_pos c36, mrow_self]))
              · skip
                rw [if_pos c35] at hk
                obtain ⟨k41, k42, hk⟩ := hk
                refine G.sl [(.bipush 32, 2, 0, 0, 0, nI 32), (.goto 15, 3, 114, 0, 0, 0), (.iload_n 1, 1, 1, 0, 0, 0), (.iadd, 1, 0, 0, 0, 0), (.iaload, 1, 0, 0, 0, 0)] [32 + (ix x1)] (pc2 := 117) (ls2 := [some (.ref 54), some (.int x1), some (.int x2)]) (st2 := [.int (r23 (32 + (ix x1)))]) (M2 := mrow (mrow (mrow M 54 r15) 55 r16) 72 r23) (Ps := [((nI 32) + x1) = nI (32 + (ix x1)) ∧ (32 + (ix x1)) < 51]) (by decide +kernel) rfl rfl ⟨⟨(nAdd rfl (ixE k41)), k42⟩, trivial⟩ ?_
                exact G.reti (by decide +kernel) rfl rfl (Nat.le_of_ble_eq_true rfl) (Nat.le_of_ble_eq_true rfl) ((by rw [hQ]; simp only [k_finder, g2, if_neg c8, g13, if_neg c19, g21, if_neg c26, if_neg c32, if_neg c33, if_neg c34, if_pos c35, mrow_self]))
            · skip
              rw [if_pos c34] at hk
              obtain ⟨k43, k44, hk⟩ := hk
              refine G.sl [(.bipush 26, 2, 0, 0, 0, nI 26), (.goto 25, 3, 114, 0, 0, 0), (.iload_n 1, 1, 1, 0, 0, 0), (.iadd, 1, 0, 0, 0, 0), (.iaload, 1, 0, 0, 0, 0)] [26 + (ix x1)] (pc2 := 117) (ls2 := [some (.ref 54), some (.int x1), some (.int x2)]) (st2 := [.int (r23 (26 + (ix x1)))]) (M2 := mrow (mrow (mrow M 54 r15) 55 r16) 72 r23) (Ps := [((nI 26) + x1) = nI (26 + (ix x1)) ∧ (26 + (ix x1)) < 51]) (by decide +kernel) rfl rfl ⟨⟨(nAdd rfl (ixE k43)), k44⟩, trivial⟩ ?_
              exact G.reti (by decide +kernel) rfl rfl (Nat.le_of_ble_eq_true rfl) (Nat.le_of_ble_eq_true rfl) ((by rw [hQ]; simp only [k_finder, g2, if_neg c8, g13, if_neg c19, g21, if_neg c26, if_neg c32, if_neg c33, if_pos c34, mrow_self]))
          · skip
            rw [if_pos c33] at hk
            obtain ⟨k45, k46, hk⟩ := hk
            refine G.sl [(.bipush 20, 2, 0, 0, 0, nI 20), (.goto 35, 3, 114, 0, 0, 0), (.iload_n 1, 1, 1, 0, 0, 0), (.iadd, 1, 0, 0, 0, 0), (.iaload, 1, 0, 0, 0, 0)] [20 + (ix x1)] (pc2 := 117) (ls2 := [some (.ref 54), some (.int x1), some (.int x2)]) (st2 := [.int (r23 (20 + (ix x1)))]) (M2 := mrow (mrow (mrow M 54 r15) 55 r16) 72 r23) (Ps := [((nI 20) + x1) = nI (20 + (ix x1)) ∧ (20 + (ix x1)) < 51]) (by decide +kernel) rfl rfl ⟨⟨(nAdd rfl (ixE k45)), k46⟩, trivial⟩ ?_
            exact G.reti (by decide +kernel) rfl rfl (Nat.le_of_ble_eq_true rfl) (Nat.le_of_ble_eq_true rfl) ((by rw [hQ]; simp only [k_finder, g2, if_neg c8, g13, if_neg c19, g21, if_neg c26, if_neg c32, if_pos c33, mrow_self]))
        · skip
          rw [if_pos c32] at hk
          refine G.sl [(.iload_n 2, 1, 2, 0, 0, 0), (.iconst 2, 1, 0, 0, 0, nI 2)] [] (pc2 := 48) (ls2 := [some (.ref 54), some (.int x1), some (.int x2)]) (st2 := [.int (nI 2), .int x2]) (M2 := mrow (mrow (mrow M 54 r15) 55 r16) 72 r23) (Ps := []) (by decide +kernel) rfl rfl trivial ?_
          refine G.ic_ne (off := (11)) (tgt := 59) (by decide +kernel) rfl (fun _ => ?_) (fun h9 => absurd h9 c26)
          refine G.sl [(.aload_n 0, 1, 0, 0, 0, 0), (.aload_n 0, 1, 0, 0, 0, 0), (.iload_n 1, 1, 1, 0, 0, 0)] [] (pc2 := 62) (ls2 := [some (.ref 54), some (.int x1), some (.int x2)]) (st2 := [.int x1, .ref 54, .ref 54]) (M2 := mrow (mrow (mrow M 54 r15) 55 r16) 72 r23) (Ps := []) (by decide +kernel) rfl rfl trivial ?_
          obtain ⟨k47, k48, hk⟩ := hk
          have t50 : GM z mX12_heldBy (d + 1) [.ref 54, .int x1] (mrow (mrow (mrow M 54 r15) 55 r16) 72 r23) (fun rs => rs = .inl (some (.int (k_heldBy r23 (ix (r15 22)) x1)), mrow (mrow (mrow M 54 r15) 55 r16) 72 r23)) := by
            have q9 := c_k_heldBy_54 z (d + 1) (mrow (mrow (mrow M 54 r15) 55 r16) 72 r23) x1 (ix (r15 22)) k48 (ixE k47)
            try simp only [mput, mrow_same, mrow_hit, mrow_miss, mrow_sw, idr_eq, ne_eq, Nat.reduceEqDiff, not_false_eq_true, Nat.reduceLT, reduceCtorEq] at q9
            exact q9
          refine G.callV (as := [.int x1]) (rest := [.ref 54]) (a := 54) oX12_heldBy lk_EvenFindersModel_342 (by decide +kernel) rfl rfl ⟨rfl, rfl⟩ (Nat.le_of_ble_eq_true rfl) rfl ⟨Nat.le_of_ble_eq_true rfl, Nat.le_of_ble_eq_true rfl⟩ t50 (fun v9 N9 h51 => ?_) (fun E9 N9 h51 => by cases h51)
          cases h51
          show G z mX12_finder (d + 2) 0 0 65 [some (.ref 54), some (.int x1), some (.int x2)] [.int (k_heldBy r23 (ix (r15 22)) x1), .ref 54] (mrow (mrow (mrow M 54 r15) 55 r16) 72 r23) Q
          have t53 : GM z mX12_worthOf (d + 1) [.ref 54, .int (k_heldBy r23 (ix (r15 22)) x1)] (mrow (mrow (mrow M 54 r15) 55 r16) 72 r23) (fun rs => rs = .inl (some (.int (k_worthOf (M.1 61) (ix (r15 22)) (k_heldBy r23 (ix (r15 22)) x1))), mrow (mrow (mrow M 54 r15) 55 r16) 72 r23)) := by
            have q9 := c_k_worthOf_54 z (d + 1) (mrow (mrow (mrow M 54 r15) 55 r16) 72 r23) (k_heldBy r23 (ix (r15 22)) x1) (ix (r15 22)) (by omega) (ixE k47)
            try simp only [mput, mrow_same, mrow_hit, mrow_miss, mrow_sw, idr_eq, ne_eq, Nat.reduceEqDiff, not_false_eq_true, Nat.reduceLT, reduceCtorEq] at q9
            exact q9
          refine G.callV (as := [.int (k_heldBy r23 (ix (r15 22)) x1)]) (rest := []) (a := 54) oX12_worthOf lk_EvenFindersModel_388 (by decide +kernel) rfl rfl ⟨rfl, rfl⟩ (Nat.le_of_ble_eq_true rfl) rfl ⟨Nat.le_of_ble_eq_true rfl, Nat.le_of_ble_eq_true rfl⟩ t53 (fun v9 N9 h54 => ?_) (fun E9 N9 h54 => by cases h54)
          cases h54
          show G z mX12_finder (d + 2) 0 0 68 [some (.ref 54), some (.int x1), some (.int x2)] [.int (k_worthOf (M.1 61) (ix (r15 22)) (k_heldBy r23 (ix (r15 22)) x1))] (mrow (mrow (mrow M 54 r15) 55 r16) 72 r23) Q
          exact G.reti (by decide +kernel) rfl rfl (Nat.le_of_ble_eq_true rfl) (Nat.le_of_ble_eq_true rfl) ((by rw [hQ]; simp only [k_finder, g2, if_neg c8, g13, if_neg c19, g21, if_neg c26, if_pos c32, mrow_self]))
    · skip
      rw [if_pos c19] at hk
      refine G.sl [(.iconst 0, 1, 0, 0, 0, nI 0)] [] (pc2 := 31) (ls2 := [some (.ref 54), some (.int x1), some (.int x2)]) (st2 := [.int (nI 0)]) (M2 := mrow (mrow M 54 r15) 55 r16) (Ps := []) (by decide +kernel) rfl rfl trivial ?_
      refine G.mem (M' := mrow (mrow (mrow M 54 r15) 55 r16) 72 (M.1 72)) (((mrow_id (N := mrow (mrow M 54 r15) 55 r16) (c := 72) (f := M.1 72) (by first | rfl | (simp only [mput, mrow_same, mrow_hit, mrow_miss, mrow_sw, idr_eq, ne_eq, Nat.reduceEqDiff, not_false_eq_true, Nat.reduceLT, reduceCtorEq]; done))).symm).trans (by first | rfl | (simp only [mput, mrow_same, mrow_hit, mrow_miss, mrow_sw, idr_eq, ne_eq, Nat.reduceEqDiff, not_false_eq_true, Nat.reduceLT, reduceCtorEq]; done))) ?_
      exact G.reti (by decide +kernel) rfl rfl (Nat.le_of_ble_eq_true rfl) (Nat.le_of_ble_eq_true rfl) ((by rw [hQ]; simp only [k_finder, g2, if_neg c8, g13, if_pos c19, mrow_self]))
set_option maxHeartbeats 4000000 in
set_option maxRecDepth 3000 in
theorem lp_k_ones_4 (z : Zp) (d : Nat) (M : Mem) (Q : Rs → Prop) (nn : Nat) (x0 : Int32) (hnn : nn = 10) (hX : G z mX12_ones (d) 0 0 24 [none, some (.int (k_ones_4 x0 nn)), none] [] M Q) : G z mX12_ones (d) 0 0 4 [some (.int x0), some (.int (nI 0)), some (.int (nI 0))] [] M Q := by
  refine down (n := nn) (P := fun i2 => G z mX12_ones (d) 0 0 4 [some (.int x0), some (.int (k_ones_4 x0 i2)), some (.int (nI i2))] [] M Q) ?_ ?_ 0 (Nat.zero_le _)
  · skip
    refine G.sl [(.iload_n 2, 1, 2, 0, 0, 0), (.bipush 10, 2, 0, 0, 0, nI 10)] [] (pc2 := 7) (ls2 := [some (.int x0), some (.int (k_ones_4 x0 nn)), some (.int (nI nn))]) (st2 := [.int (nI 10), .int (nI nn)]) (M2 := M) (Ps := []) (by decide +kernel) rfl rfl trivial ?_
    refine G.ic_ge (off := (17)) (tgt := 24) (by decide +kernel) rfl (fun _ => ?_) (fun h9 => absurd (nI_le (by omega) (by omega)) h9)
    refine G.loc (ls2 := [none, some (.int (k_ones_4 x0 nn)), none]) (by simp [subL]) ?_
    exact hX
  · skip
    intro i2 hi ih
    show G z mX12_ones (d) 0 0 4 [some (.int x0), some (.int (k_ones_4 x0 i2)), some (.int (nI i2))] [] M Q
    refine G.sl [(.iload_n 2, 1, 2, 0, 0, 0), (.bipush 10, 2, 0, 0, 0, nI 10)] [] (pc2 := 7) (ls2 := [some (.int x0), some (.int (k_ones_4 x0 i2)), some (.int (nI i2))]) (st2 := [.int (nI 10), .int (nI i2)]) (M2 := M) (Ps := []) (by decide +kernel) rfl rfl trivial ?_
    refine G.ic_ge (off := (17)) (tgt := 24) (by decide +kernel) rfl (fun h9 => absurd h9 (nI_ge (by omega) (by omega))) (fun _ => ?_)
    refine G.sl [(.iload_n 1, 1, 1, 0, 0, 0), (.iload_n 0, 1, 0, 0, 0, 0), (.iload_n 2, 1, 2, 0, 0, 0), (.ishr, 1, 0, 0, 0, 0), (.iconst 1, 1, 0, 0, 0, nI 1), (.iand, 1, 0, 0, 0, 0), (.iadd, 1, 0, 0, 0, 0), (.istore_n 1, 1, 1, 0, 0, 0), (.iinc 2 1, 3, 2, 0, 0, nI 1), (.goto (-17), 3, 4, 0, 0, 0)] [] (pc2 := 4) (ls2 := [some (.int x0), some (.int ((k_ones_4 x0 i2) + ((x0 >>> ((nI i2) &&& 31)) &&& (nI 1)))), some (.int ((nI i2) + nI 1))]) (st2 := []) (M2 := M) (Ps := []) (by decide +kernel) rfl rfl trivial ?_
    rw [nI_add i2 1]
    simp only [k_ones_4] at ih
    exact ih
set_option maxHeartbeats 4000000 in
set_option maxRecDepth 3000 in
theorem c_k_ones (z : Zp) (d : Nat) (M : Mem) (x0 : Int32) : GM z mX12_ones (d) [.int x0] M (fun rs => rs = .inl (some (.int (k_ones x0)), M)) := by
  refine GM.of oX12_ones.1 (Nat.le_of_ble_eq_true rfl) ?_
  show G z mX12_ones (d) 0 0 0 [some (.int x0), none, none] [] M _
  obtain ⟨Q, hQ⟩ : ∃ Q : Rs → Prop, Q = (fun rs => rs = .inl (some (.int (k_ones x0)), M)) := ⟨_, rfl⟩
  rw [← hQ]
  refine G.sl [(.iconst 0, 1, 0, 0, 0, nI 0), (.istore_n 1, 1, 1, 0, 0, 0), (.iconst 0, 1, 0, 0, 0, nI 0), (.istore_n 2, 1, 2, 0, 0, 0)] [] (pc2 := 4) (ls2 := [some (.int x0), some (.int (nI 0)), some (.int (nI 0))]) (st2 := []) (M2 := M) (Ps := []) (by decide +kernel) rfl rfl trivial ?_
  refine lp_k_ones_4 z d M Q (cN 10) x0 (cN_eq 10) ?_
  show G z mX12_ones (d) 0 0 24 [none, some (.int (k_ones_4 x0 (cN 10))), none] [] M Q
  refine G.sl [(.iload_n 1, 1, 1, 0, 0, 0)] [] (pc2 := 25) (ls2 := [none, some (.int (k_ones_4 x0 (cN 10))), none]) (st2 := [.int (k_ones_4 x0 (cN 10))]) (M2 := M) (Ps := []) (by decide +kernel) rfl rfl trivial ?_
  exact G.reti (by decide +kernel) rfl rfl (Nat.le_of_ble_eq_true rfl) (Nat.le_of_ble_eq_true rfl) ((by rw [hQ]; simp only [k_ones, mrow_self]))
set_option maxHeartbeats 4000000 in
set_option maxRecDepth 3000 in
theorem c_k_both (z : Zp) (d : Nat) (M : Mem) (x0 : Int32) (x1 : Int32) (x2 : Int32) : GM z mX12_both (d) [.int x0, .int x1, .int x2] M (fun rs => rs = .inl (some (.int (k_both x0 x1 x2)), M)) := by
  refine GM.of oX12_both.1 (Nat.le_of_ble_eq_true rfl) ?_
  show G z mX12_both (d) 0 0 0 [some (.int x0), some (.int x1), some (.int x2)] [] M _
  obtain ⟨Q, hQ⟩ : ∃ Q : Rs → Prop, Q = (fun rs => rs = .inl (some (.int (k_both x0 x1 x2)), M)) := ⟨_, rfl⟩
  rw [← hQ]
  refine G.sl [(.iload_n 0, 1, 0, 0, 0, 0), (.iconst 2, 1, 0, 0, 0, nI 2)] [] (pc2 := 2) (ls2 := [some (.int x0), some (.int x1), some (.int x2)]) (st2 := [.int (nI 2), .int x0]) (M2 := M) (Ps := []) (by decide +kernel) rfl rfl trivial ?_
  refine G.ic_ne (off := (7)) (tgt := 9) (by decide +kernel) rfl (fun c1 => ?_) (fun c1 => ?_)
  · skip
    refine G.sl [(.iload_n 0, 1, 0, 0, 0, 0), (.iconst 3, 1, 0, 0, 0, nI 3)] [] (pc2 := 11) (ls2 := [some (.int x0), some (.int x1), some (.int x2)]) (st2 := [.int (nI 3), .int x0]) (M2 := M) (Ps := []) (by decide +kernel) rfl rfl trivial ?_
    refine G.ic_ne (off := (7)) (tgt := 18) (by decide +kernel) rfl (fun c2 => ?_) (fun c2 => ?_)
    · skip
      refine G.sl [(.iload_n 0, 1, 0, 0, 0, 0), (.iconst 4, 1, 0, 0, 0, nI 4)] [] (pc2 := 20) (ls2 := [some (.int x0), some (.int x1), some (.int x2)]) (st2 := [.int (nI 4), .int x0]) (M2 := M) (Ps := []) (by decide +kernel) rfl rfl trivial ?_
      refine G.ic_ne (off := (7)) (tgt := 27) (by decide +kernel) rfl (fun c3 => ?_) (fun c3 => ?_)
      · skip
        refine G.sl [(.iload_n 0, 1, 0, 0, 0, 0), (.iconst 5, 1, 0, 0, 0, nI 5)] [] (pc2 := 29) (ls2 := [some (.int x0), some (.int x1), some (.int x2)]) (st2 := [.int (nI 5), .int x0]) (M2 := M) (Ps := []) (by decide +kernel) rfl rfl trivial ?_
        refine G.ic_eq (off := (9)) (tgt := 38) (by decide +kernel) rfl (fun c4 => ?_) (fun c4 => ?_)
        · skip
          refine G.sl [(.iload_n 2, 1, 2, 0, 0, 0)] [] (pc2 := 39) (ls2 := [some (.int x0), some (.int x1), some (.int x2)]) (st2 := [.int x2]) (M2 := M) (Ps := []) (by decide +kernel) rfl rfl trivial ?_
          refine G.if_ne (off := (7)) (tgt := 46) (by decide +kernel) rfl (fun c5 => ?_) (fun c5 => ?_)
          · skip
            refine G.sl [(.iload_n 0, 1, 0, 0, 0, 0), (.iconst 5, 1, 0, 0, 0, nI 5)] [] (pc2 := 48) (ls2 := [some (.int x0), some (.int x1), some (.int x2)]) (st2 := [.int (nI 5), .int x0]) (M2 := M) (Ps := []) (by decide +kernel) rfl rfl trivial ?_
            refine G.ic_ne (off := (9)) (tgt := 57) (by decide +kernel) rfl (fun h9 => absurd c4 h9) (fun _ => ?_)
            refine G.sl [(.iload_n 1, 1, 1, 0, 0, 0), (.iload_n 2, 1, 2, 0, 0, 0), (.idiv, 1, 0, 0, 0, 0), (.goto 6, 3, 60, 0, 0, 0)] [] (pc2 := 60) (ls2 := [some (.int x0), some (.int x1), some (.int x2)]) (st2 := [.int (x1 / x2)]) (M2 := M) (Ps := [¬ x2 = 0]) (by decide +kernel) rfl rfl ⟨c5, trivial⟩ ?_
            exact G.reti (by decide +kernel) rfl rfl (Nat.le_of_ble_eq_true rfl) (Nat.le_of_ble_eq_true rfl) ((by rw [hQ]; simp only [k_both, if_neg c1, if_neg c2, if_neg c3, if_pos c4, if_neg c5, mrow_self]))
          · skip
            refine G.sl [(.iconst 0, 1, 0, 0, 0, nI 0), (.goto 17, 3, 60, 0, 0, 0)] [] (pc2 := 60) (ls2 := [some (.int x0), some (.int x1), some (.int x2)]) (st2 := [.int (nI 0)]) (M2 := M) (Ps := []) (by decide +kernel) rfl rfl trivial ?_
            exact G.reti (by decide +kernel) rfl rfl (Nat.le_of_ble_eq_true rfl) (Nat.le_of_ble_eq_true rfl) ((by rw [hQ]; simp only [k_both, if_neg c1, if_neg c2, if_neg c3, if_pos c4, if_pos c5, mrow_self]))
        · skip
          refine G.sl [(.iload_n 0, 1, 0, 0, 0, 0), (.bipush 8, 2, 0, 0, 0, nI 8)] [] (pc2 := 35) (ls2 := [some (.int x0), some (.int x1), some (.int x2)]) (st2 := [.int (nI 8), .int x0]) (M2 := M) (Ps := []) (by decide +kernel) rfl rfl trivial ?_
          refine G.ic_ne (off := (26)) (tgt := 61) (by decide +kernel) rfl (fun c6 => ?_) (fun c6 => ?_)
          · skip
            refine G.sl [(.iload_n 1, 1, 1, 0, 0, 0), (.iload_n 2, 1, 2, 0, 0, 0)] [] (pc2 := 63) (ls2 := [some (.int x0), some (.int x1), some (.int x2)]) (st2 := [.int x2, .int x1]) (M2 := M) (Ps := []) (by decide +kernel) rfl rfl trivial ?_
            refine G.ic_ge (off := (7)) (tgt := 70) (by decide +kernel) rfl (fun c7 => ?_) (fun c7 => ?_)
            · skip
              refine G.sl [(.iconst 0, 1, 0, 0, 0, nI 0), (.iload_n 0, 1, 0, 0, 0, 0), (.bipush 6, 2, 0, 0, 0, nI 6)] [] (pc2 := 74) (ls2 := [some (.int x0), some (.int x1), some (.int x2)]) (st2 := [.int (nI 6), .int x0, .int (nI 0)]) (M2 := M) (Ps := []) (by decide +kernel) rfl rfl trivial ?_
              refine G.ic_ne (off := (7)) (tgt := 81) (by decide +kernel) rfl (fun c8 => ?_) (fun c8 => ?_)
              · skip
                refine G.sl [(.iconst 0, 1, 0, 0, 0, nI 0)] [] (pc2 := 82) (ls2 := [some (.int x0), some (.int x1), some (.int x2)]) (st2 := [.int (nI 0), .int (nI 0)]) (M2 := M) (Ps := []) (by decide +kernel) rfl rfl trivial ?_
                refine G.ic_ne (off := (7)) (tgt := 89) (by decide +kernel) rfl (fun h9 => absurd (by decide) h9) (fun _ => ?_)
                refine G.sl [(.iload_n 1, 1, 1, 0, 0, 0), (.goto 4, 3, 90, 0, 0, 0)] [] (pc2 := 90) (ls2 := [some (.int x0), some (.int x1), some (.int x2)]) (st2 := [.int x1]) (M2 := M) (Ps := []) (by decide +kernel) rfl rfl trivial ?_
                exact G.reti (by decide +kernel) rfl rfl (Nat.le_of_ble_eq_true rfl) (Nat.le_of_ble_eq_true rfl) ((by rw [hQ]; simp only [k_both, if_neg c1, if_neg c2, if_neg c3, if_neg c4, if_neg c6, if_pos c7, if_neg c8, mrow_self]))
              · skip
                refine G.sl [(.iconst 1, 1, 0, 0, 0, nI 1), (.goto 4, 3, 82, 0, 0, 0)] [] (pc2 := 82) (ls2 := [some (.int x0), some (.int x1), some (.int x2)]) (st2 := [.int (nI 1), .int (nI 0)]) (M2 := M) (Ps := []) (by decide +kernel) rfl rfl trivial ?_
                refine G.ic_ne (off := (7)) (tgt := 89) (by decide +kernel) rfl (fun _ => ?_) (fun h9 => absurd h9 (by decide))
                refine G.sl [(.iload_n 2, 1, 2, 0, 0, 0)] [] (pc2 := 90) (ls2 := [some (.int x0), some (.int x1), some (.int x2)]) (st2 := [.int x2]) (M2 := M) (Ps := []) (by decide +kernel) rfl rfl trivial ?_
                exact G.reti (by decide +kernel) rfl rfl (Nat.le_of_ble_eq_true rfl) (Nat.le_of_ble_eq_true rfl) ((by rw [hQ]; simp only [k_both, if_neg c1, if_neg c2, if_neg c3, if_neg c4, if_neg c6, if_pos c7, if_pos c8, mrow_self]))
            · skip
              refine G.sl [(.iconst 1, 1, 0, 0, 0, nI 1), (.goto 4, 3, 71, 0, 0, 0), (.iload_n 0, 1, 0, 0, 0, 0), (.bipush 6, 2, 0, 0, 0, nI 6)] [] (pc2 := 74) (ls2 := [some (.int x0), some (.int x1), some (.int x2)]) (st2 := [.int (nI 6), .int x0, .int (nI 1)]) (M2 := M) (Ps := []) (by decide +kernel) rfl rfl trivial ?_
              refine G.ic_ne (off := (7)) (tgt := 81) (by decide +kernel) rfl (fun c9 => ?_) (fun c9 => ?_)
              · skip
                refine G.sl [(.iconst 0, 1, 0, 0, 0, nI 0)] [] (pc2 := 82) (ls2 := [some (.int x0), some (.int x1), some (.int x2)]) (st2 := [.int (nI 0), .int (nI 1)]) (M2 := M) (Ps := []) (by decide +kernel) rfl rfl trivial ?_
                refine G.ic_ne (off := (7)) (tgt := 89) (by decide +kernel) rfl (fun _ => ?_) (fun h9 => absurd h9 (by decide))
                refine G.sl [(.iload_n 2, 1, 2, 0, 0, 0)] [] (pc2 := 90) (ls2 := [some (.int x0), some (.int x1), some (.int x2)]) (st2 := [.int x2]) (M2 := M) (Ps := []) (by decide +kernel) rfl rfl trivial ?_
                exact G.reti (by decide +kernel) rfl rfl (Nat.le_of_ble_eq_true rfl) (Nat.le_of_ble_eq_true rfl) ((by rw [hQ]; simp only [k_both, if_neg c1, if_neg c2, if_neg c3, if_neg c4, if_neg c6, if_neg c7, if_neg c9, mrow_self]))
              · skip
                refine G.sl [(.iconst 1, 1, 0, 0, 0, nI 1), (.goto 4, 3, 82, 0, 0, 0)] [] (pc2 := 82) (ls2 := [some (.int x0), some (.int x1), some (.int x2)]) (st2 := [.int (nI 1), .int (nI 1)]) (M2 := M) (Ps := []) (by decide +kernel) rfl rfl trivial ?_
                refine G.ic_ne (off := (7)) (tgt := 89) (by decide +kernel) rfl (fun h9 => absurd (by decide) h9) (fun _ => ?_)
                refine G.sl [(.iload_n 1, 1, 1, 0, 0, 0), (.goto 4, 3, 90, 0, 0, 0)] [] (pc2 := 90) (ls2 := [some (.int x0), some (.int x1), some (.int x2)]) (st2 := [.int x1]) (M2 := M) (Ps := []) (by decide +kernel) rfl rfl trivial ?_
                exact G.reti (by decide +kernel) rfl rfl (Nat.le_of_ble_eq_true rfl) (Nat.le_of_ble_eq_true rfl) ((by rw [hQ]; simp only [k_both, if_neg c1, if_neg c2, if_neg c3, if_neg c4, if_neg c6, if_neg c7, if_pos c9, mrow_self]))
          · skip
            refine G.sl [(.iload_n 2, 1, 2, 0, 0, 0)] [] (pc2 := 39) (ls2 := [some (.int x0), some (.int x1), some (.int x2)]) (st2 := [.int x2]) (M2 := M) (Ps := []) (by decide +kernel) rfl rfl trivial ?_
            refine G.if_ne (off := (7)) (tgt := 46) (by decide +kernel) rfl (fun c10 => ?_) (fun c10 => ?_)
            · skip
              refine G.sl [(.iload_n 0, 1, 0, 0, 0, 0), (.iconst 5, 1, 0, 0, 0, nI 5)] [] (pc2 := 48) (ls2 := [some (.int x0), some (.int x1), some (.int x2)]) (st2 := [.int (nI 5), .int x0]) (M2 := M) (Ps := []) (by decide +kernel) rfl rfl trivial ?_
              refine G.ic_ne (off := (9)) (tgt := 57) (by decide +kernel) rfl (fun _ => ?_) (fun h9 => absurd h9 c4)
              refine G.sl [(.iload_n 1, 1, 1, 0, 0, 0), (.iload_n 2, 1, 2, 0, 0, 0), (.irem, 1, 0, 0, 0, 0)] [] (pc2 := 60) (ls2 := [some (.int x0), some (.int x1), some (.int x2)]) (st2 := [.int (x1 - x1 / x2 * x2)]) (M2 := M) (Ps := [¬ x2 = 0]) (by decide +kernel) rfl rfl ⟨c10, trivial⟩ ?_
              exact G.reti (by decide +kernel) rfl rfl (Nat.le_of_ble_eq_true rfl) (Nat.le_of_ble_eq_true rfl) ((by rw [hQ]; simp only [k_both, if_neg c1, if_neg c2, if_neg c3, if_neg c4, if_pos c6, if_neg c10, mrow_self]))
            · skip
              refine G.sl [(.iconst 0, 1, 0, 0, 0, nI 0), (.goto 17, 3, 60, 0, 0, 0)] [] (pc2 := 60) (ls2 := [some (.int x0), some (.int x1), some (.int x2)]) (st2 := [.int (nI 0)]) (M2 := M) (Ps := []) (by decide +kernel) rfl rfl trivial ?_
              exact G.reti (by decide +kernel) rfl rfl (Nat.le_of_ble_eq_true rfl) (Nat.le_of_ble_eq_true rfl) ((by rw [hQ]; simp only [k_both, if_neg c1, if_neg c2, if_neg c3, if_neg c4, if_pos c6, if_pos c10, mrow_self]))
      · skip
        refine G.sl [(.iload_n 1, 1, 1, 0, 0, 0), (.iload_n 2, 1, 2, 0, 0, 0), (.imul, 1, 0, 0, 0, 0)] [] (pc2 := 26) (ls2 := [some (.int x0), some (.int x1), some (.int x2)]) (st2 := [.int (x1 * x2)]) (M2 := M) (Ps := []) (by decide +kernel) rfl rfl trivial ?_
        exact G.reti (by decide +kernel) rfl rfl (Nat.le_of_ble_eq_true rfl) (Nat.le_of_ble_eq_true rfl) ((by rw [hQ]; simp only [k_both, if_neg c1, if_neg c2, if_pos c3, mrow_self]))
    · skip
      refine G.sl [(.iload_n 1, 1, 1, 0, 0, 0), (.iload_n 2, 1, 2, 0, 0, 0), (.isub, 1, 0, 0, 0, 0)] [] (pc2 := 17) (ls2 := [some (.int x0), some (.int x1), some (.int x2)]) (st2 := [.int (x1 - x2)]) (M2 := M) (Ps := []) (by decide +kernel) rfl rfl trivial ?_
      exact G.reti (by decide +kernel) rfl rfl (Nat.le_of_ble_eq_true rfl) (Nat.le_of_ble_eq_true rfl) ((by rw [hQ]; simp only [k_both, if_neg c1, if_pos c2, mrow_self]))
  · skip
    refine G.sl [(.iload_n 1, 1, 1, 0, 0, 0), (.iload_n 2, 1, 2, 0, 0, 0), (.iadd, 1, 0, 0, 0, 0)] [] (pc2 := 8) (ls2 := [some (.int x0), some (.int x1), some (.int x2)]) (st2 := [.int (x1 + x2)]) (M2 := M) (Ps := []) (by decide +kernel) rfl rfl trivial ?_
    exact G.reti (by decide +kernel) rfl rfl (Nat.le_of_ble_eq_true rfl) (Nat.le_of_ble_eq_true rfl) ((by rw [hQ]; simp only [k_both, if_pos c1, mrow_self]))
