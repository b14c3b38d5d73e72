set_option maxHeartbeats 4000000 in
set_option maxRecDepth 3000 in
theorem lp_d_givenBy_37_4 (z : Zp) (d : Nat) (M : Mem) (Q : Rs → Prop) (x1 : Int32) (nf : Nat) (hnf : nf ≤ 6) (hf : M.1 3 3 = nI nf) (hX : G z mX1_givenBy (d + 1) 0 0 34 [none, none, some (.int (d_givenBy_4 (M.1 39) x1 nf)), none] [] M Q) : G z mX1_givenBy (d + 1) 0 0 4 [some (.ref 37), some (.int x1), some (.int (nI 0)), some (.int (nI 0))] [] M Q := by
  refine down (n := nf) (P := fun i3 => G z mX1_givenBy (d + 1) 0 0 4 [some (.ref 37), some (.int x1), some (.int (d_givenBy_4 (M.1 39) x1 i3)), some (.int (nI i3))] [] M Q) ?_ ?_ 0 (Nat.zero_le _)
  · skip
    refine G.sl [(.iload_n 3, 1, 3, 0, 0, 0), (.aload_n 0, 1, 0, 0, 0, 0), (.getfield 18, 3, 1, 2, 79, 0), (.getfield 78, 3, 6, 3, 34, 0)] [] (pc2 := 12) (ls2 := [some (.ref 37), some (.int x1), some (.int (d_givenBy_4 (M.1 39) x1 nf)), some (.int (nI nf))]) (st2 := [.int (M.1 3 3), .int (nI nf)]) (M2 := M) (Ps := []) (by decide +kernel) rfl rfl trivial ?_
    rw [hf]
    refine G.ic_ge (off := (22)) (tgt := 34) (by decide +kernel) rfl (fun _ => ?_) (fun h9 => absurd (nI_le (by omega) (by omega)) h9)
    refine G.loc (ls2 := [none, none, some (.int (d_givenBy_4 (M.1 39) x1 nf)), none]) (by simp [subL]) ?_
    exact hX
  · skip
    intro i3 hi ih
    show G z mX1_givenBy (d + 1) 0 0 4 [some (.ref 37), some (.int x1), some (.int (d_givenBy_4 (M.1 39) x1 i3)), some (.int (nI i3))] [] M Q
    refine G.sl [(.iload_n 3, 1, 3, 0, 0, 0), (.aload_n 0, 1, 0, 0, 0, 0), (.getfield 18, 3, 1, 2, 79, 0), (.getfield 78, 3, 6, 3, 34, 0)] [] (pc2 := 12) (ls2 := [some (.ref 37), some (.int x1), some (.int (d_givenBy_4 (M.1 39) x1 i3)), some (.int (nI i3))]) (st2 := [.int (M.1 3 3), .int (nI i3)]) (M2 := M) (Ps := []) (by decide +kernel) rfl rfl trivial ?_
    rw [hf]
    refine G.ic_ge (off := (22)) (tgt := 34) (by decide +kernel) rfl (fun h9 => absurd h9 (nI_ge (by omega) (by omega))) (fun _ => ?_)
    refine G.sl [(.iload_n 2, 1, 2, 0, 0, 0), (.iload_n 1, 1, 1, 0, 0, 0), (.aload_n 0, 1, 0, 0, 0, 0), (.getfield 15, 3, 1, 1, 78, 0), (.iload_n 3, 1, 3, 0, 0, 0), (.iaload, 1, 0, 0, 0, 0)] [i3] (pc2 := 23) (ls2 := [some (.ref 37), some (.int x1), some (.int (d_givenBy_4 (M.1 39) x1 i3)), some (.int (nI i3))]) (st2 := [.int (M.1 39 i3), .int x1, .int (d_givenBy_4 (M.1 39) x1 i3)]) (M2 := M) (Ps := [(nI i3) = nI i3 ∧ i3 < 6]) (by decide +kernel) rfl rfl ⟨⟨rfl, (by omega)⟩, trivial⟩ ?_
    refine G.mmin lm_EvenFinders_Days_116 (by decide +kernel) (Nat.le_of_ble_eq_true rfl) (Nat.le_of_ble_eq_true rfl) (Nat.le_of_ble_eq_true rfl) ?_
    refine G.sl [(.iadd, 1, 0, 0, 0, 0), (.istore_n 2, 1, 2, 0, 0, 0), (.iinc 3 1, 3, 3, 0, 0, nI 1), (.goto (-27), 3, 4, 0, 0, 0)] [] (pc2 := 4) (ls2 := [some (.ref 37), some (.int x1), some (.int ((d_givenBy_4 (M.1 39) x1 i3) + (if (M.1 39 i3) < x1 then (M.1 39 i3) else x1))), some (.int ((nI i3) + nI 1))]) (st2 := []) (M2 := M) (Ps := []) (by decide +kernel) rfl rfl trivial ?_
    rw [nI_add i3 1]
    simp only [d_givenBy_4] at ih
    exact ih
set_option maxHeartbeats 4000000 in
set_option maxRecDepth 3000 in
theorem c_d_givenBy_37 (z : Zp) (d : Nat) (M : Mem) (x1 : Int32) (nf : Nat) (hnf : nf ≤ 6) (hf : M.1 3 3 = nI nf) : GM z mX1_givenBy (d + 1) [.ref 37, .int x1] M (fun rs => rs = .inl (some (.int (d_givenBy (M.1 39) nf x1)), M)) := by
  refine GM.of oX1_givenBy.1 (Nat.le_of_ble_eq_true rfl) ?_
  show G z mX1_givenBy (d + 1) 0 0 0 [some (.ref 37), some (.int x1), none, none] [] M _
  obtain ⟨Q, hQ⟩ : ∃ Q : Rs → Prop, Q = (fun rs => rs = .inl (some (.int (d_givenBy (M.1 39) nf x1)), M)) := ⟨_, rfl⟩
  rw [← hQ]
  refine G.sl [(.iconst 0, 1, 0, 0, 0, nI 0), (.istore_n 2, 1, 2, 0, 0, 0), (.iconst 0, 1, 0, 0, 0, nI 0), (.istore_n 3, 1, 3, 0, 0, 0)] [] (pc2 := 4) (ls2 := [some (.ref 37), some (.int x1), some (.int (nI 0)), some (.int (nI 0))]) (st2 := []) (M2 := M) (Ps := []) (by decide +kernel) rfl rfl trivial ?_
  refine lp_d_givenBy_37_4 z d M Q x1 nf hnf hf ?_
  show G z mX1_givenBy (d + 1) 0 0 34 [none, none, some (.int (d_givenBy_4 (M.1 39) x1 nf)), none] [] M Q
  refine G.sl [(.iload_n 2, 1, 2, 0, 0, 0)] [] (pc2 := 35) (ls2 := [none, none, some (.int (d_givenBy_4 (M.1 39) x1 nf)), none]) (st2 := [.int (d_givenBy_4 (M.1 39) x1 nf)]) (M2 := M) (Ps := []) (by decide +kernel) rfl rfl trivial ?_
  exact G.reti (by decide +kernel) rfl rfl (Nat.le_of_ble_eq_true rfl) (Nat.le_of_ble_eq_true rfl) ((by rw [hQ]; simp only [d_givenBy, mrow_self]))
set_option maxHeartbeats 4000000 in
set_option maxRecDepth 3000 in
theorem lp_d_levelled_37_67 (z : Zp) (d : Nat) (M : Mem) (Q : Rs → Prop) (n1 : Nat) (x3 : Int32) (nf : Nat) (hnf : nf ≤ 6) (hf : M.1 3 3 = nI nf) (b1 : n1 < 6) : ∀ (k0 : Nat) (s4 : Int32), d_levelled_67_ok (M.1 39) nf n1 x3 k0 s4 → (match d_levelled_67 (M.1 39) nf n1 x3 k0 s4 with | s4' => G z mX1_levelled (d + 2) 0 0 93 [some (.ref 37), some (.int (nI n1)), none, none, some (.int (s4'))] [] M Q) → G z mX1_levelled (d + 2) 0 0 67 [some (.ref 37), some (.int (nI n1)), none, some (.int x3), some (.int s4)] [] M Q := by
  intro k0
  induction k0 with
  | zero =>
      intro s4 hk hX
      exact (by simpa only [d_levelled_67_ok] using hk : False).elim
  | succ k0 ih =>
      intro s4 hk hX
      simp only [d_levelled_67_ok] at hk
      refine G.sl [(.iload 4, 2, 4, 0, 0, 0), (.sipush 600, 3, 0, 0, 0, nI 600)] [] (pc2 := 72) (ls2 := [some (.ref 37), some (.int (nI n1)), none, some (.int x3), some (.int s4)]) (st2 := [.int (nI 600), .int s4]) (M2 := M) (Ps := []) (by decide +kernel) rfl rfl trivial ?_
      refine G.ic_ge (off := (21)) (tgt := 93) (by decide +kernel) rfl (fun c10 => ?_) (fun c10 => ?_)
      · skip
        rw [if_pos c10] at hk
        refine G.loc (ls2 := [some (.ref 37), some (.int (nI n1)), none, none, some (.int s4)]) (by simp [subL]) ?_
        simp only [d_levelled_67, if_pos c10] at hX
        exact hX
      · skip
        rw [if_neg c10] at hk
        refine G.sl [(.aload_n 0, 1, 0, 0, 0, 0), (.iload 4, 2, 4, 0, 0, 0), (.iconst 1, 1, 0, 0, 0, nI 1), (.iadd, 1, 0, 0, 0, 0)] [] (pc2 := 80) (ls2 := [some (.ref 37), some (.int (nI n1)), none, some (.int x3), some (.int s4)]) (st2 := [.int (s4 + (nI 1)), .ref 37]) (M2 := M) (Ps := []) (by decide +kernel) rfl rfl trivial ?_
        obtain ⟨k11, hk⟩ := hk
        have t12 : GM z mX1_givenBy (d + 1) [.ref 37, .int (s4 + (nI 1))] M (fun rs => rs = .inl (some (.int (d_givenBy (M.1 39) nf (s4 + (nI 1)))), M)) := by
          have q9 := c_d_givenBy_37 z d M (s4 + (nI 1)) nf hnf hf
          try simp only [mput, mrow_same, mrow_hit, mrow_miss, mrow_sw, idr_eq, ne_eq, Nat.reduceEqDiff, not_false_eq_true, Nat.reduceLT, reduceCtorEq] at q9
          exact q9
        refine G.callV (as := [.int (s4 + (nI 1))]) (rest := []) (a := 37) oX1_givenBy lk_EvenFinders_Days_113 (by decide +kernel) rfl rfl ⟨rfl, rfl⟩ (Nat.le_of_ble_eq_true rfl) rfl ⟨Nat.le_of_ble_eq_true rfl, Nat.le_of_ble_eq_true rfl⟩ t12 (fun v9 N9 h13 => ?_) (fun E9 N9 h13 => by cases h13)
        cases h13
        show G z mX1_levelled (d + 2) 0 0 83 [some (.ref 37), some (.int (nI n1)), none, some (.int x3), some (.int s4)] [.int (d_givenBy (M.1 39) nf (s4 + (nI 1)))] M Q
        refine G.sl [(.iload_n 3, 1, 3, 0, 0, 0)] [] (pc2 := 84) (ls2 := [some (.ref 37), some (.int (nI n1)), none, some (.int x3), some (.int s4)]) (st2 := [.int x3, .int (d_givenBy (M.1 39) nf (s4 + (nI 1)))]) (M2 := M) (Ps := []) (by decide +kernel) rfl rfl trivial ?_
        refine G.ic_gt (off := (9)) (tgt := 93) (by decide +kernel) rfl (fun c14 => ?_) (fun c14 => ?_)
        · skip
          rw [if_pos c14] at hk
          refine G.loc (ls2 := [some (.ref 37), some (.int (nI n1)), none, none, some (.int s4)]) (by simp [subL]) ?_
          simp only [d_levelled_67, if_neg c10, if_pos c14] at hX
          exact hX
        · skip
          rw [if_neg c14] at hk
          refine G.sl [(.iinc 4 1, 3, 4, 0, 0, nI 1), (.goto (-23), 3, 67, 0, 0, 0)] [] (pc2 := 67) (ls2 := [some (.ref 37), some (.int (nI n1)), none, some (.int x3), some (.int (s4 + nI 1))]) (st2 := []) (M2 := M) (Ps := []) (by decide +kernel) rfl rfl trivial ?_
          simp only [d_levelled_67, if_neg c10, if_neg c14] at hX
          exact ih (s4 + nI 1) hk hX
set_option maxHeartbeats 4000000 in
set_option maxRecDepth 3000 in
theorem c_d_levelled_37 (z : Zp) (d : Nat) (M : Mem) (n1 : Nat) (x2 : Int32) (x3 : Int32) (nt : Nat) (hnt : nt ≤ 10) (ht : M.1 3 2 = nI nt) (nf : Nat) (hnf : nf ≤ 6) (hf : M.1 3 3 = nI nf) (b1 : n1 < 6) (hk : d_levelled_ok (M.1 7) (M.1 38) (M.1 39) nt nf n1 x2 x3) : GM z mX1_levelled (d + 2) [.ref 37, .int (nI n1), .int x2, .int x3] M (fun rs => rs = .inl (some (.int ((d_levelled (M.1 7) (M.1 38) (M.1 39) nt nf n1 x2 x3).1)), mrow M 39 ((d_levelled (M.1 7) (M.1 38) (M.1 39) nt nf n1 x2 x3).2))) := by
  simp only [d_levelled_ok] at hk
  refine GM.of oX1_levelled.1 (Nat.le_of_ble_eq_true rfl) ?_
  show G z mX1_levelled (d + 2) 0 0 0 [some (.ref 37), some (.int (nI n1)), some (.int x2), some (.int x3), none] [] M _
  obtain ⟨Q, hQ⟩ : ∃ Q : Rs → Prop, Q = (fun rs => rs = .inl (some (.int ((d_levelled (M.1 7) (M.1 38) (M.1 39) nt nf n1 x2 x3).1)), mrow M 39 ((d_levelled (M.1 7) (M.1 38) (M.1 39) nt nf n1 x2 x3).2))) := ⟨_, rfl⟩
  rw [← hQ]
  refine G.sl [(.iload_n 2, 1, 2, 0, 0, 0), (.iload_n 1, 1, 1, 0, 0, 0), (.ishr, 1, 0, 0, 0, 0), (.iconst 1, 1, 0, 0, 0, nI 1), (.iand, 1, 0, 0, 0, 0)] [] (pc2 := 5) (ls2 := [some (.ref 37), some (.int (nI n1)), some (.int x2), some (.int x3), none]) (st2 := [.int ((x2 >>> ((nI n1) &&& 31)) &&& (nI 1))]) (M2 := M) (Ps := []) (by decide +kernel) rfl rfl trivial ?_
  refine G.if_ne (off := (5)) (tgt := 10) (by decide +kernel) rfl (fun c1 => ?_) (fun c1 => ?_)
  · skip
    rw [if_neg c1] at hk
    refine G.sl [(.iconst 0, 1, 0, 0, 0, nI 0), (.istore 4, 2, 4, 0, 0, 0)] [] (pc2 := 13) (ls2 := [some (.ref 37), some (.int (nI n1)), some (.int x2), some (.int x3), some (.int (nI 0))]) (st2 := []) (M2 := M) (Ps := []) (by decide +kernel) rfl rfl trivial ?_
    obtain ⟨k9, hk⟩ := hk
    refine lp_d_levelled_37_13 z d M Q n1 x2 x3 nt hnt ht nf hnf hf (by omega) ?_
    try simp only [mput, mrow_same, mrow_hit, mrow_miss, mrow_sw, idr_eq, ne_eq, Nat.reduceEqDiff, not_false_eq_true, Nat.reduceLT, reduceCtorEq]
    show G z mX1_levelled (d + 2) 0 0 64 [some (.ref 37), some (.int (nI n1)), none, some (.int x3), none] [] (mrow M 39 (d_levelled_13 (M.1 7) (M.1 38) (M.1 39) nt n1 x2 x3 nf)) Q
    refine G.sl [(.iconst 0, 1, 0, 0, 0, nI 0), (.istore 4, 2, 4, 0, 0, 0)] [] (pc2 := 67) (ls2 := [some (.ref 37), some (.int (nI n1)), none, some (.int x3), some (.int (nI 0))]) (st2 := []) (M2 := mrow M 39 (d_levelled_13 (M.1 7) (M.1 38) (M.1 39) nt n1 x2 x3 nf)) (Ps := []) (by decide +kernel) rfl rfl trivial ?_
    obtain ⟨k15, hk⟩ := hk
    refine lp_d_levelled_37_67 z d (mrow M 39 (d_levelled_13 (M.1 7) (M.1 38) (M.1 39) nt n1 x2 x3 nf)) Q n1 x3 nf hnf hf (by omega) FU (nI 0) (by first | (simp only [mput, mrow_same, mrow_hit, mrow_miss, mrow_sw, idr_eq, ne_eq, Nat.reduceEqDiff, not_false_eq_true, Nat.reduceLT, reduceCtorEq]; exact k15) | exact k15) ?_
    try simp only [mput, mrow_same, mrow_hit, mrow_miss, mrow_sw, idr_eq, ne_eq, Nat.reduceEqDiff, not_false_eq_true, Nat.reduceLT, reduceCtorEq]
    show G z mX1_levelled (d + 2) 0 0 93 [some (.ref 37), some (.int (nI n1)), none, none, some (.int (d_levelled_67 (d_levelled_13 (M.1 7) (M.1 38) (M.1 39) nt n1 x2 x3 nf) nf n1 x3 FU (nI 0)))] [] (mrow M 39 (d_levelled_13 (M.1 7) (M.1 38) (M.1 39) nt n1 x2 x3 nf)) Q
    refine G.sl [(.iload 4, 2, 4, 0, 0, 0), (.aload_n 0, 1, 0, 0, 0, 0), (.getfield 15, 3, 1, 1, 78, 0), (.iload_n 1, 1, 1, 0, 0, 0), (.iaload, 1, 0, 0, 0, 0)] [n1] (pc2 := 101) (ls2 := [some (.ref 37), some (.int (nI n1)), none, none, some (.int (d_levelled_67 (d_levelled_13 (M.1 7) (M.1 38) (M.1 39) nt n1 x2 x3 nf) nf n1 x3 FU (nI 0)))]) (st2 := [.int ((d_levelled_13 (M.1 7) (M.1 38) (M.1 39) nt n1 x2 x3 nf) n1), .int (d_levelled_67 (d_levelled_13 (M.1 7) (M.1 38) (M.1 39) nt n1 x2 x3 nf) nf n1 x3 FU (nI 0))]) (M2 := mrow M 39 (d_levelled_13 (M.1 7) (M.1 38) (M.1 39) nt n1 x2 x3 nf)) (Ps := [(nI n1) = nI n1 ∧ n1 < 6]) (by decide +kernel) rfl rfl ⟨⟨rfl, (by omega)⟩, trivial⟩ ?_
    refine G.mmin lm_EvenFinders_Days_116 (by decide +kernel) (Nat.le_of_ble_eq_true rfl) (Nat.le_of_ble_eq_true rfl) (Nat.le_of_ble_eq_true rfl) ?_
    exact G.reti (by decide +kernel) rfl rfl (Nat.le_of_ble_eq_true rfl) (Nat.le_of_ble_eq_true rfl) ((by rw [hQ]; simp only [d_levelled, if_neg c1, mrow_self]))
  · skip
    rw [if_pos c1] at hk
    refine G.sl [(.iconst 0, 1, 0, 0, 0, nI 0)] [] (pc2 := 9) (ls2 := [some (.ref 37), some (.int (nI n1)), some (.int x2), some (.int x3), none]) (st2 := [.int (nI 0)]) (M2 := M) (Ps := []) (by decide +kernel) rfl rfl trivial ?_
    refine G.mem (M' := mrow M 39 (M.1 39)) (((mrow_id (N := M) (c := 39) (f := M.1 39) (by first | rfl | (simp only [mput, mrow_same, mrow_hit, mrow_miss, mrow_sw, idr_eq, ne_eq, Nat.reduceEqDiff, not_false_eq_true, Nat.reduceLT, reduceCtorEq]; done))).symm).trans (by first | rfl | (simp only [mput, mrow_same, mrow_hit, mrow_miss, mrow_sw, idr_eq, ne_eq, Nat.reduceEqDiff, not_false_eq_true, Nat.reduceLT, reduceCtorEq]; done))) ?_
    exact G.reti (by decide +kernel) rfl rfl (Nat.le_of_ble_eq_true rfl) (Nat.le_of_ble_eq_true rfl) ((by rw [hQ]; simp only [d_levelled, if_pos c1, mrow_self]))
set_option maxHeartbeats 4000000 in
set_option maxRecDepth 3000 in
theorem c_h_clear_43 (z : Zp) (d : Nat) (M : Mem) : GM z mX2_clear (d) [.ref 43] M (fun rs => rs = .inl (none, mrow M 43 ((h_clear (M.1 43)).2))) := by
  refine GM.of oX2_clear.1 (Nat.le_of_ble_eq_true rfl) ?_
  show G z mX2_clear (d) 0 0 0 [some (.ref 43)] [] M _
  obtain ⟨Q, hQ⟩ : ∃ Q : Rs → Prop, Q = (fun rs => rs = .inl (none, mrow M 43 ((h_clear (M.1 43)).2))) := ⟨_, rfl⟩
  rw [← hQ]
  refine G.sl [(.aload_n 0, 1, 0, 0, 0, 0), (.iconst 0, 1, 0, 0, 0, nI 0), (.putfield 21, 3, 2, 0, 81, 0), (.aload_n 0, 1, 0, 0, 0, 0), (.iconst 0, 1, 0, 0, 0, nI 0), (.putfield 25, 3, 2, 1, 83, 0)] [] (pc2 := 10) (ls2 := [some (.ref 43)]) (st2 := []) (M2 := mput (mput M 43 0 (nI 0)) 43 1 (nI 0)) (Ps := []) (by decide +kernel) rfl rfl trivial ?_
  refine G.mem (M' := mrow M 43 (upd (upd (M.1 43) 0 (nI 0)) 1 (nI 0))) (by first | rfl | (simp only [mput, mrow_same, mrow_hit, mrow_miss, mrow_sw, idr_eq, ne_eq, Nat.reduceEqDiff, not_false_eq_true, Nat.reduceLT, reduceCtorEq]; done)) ?_
  exact G.retv (by decide +kernel) rfl (Nat.le_of_ble_eq_true rfl) (Nat.le_of_ble_eq_true rfl) ((by rw [hQ]; simp only [h_clear, mrow_self]))
set_option maxHeartbeats 4000000 in
set_option maxRecDepth 3000 in
theorem c_h_keepWork_43_37 (z : Zp) (d : Nat) (M : Mem) (hk : h_keepWork_ok (M.1 38) (M.1 43) (M.1 44)) : GM z mX2_keepWork (d + 1) [.ref 43, .ref 37] M (fun rs => rs = .inl (none, mrow (mrow M 43 ((h_keepWork (M.1 38) (M.1 43) (M.1 44)).2.1)) 44 ((h_keepWork (M.1 38) (M.1 43) (M.1 44)).2.2))) := by
  simp only [h_keepWork_ok] at hk
  refine GM.of oX2_keepWork.1 (Nat.le_of_ble_eq_true rfl) ?_
  show G z mX2_keepWork (d + 1) 0 0 0 [some (.ref 43), some (.ref 37)] [] M _
  obtain ⟨Q, hQ⟩ : ∃ Q : Rs → Prop, Q = (fun rs => rs = .inl (none, mrow (mrow M 43 ((h_keepWork (M.1 38) (M.1 43) (M.1 44)).2.1)) 44 ((h_keepWork (M.1 38) (M.1 43) (M.1 44)).2.2))) := ⟨_, rfl⟩
  rw [← hQ]
  refine G.sl [(.aload_n 0, 1, 0, 0, 0, 0), (.getfield 21, 3, 2, 0, 81, 0), (.bipush 16, 2, 0, 0, 0, nI 16)] [] (pc2 := 6) (ls2 := [some (.ref 43), some (.ref 37)]) (st2 := [.int (nI 16), .int (M.1 43 0)]) (M2 := M) (Ps := []) (by decide +kernel) rfl rfl trivial ?_
  refine G.ic_ge (off := (34)) (tgt := 40) (by decide +kernel) rfl (fun c1 => ?_) (fun c1 => ?_)
  · skip
    rw [if_pos c1] at hk
    refine G.mem (M' := mrow (mrow M 43 (M.1 43)) 44 (M.1 44)) ((((mrow_id (N := M) (c := 43) (f := M.1 43) (by first | rfl | (simp only [mput, mrow_same, mrow_hit, mrow_miss, mrow_sw, idr_eq, ne_eq, Nat.reduceEqDiff, not_false_eq_true, Nat.reduceLT, reduceCtorEq]; done))).symm).trans (mrow_id (N := mrow M 43 (M.1 43)) (c := 44) (f := M.1 44) (by first | rfl | (simp only [mput, mrow_same, mrow_hit, mrow_miss, mrow_sw, idr_eq, ne_eq, Nat.reduceEqDiff, not_false_eq_true, Nat.reduceLT, reduceCtorEq]; done))).symm).trans (by first | rfl | (simp only [mput, mrow_same, mrow_hit, mrow_miss, mrow_sw, idr_eq, ne_eq, Nat.reduceEqDiff, not_false_eq_true, Nat.reduceLT, reduceCtorEq]; done))) ?_
    exact G.retv (by decide +kernel) rfl (Nat.le_of_ble_eq_true rfl) (Nat.le_of_ble_eq_true rfl) ((by rw [hQ]; simp only [h_keepWork, if_pos c1, mrow_self]))
  · skip
    rw [if_neg c1] at hk
    refine G.sl [(.aload_n 1, 1, 1, 0, 0, 0), (.getfield 28, 3, 1, 0, 75, 0), (.iconst 0, 1, 0, 0, 0, nI 0), (.aload_n 0, 1, 0, 0, 0, 0), (.getfield 9, 3, 2, 2, 85, 0), (.aload_n 0, 1, 0, 0, 0, 0), (.getfield 21, 3, 2, 0, 81, 0), (.bipush 51, 2, 0, 0, 0, nI 51), (.imul, 1, 0, 0, 0, 0), (.bipush 51, 2, 0, 0, 0, nI 51)] [] (pc2 := 27) (ls2 := [some (.ref 43), some (.ref 37)]) (st2 := [.int (nI 51), .int ((M.1 43 0) * (nI 51)), .ref 44, .int (nI 0), .ref 38]) (M2 := M) (Ps := []) (by decide +kernel) rfl rfl trivial ?_
    obtain ⟨k2, k3, hk⟩ := hk
    refine G.copy (s0 := 0) (p0 := (ix (M.1 43 0)) * 51) (n := 51) la_EvenFinders_History_33 (by decide +kernel) rfl rfl rfl (nMul (ixE k2) rfl) rfl (by omega) k3 (Nat.le_of_ble_eq_true rfl) ?_
    refine G.mem (M' := mrow M 44 (va_cpy (M.1 38) (M.1 44) 0 ((ix (M.1 43 0)) * 51) 51)) (by first | rfl | (simp only [mput, mrow_same, mrow_hit, mrow_miss, mrow_sw, idr_eq, ne_eq, Nat.reduceEqDiff, not_false_eq_true, Nat.reduceLT, reduceCtorEq]; done)) ?_
    refine G.sl [(.aload_n 0, 1, 0, 0, 0, 0), (.dup, 1, 0, 0, 0, 0), (.getfield 21, 3, 2, 0, 81, 0), (.iconst 1, 1, 0, 0, 0, nI 1), (.iadd, 1, 0, 0, 0, 0), (.putfield 21, 3, 2, 0, 81, 0)] [] (pc2 := 40) (ls2 := [some (.ref 43), some (.ref 37)]) (st2 := []) (M2 := mput (mrow M 44 (va_cpy (M.1 38) (M.1 44) 0 ((ix (M.1 43 0)) * 51) 51)) 43 0 ((M.1 43 0) + (nI 1))) (Ps := []) (by decide +kernel) rfl rfl trivial ?_
    refine G.mem (M' := mrow (mrow M 43 (upd (M.1 43) 0 ((M.1 43 0) + (nI 1)))) 44 (va_cpy (M.1 38) (M.1 44) 0 ((ix (M.1 43 0)) * 51) 51)) (by first | rfl | (simp only [mput, mrow_same, mrow_hit, mrow_miss, mrow_sw, idr_eq, ne_eq, Nat.reduceEqDiff, not_false_eq_true, Nat.reduceLT, reduceCtorEq]; done)) ?_
    exact G.retv (by decide +kernel) rfl (Nat.le_of_ble_eq_true rfl) (Nat.le_of_ble_eq_true rfl) ((by rw [hQ]; simp only [h_keepWork, if_neg c1, mrow_self]))
theorem h_takeWorkBack_01 (Rrow Rhistory RworkRows : Nat → Int32) : (h_takeWorkBack Rrow Rhistory RworkRows).1 = 0 ∨ (h_takeWorkBack Rrow Rhistory RworkRows).1 = 1 := by
  unfold h_takeWorkBack
  repeat' split
  all_goals first | exact Or.inl rfl | exact Or.inr rfl
set_option maxHeartbeats 4000000 in
set_option maxRecDepth 3000 in
theorem c_h_takeWorkBack_43_37 (z : Zp) (d : Nat) (M : Mem) (hk : h_takeWorkBack_ok (M.1 38) (M.1 43) (M.1 44)) : GM z mX2_takeWorkBack (d + 1) [.ref 43, .ref 37] M (fun rs => rs = .inl (some (.int ((h_takeWorkBack (M.1 38) (M.1 43) (M.1 44)).1)), mrow (mrow M 38 ((h_takeWorkBack (M.1 38) (M.1 43) (M.1 44)).2.1)) 43 ((h_takeWorkBack (M.1 38) (M.1 43) (M.1 44)).2.2))) := by
  simp only [h_takeWorkBack_ok] at hk
  refine GM.of oX2_takeWorkBack.1 (Nat.le_of_ble_eq_true rfl) ?_
  show G z mX2_takeWorkBack (d + 1) 0 0 0 [some (.ref 43), some (.ref 37)] [] M _
  obtain ⟨Q, hQ⟩ : ∃ Q : Rs → Prop, Q = (fun rs => rs = .inl (some (.int ((h_takeWorkBack (M.1 38) (M.1 43) (M.1 44)).1)), mrow (mrow M 38 ((h_takeWorkBack (M.1 38) (M.1 43) (M.1 44)).2.1)) 43 ((h_takeWorkBack (M.1 38) (M.1 43) (M.1 44)).2.2))) := ⟨_, rfl⟩
  rw [← hQ]
  refine G.sl [(.aload_n 0, 1, 0, 0, 0, 0), (.getfield 21, 3, 2, 0, 81, 0)] [] (pc2 := 4) (ls2 := [some (.ref 43), some (.ref 37)]) (st2 := [.int (M.1 43 0)]) (M2 := M) (Ps := []) (by decide +kernel) rfl rfl trivial ?_
  refine G.if_gt (off := (5)) (tgt := 9) (by decide +kernel) rfl (fun c1 => ?_) (fun c1 => ?_)
  · skip
    rw [if_pos c1] at hk
    refine G.sl [(.aload_n 0, 1, 0, 0, 0, 0), (.dup, 1, 0, 0, 0, 0), (.getfield 21, 3, 2, 0, 81, 0), (.iconst 1, 1, 0, 0, 0, nI 1), (.isub, 1, 0, 0, 0, 0), (.putfield 21, 3, 2, 0, 81, 0), (.aload_n 0, 1, 0, 0, 0, 0), (.getfield 9, 3, 2, 2, 85, 0), (.aload_n 0, 1, 0, 0, 0, 0), (.getfield 21, 3, 2, 0, 81, 0), (.bipush 51, 2, 0, 0, 0, nI 51), (.imul, 1, 0, 0, 0, 0), (.aload_n 1, 1, 1, 0, 0, 0), (.getfield 28, 3, 1, 0, 75, 0), (.iconst 0, 1, 0, 0, 0, nI 0), (.bipush 51, 2, 0, 0, 0, nI 51)] [] (pc2 := 37) (ls2 := [some (.ref 43), some (.ref 37)]) (st2 := [.int (nI 51), .int (nI 0), .ref 38, .int (((M.1 43 0) - (nI 1)) * (nI 51)), .ref 44]) (M2 := mput M 43 0 ((M.1 43 0) - (nI 1))) (Ps := []) (by decide +kernel) rfl rfl trivial ?_
    refine G.mem (M' := mrow M 43 (upd (M.1 43) 0 ((M.1 43 0) - (nI 1)))) (by first | rfl | (simp only [mput, mrow_same, mrow_hit, mrow_miss, mrow_sw, idr_eq, ne_eq, Nat.reduceEqDiff, not_false_eq_true, Nat.reduceLT, reduceCtorEq]; done)) ?_
    obtain ⟨k2, k3, hk⟩ := hk
    refine G.copy (s0 := (ix ((M.1 43 0) - (nI 1))) * 51) (p0 := 0) (n := 51) la_EvenFinders_History_33 (by decide +kernel) rfl rfl (nMul (ixE k2) rfl) rfl rfl k3 (by omega) (Nat.le_of_ble_eq_true rfl) ?_
    refine G.mem (M' := mrow (mrow M 38 (va_cpy (M.1 44) (M.1 38) ((ix ((M.1 43 0) - (nI 1))) * 51) 0 51)) 43 (upd (M.1 43) 0 ((M.1 43 0) - (nI 1)))) (by first | rfl | (simp only [mput, mrow_same, mrow_hit, mrow_miss, mrow_sw, idr_eq, ne_eq, Nat.reduceEqDiff, not_false_eq_true, Nat.reduceLT, reduceCtorEq]; done)) ?_
    refine G.sl [(.iconst 1, 1, 0, 0, 0, nI 1)] [] (pc2 := 41) (ls2 := [some (.ref 43), some (.ref 37)]) (st2 := [.int (nI 1)]) (M2 := mrow (mrow M 38 (va_cpy (M.1 44) (M.1 38) ((ix ((M.1 43 0) - (nI 1))) * 51) 0 51)) 43 (upd (M.1 43) 0 ((M.1 43 0) - (nI 1)))) (Ps := []) (by decide +kernel) rfl rfl trivial ?_
    exact G.reti (by decide +kernel) rfl rfl (Nat.le_of_ble_eq_true rfl) (Nat.le_of_ble_eq_true rfl) ((by rw [hQ]; simp only [h_takeWorkBack, if_pos c1, mrow_self]))
  · skip
    rw [if_neg c1] at hk
    refine G.sl [(.iconst 0, 1, 0, 0, 0, nI 0)] [] (pc2 := 8) (ls2 := [some (.ref 43), some (.ref 37)]) (st2 := [.int (nI 0)]) (M2 := M) (Ps := []) (by decide +kernel) rfl rfl trivial ?_
    refine G.mem (M' := mrow (mrow M 38 (M.1 38)) 43 (M.1 43)) ((((mrow_id (N := M) (c := 38) (f := M.1 38) (by first | rfl | (simp only [mput, mrow_same, mrow_hit, mrow_miss, mrow_sw, idr_eq, ne_eq, Nat.reduceEqDiff, not_false_eq_true, Nat.reduceLT, reduceCtorEq]; done))).symm).trans (mrow_id (N := mrow M 38 (M.1 38)) (c := 43) (f := M.1 43) (by first | rfl | (simp only [mput, mrow_same, mrow_hit, mrow_miss, mrow_sw, idr_eq, ne_eq, Nat.reduceEqDiff, not_false_eq_true, Nat.reduceLT, reduceCtorEq]; done))).symm).trans (by first | rfl | (simp only [mput, mrow_same, mrow_hit, mrow_miss, mrow_sw, idr_eq, ne_eq, Nat.reduceEqDiff, not_false_eq_true, Nat.reduceLT, reduceCtorEq]; done))) ?_
    exact G.reti (by decide +kernel) rfl rfl (Nat.le_of_ble_eq_true rfl) (Nat.le_of_ble_eq_true rfl) ((by rw [hQ]; simp only [h_takeWorkBack, if_neg c1, mrow_self]))
theorem h_keepImage_01 (Rrow Rhistory RworkRows RimageRows RimageWorks : Nat → Int32) : (h_keepImage Rrow Rhistory RworkRows RimageRows RimageWorks).1 = 0 ∨ (h_keepImage Rrow Rhistory RworkRows RimageRows RimageWorks).1 = 1 := by
  unfold h_keepImage
  repeat' split
  all_goals first | exact Or.inl rfl | exact Or.inr rfl
set_option maxHeartbeats 4000000 in
set_option maxRecDepth 3000 in
theorem c_h_keepImage_43_37 (z : Zp) (d : Nat) (M : Mem) (hk : h_keepImage_ok (M.1 38) (M.1 43) (M.1 44) (M.1 45) (M.1 46)) : GM z mX2_keepImage (d + 1) [.ref 43, .ref 37] M (fun rs => rs = .inl (some (.int ((h_keepImage (M.1 38) (M.1 43) (M.1 44) (M.1 45) (M.1 46)).1)), mrow (mrow (mrow M 43 ((h_keepImage (M.1 38) (M.1 43) (M.1 44) (M.1 45) (M.1 46)).2.1)) 45 ((h_keepImage (M.1 38) (M.1 43) (M.1 44) (M.1 45) (M.1 46)).2.2.1)) 46 ((h_keepImage (M.1 38) (M.1 43) (M.1 44) (M.1 45) (M.1 46)).2.2.2))) := by
  simp only [h_keepImage_ok] at hk
  refine GM.of oX2_keepImage.1 (Nat.le_of_ble_eq_true rfl) ?_
  show G z mX2_keepImage (d + 1) 0 0 0 [some (.ref 43), some (.ref 37), none] [] M _
  obtain ⟨Q, hQ⟩ : ∃ Q : Rs → Prop, Q = (fun rs => rs = .inl (some (.int ((h_keepImage (M.1 38) (M.1 43) (M.1 44) (M.1 45) (M.1 46)).1)), mrow (mrow (mrow M 43 ((h_keepImage (M.1 38) (M.1 43) (M.1 44) (M.1 45) (M.1 46)).2.1)) 45 ((h_keepImage (M.1 38) (M.1 43) (M.1 44) (M.1 45) (M.1 46)).2.2.1)) 46 ((h_keepImage (M.1 38) (M.1 43) (M.1 44) (M.1 45) (M.1 46)).2.2.2))) := ⟨_, rfl⟩
  rw [← hQ]
  refine G.sl [(.aload_n 0, 1, 0, 0, 0, 0), (.getfield 25, 3, 2, 1, 83, 0), (.iconst 3, 1, 0, 0, 0, nI 3)] [] (pc2 := 5) (ls2 := [some (.ref 43), some (.ref 37), none]) (st2 := [.int (nI 3), .int (M.1 43 1)]) (M2 := M) (Ps := []) (by decide +kernel) rfl rfl trivial ?_
  refine G.ic_lt (off := (5)) (tgt := 10) (by decide +kernel) rfl (fun c1 => ?_) (fun c1 => ?_)
  · skip
    rw [if_pos c1] at hk
    refine G.sl [(.aload_n 0, 1, 0, 0, 0, 0), (.getfield 25, 3, 2, 1, 83, 0), (.sipush 867, 3, 0, 0, 0, nI 867), (.imul, 1, 0, 0, 0, 0), (.istore_n 2, 1, 2, 0, 0, 0), (.aload_n 1, 1, 1, 0, 0, 0), (.getfield 28, 3, 1, 0, 75, 0), (.iconst 0, 1, 0, 0, 0, nI 0), (.aload_n 0, 1, 0, 0, 0, 0), (.getfield 15, 3, 2, 3, 86, 0), (.iload_n 2, 1, 2, 0, 0, 0), (.bipush 51, 2, 0, 0, 0, nI 51)] [] (pc2 := 31) (ls2 := [some (.ref 43), some (.ref 37), some (.int ((M.1 43 1) * (nI 867)))]) (st2 := [.int (nI 51), .int ((M.1 43 1) * (nI 867)), .ref 45, .int (nI 0), .ref 38]) (M2 := M) (Ps := []) (by decide +kernel) rfl rfl trivial ?_
    obtain ⟨k2, k3, hk⟩ := hk
    refine G.copy (s0 := 0) (p0 := (ix (M.1 43 1)) * 867) (n := 51) la_EvenFinders_History_33 (by decide +kernel) rfl rfl rfl (nMul (ixE k2) rfl) rfl (by omega) k3 (Nat.le_of_ble_eq_true rfl) ?_
    refine G.mem (M' := mrow M 45 (va_cpy (M.1 38) (M.1 45) 0 ((ix (M.1 43 1)) * 867) 51)) (by first | rfl | (simp only [mput, mrow_same, mrow_hit, mrow_miss, mrow_sw, idr_eq, ne_eq, Nat.reduceEqDiff, not_false_eq_true, Nat.reduceLT, reduceCtorEq]; done)) ?_
    refine G.sl [(.aload_n 0, 1, 0, 0, 0, 0), (.getfield 9, 3, 2, 2, 85, 0), (.iconst 0, 1, 0, 0, 0, nI 0), (.aload_n 0, 1, 0, 0, 0, 0), (.getfield 15, 3, 2, 3, 86, 0), (.iload_n 2, 1, 2, 0, 0, 0), (.bipush 51, 2, 0, 0, 0, nI 51), (.iadd, 1, 0, 0, 0, 0), (.aload_n 0, 1, 0, 0, 0, 0), (.getfield 21, 3, 2, 0, 81, 0), (.bipush 51, 2, 0, 0, 0, nI 51), (.imul, 1, 0, 0, 0, 0)] [] (pc2 := 54) (ls2 := [some (.ref 43), some (.ref 37), some (.int ((M.1 43 1) * (nI 867)))]) (st2 := [.int ((M.1 43 0) * (nI 51)), .int (((M.1 43 1) * (nI 867)) + (nI 51)), .ref 45, .int (nI 0), .ref 44]) (M2 := mrow M 45 (va_cpy (M.1 38) (M.1 45) 0 ((ix (M.1 43 1)) * 867) 51)) (Ps := []) (by decide +kernel) rfl rfl trivial ?_
    obtain ⟨k4, k5, k6, hk⟩ := hk
    refine G.copy (s0 := 0) (p0 := ((ix (M.1 43 1)) * 867) + 51) (n := (ix (M.1 43 0)) * 51) la_EvenFinders_History_33 (by decide +kernel) rfl rfl rfl (nAdd (nMul (ixE k2) rfl) rfl) (nMul (ixE k4) rfl) k5 k6 (Nat.le_of_ble_eq_true rfl) ?_
    refine G.mem (M' := mrow M 45 (va_cpy (M.1 44) (va_cpy (M.1 38) (M.1 45) 0 ((ix (M.1 43 1)) * 867) 51) 0 (((ix (M.1 43 1)) * 867) + 51) ((ix (M.1 43 0)) * 51))) (by first | rfl | (simp only [mput, mrow_same, mrow_hit, mrow_miss, mrow_sw, idr_eq, ne_eq, Nat.reduceEqDiff, not_false_eq_true, Nat.reduceLT, reduceCtorEq]; done)) ?_
    obtain ⟨k7, hk⟩ := hk
    refine G.sl [(.aload_n 0, 1, 0, 0, 0, 0), (.getfield 18, 3, 2, 4, 87, 0), (.aload_n 0, 1, 0, 0, 0, 0), (.getfield 25, 3, 2, 1, 83, 0), (.aload_n 0, 1, 0, 0, 0, 0), (.getfield 21, 3, 2, 0, 81, 0), (.iastore, 1, 0, 0, 0, 0), (.aload_n 0, 1, 0, 0, 0, 0), (.dup, 1, 0, 0, 0, 0), (.getfield 25, 3, 2, 1, 83, 0), (.iconst 1, 1, 0, 0, 0, nI 1), (.iadd, 1, 0, 0, 0, 0), (.putfield 25, 3, 2, 1, 83, 0), (.iconst 1, 1, 0, 0, 0, nI 1)] [ix (M.1 43 1)] (pc2 := 81) (ls2 := [some (.ref 43), some (.ref 37), some (.int ((M.1 43 1) * (nI 867)))]) (st2 := [.int (nI 1)]) (M2 := mput (mput (mrow M 45 (va_cpy (M.1 44) (va_cpy (M.1 38) (M.1 45) 0 ((ix (M.1 43 1)) * 867) 51) 0 (((ix (M.1 43 1)) * 867) + 51) ((ix (M.1 43 0)) * 51))) 46 (ix (M.1 43 1)) (M.1 43 0)) 43 1 ((M.1 43 1) + (nI 1))) (Ps := [(M.1 43 1) = nI (ix (M.1 43 1)) ∧ (ix (M.1 43 1)) < 3]) (by decide +kernel) rfl rfl ⟨⟨(ixE k2), k7⟩, trivial⟩ ?_
    refine G.mem (M' := mrow (mrow (mrow M 43 (upd (M.1 43) 1 ((M.1 43 1) + (nI 1)))) 45 (va_cpy (M.1 44) (va_cpy (M.1 38) (M.1 45) 0 ((ix (M.1 43 1)) * 867) 51) 0 (((ix (M.1 43 1)) * 867) + 51) ((ix (M.1 43 0)) * 51))) 46 (upd (M.1 46) (ix (M.1 43 1)) (M.1 43 0))) (by first | rfl | (simp only [mput, mrow_same, mrow_hit, mrow_miss, mrow_sw, idr_eq, ne_eq, Nat.reduceEqDiff, not_false_eq_true, Nat.reduceLT, reduceCtorEq]; done)) ?_
    exact G.reti (by decide +kernel) rfl rfl (Nat.le_of_ble_eq_true rfl) (Nat.le_of_ble_eq_true rfl) ((by rw [hQ]; simp only [h_keepImage, if_pos c1, mrow_self]))
  · skip
    rw [if_neg c1] at hk
    refine G.sl [(.iconst 0, 1, 0, 0, 0, nI 0)] [] (pc2 := 9) (ls2 := [some (.ref 43), some (.ref 37), none]) (st2 := [.int (nI 0)]) (M2 := M) (Ps := []) (by decide +kernel) rfl rfl trivial ?_
    refine G.mem (M' := mrow (mrow (mrow M 43 (M.1 43)) 45 (M.1 45)) 46 (M.1 46)) (((((mrow_id (N := M) (c := 43) (f := M.1 43) (by first | rfl | (simp only [mput, mrow_same, mrow_hit, mrow_miss, mrow_sw, idr_eq, ne_eq, Nat.reduceEqDiff, not_false_eq_true, Nat.reduceLT, reduceCtorEq]; done))).symm).trans (mrow_id (N := mrow M 43 (M.1 43)) (c := 45) (f := M.1 45) (by first | rfl | (simp only [mput, mrow_same, mrow_hit, mrow_miss, mrow_sw, idr_eq, ne_eq, Nat.reduceEqDiff, not_false_eq_true, Nat.reduceLT, reduceCtorEq]; done))).symm).trans (mrow_id (N := mrow (mrow M 43 (M.1 43)) 45 (M.1 45)) (c := 46) (f := M.1 46) (by first | rfl | (simp only [mput, mrow_same, mrow_hit, mrow_miss, mrow_sw, idr_eq, ne_eq, Nat.reduceEqDiff, not_false_eq_true, Nat.reduceLT, reduceCtorEq]; done))).symm).trans (by first | rfl | (simp only [mput, mrow_same, mrow_hit, mrow_miss, mrow_sw, idr_eq, ne_eq, Nat.reduceEqDiff, not_false_eq_true, Nat.reduceLT, reduceCtorEq]; done))) ?_
    exact G.reti (by decide +kernel) rfl rfl (Nat.le_of_ble_eq_true rfl) (Nat.le_of_ble_eq_true rfl) ((by rw [hQ]; simp only [h_keepImage, if_neg c1, mrow_self]))
theorem h_takeImageBack_01 (Rrow Rhistory RworkRows RimageRows RimageWorks : Nat → Int32) : (h_takeImageBack Rrow Rhistory RworkRows RimageRows RimageWorks).1 = 0 ∨ (h_takeImageBack Rrow Rhistory RworkRows RimageRows RimageWorks).1 = 1 := by
  unfold h_takeImageBack
  repeat' split
  all_goals first | exact Or.inl rfl | exact Or.inr rfl
set_option maxHeartbeats 4000000 in
set_option maxRecDepth 3000 in
theorem c_h_takeImageBack_43_37 (z : Zp) (d : Nat) (M : Mem) (hk : h_takeImageBack_ok (M.1 38) (M.1 43) (M.1 44) (M.1 45) (M.1 46)) : GM z mX2_takeImageBack (d + 1) [.ref 43, .ref 37] M (fun rs => rs = .inl (some (.int ((h_takeImageBack (M.1 38) (M.1 43) (M.1 44) (M.1 45) (M.1 46)).1)), mrow (mrow (mrow M 38 ((h_takeImageBack (M.1 38) (M.1 43) (M.1 44) (M.1 45) (M.1 46)).2.1)) 43 ((h_takeImageBack (M.1 38) (M.1 43) (M.1 44) (M.1 45) (M.1 46)).2.2.1)) 44 ((h_takeImageBack (M.1 38) (M.1 43) (M.1 44) (M.1 45) (M.1 46)).2.2.2))) := by
  simp only [h_takeImageBack_ok] at hk
  refine GM.of oX2_takeImageBack.1 (Nat.le_of_ble_eq_true rfl) ?_
  show G z mX2_takeImageBack (d + 1) 0 0 0 [some (.ref 43), some (.ref 37), none] [] M _
  obtain ⟨Q, hQ⟩ : ∃ Q : Rs → Prop, Q = (fun rs => rs = .inl (some (.int ((h_takeImageBack (M.1 38) (M.1 43) (M.1 44) (M.1 45) (M.1 46)).1)), mrow (mrow (mrow M 38 ((h_takeImageBack (M.1 38) (M.1 43) (M.1 44) (M.1 45) (M.1 46)).2.1)) 43 ((h_takeImageBack (M.1 38) (M.1 43) (M.1 44) (M.1 45) (M.1 46)).2.2.1)) 44 ((h_takeImageBack (M.1 38) (M.1 43) (M.1 44) (M.1 45) (M.1 46)).2.2.2))) := ⟨_, rfl⟩
  rw [← hQ]
  refine G.sl [(.aload_n 0, 1, 0, 0, 0, 0), (.getfield 25, 3, 2, 1, 83, 0)] [] (pc2 := 4) (ls2 := [some (.ref 43), some (.ref 37), none]) (st2 := [.int (M.1 43 1)]) (M2 := M) (Ps := []) (by decide +kernel) rfl rfl trivial ?_
  refine G.if_gt (off := (5)) (tgt := 9) (by decide +kernel) rfl (fun c1 => ?_) (fun c1 => ?_)
  · skip
    rw [if_pos c1] at hk
    obtain ⟨k2, k3, hk⟩ := hk
    refine G.sl [(.aload_n 0, 1, 0, 0, 0, 0), (.dup, 1, 0, 0, 0, 0), (.getfield 25, 3, 2, 1, 83, 0), (.iconst 1, 1, 0, 0, 0, nI 1), (.isub, 1, 0, 0, 0, 0), (.putfield 25, 3, 2, 1, 83, 0), (.aload_n 0, 1, 0, 0, 0, 0), (.getfield 25, 3, 2, 1, 83, 0), (.sipush 867, 3, 0, 0, 0, nI 867), (.imul, 1, 0, 0, 0, 0), (.istore_n 2, 1, 2, 0, 0, 0), (.aload_n 0, 1, 0, 0, 0, 0), (.aload_n 0, 1, 0, 0, 0, 0), (.getfield 18, 3, 2, 4, 87, 0), (.aload_n 0, 1, 0, 0, 0, 0), (.getfield 25, 3, 2, 1, 83, 0), (.iaload, 1, 0, 0, 0, 0), (.putfield 21, 3, 2, 0, 81, 0), (.aload_n 0, 1, 0, 0, 0, 0), (.getfield 15, 3, 2, 3, 86, 0), (.iload_n 2, 1, 2, 0, 0, 0), (.aload_n 1, 1, 1, 0, 0, 0), (.getfield 28, 3, 1, 0, 75, 0), (.iconst 0, 1, 0, 0, 0, nI 0), (.bipush 51, 2, 0, 0, 0, nI 51)] [ix ((M.1 43 1) - (nI 1))] (pc2 := 53) (ls2 := [some (.ref 43), some (.ref 37), some (.int (((M.1 43 1) - (nI 1)) * (nI 867)))]) (st2 := [.int (nI 51), .int (nI 0), .ref 38, .int (((M.1 43 1) - (nI 1)) * (nI 867)), .ref 45]) (M2 := mput (mput M 43 1 ((M.1 43 1) - (nI 1))) 43 0 (M.1 46 (ix ((M.1 43 1) - (nI 1))))) (Ps := [((M.1 43 1) - (nI 1)) = nI (ix ((M.1 43 1) - (nI 1))) ∧ (ix ((M.1 43 1) - (nI 1))) < 3]) (by decide +kernel) rfl rfl ⟨⟨(ixE k2), k3⟩, trivial⟩ ?_
    refine G.mem (M' := mrow M 43 (upd (upd (M.1 43) 1 ((M.1 43 1) - (nI 1))) 0 (M.1 46 (ix ((M.1 43 1) - (nI 1)))))) (by first | rfl | (simp only [mput, mrow_same, mrow_hit, mrow_miss, mrow_sw, idr_eq, ne_eq, Nat.reduceEqDiff, not_false_eq_true, Nat.reduceLT, reduceCtorEq]; done)) ?_
    obtain ⟨k4, hk⟩ := hk
    refine G.copy (s0 := (ix ((M.1 43 1) - (nI 1))) * 867) (p0 := 0) (n := 51) la_EvenFinders_History_33 (by decide +kernel) rfl rfl (nMul (ixE k2) rfl) rfl rfl k4 (by omega) (Nat.le_of_ble_eq_true rfl) ?_
    refine G.mem (M' := mrow (mrow M 38 (va_cpy (M.1 45) (M.1 38) ((ix ((M.1 43 1) - (nI 1))) * 867) 0 51)) 43 (upd (upd (M.1 43) 1 ((M.1 43 1) - (nI 1))) 0 (M.1 46 (ix ((M.1 43 1) - (nI 1)))))) (by first | rfl | (simp only [mput, mrow_same, mrow_hit, mrow_miss, mrow_sw, idr_eq, ne_eq, Nat.reduceEqDiff, not_false_eq_true, Nat.reduceLT, reduceCtorEq]; done)) ?_
    refine G.sl [(.aload_n 0, 1, 0, 0, 0, 0), (.getfield 15, 3, 2, 3, 86, 0), (.iload_n 2, 1, 2, 0, 0, 0), (.bipush 51, 2, 0, 0, 0, nI 51), (.iadd, 1, 0, 0, 0, 0), (.aload_n 0, 1, 0, 0, 0, 0), (.getfield 9, 3, 2, 2, 85, 0), (.iconst 0, 1, 0, 0, 0, nI 0), (.aload_n 0, 1, 0, 0, 0, 0), (.getfield 21, 3, 2, 0, 81, 0), (.bipush 51, 2, 0, 0, 0, nI 51), (.imul, 1, 0, 0, 0, 0)] [] (pc2 := 76) (ls2 := [some (.ref 43), some (.ref 37), some (.int (((M.1 43 1) - (nI 1)) * (nI 867)))]) (st2 := [.int ((M.1 46 (ix ((M.1 43 1) - (nI 1)))) * (nI 51)), .int (nI 0), .ref 44, .int ((((M.1 43 1) - (nI 1)) * (nI 867)) + (nI 51)), .ref 45]) (M2 := mrow (mrow M 38 (va_cpy (M.1 45) (M.1 38) ((ix ((M.1 43 1) - (nI 1))) * 867) 0 51)) 43 (upd (upd (M.1 43) 1 ((M.1 43 1) - (nI 1))) 0 (M.1 46 (ix ((M.1 43 1) - (nI 1)))))) (Ps := []) (by decide +kernel) rfl rfl trivial ?_
    obtain ⟨k5, k6, k7, hk⟩ := hk
    refine G.copy (s0 := ((ix ((M.1 43 1) - (nI 1))) * 867) + 51) (p0 := 0) (n := (ix (M.1 46 (ix ((M.1 43 1) - (nI 1))))) * 51) la_EvenFinders_History_33 (by decide +kernel) rfl rfl (nAdd (nMul (ixE k2) rfl) rfl) rfl (nMul (ixE k5) rfl) k6 k7 (Nat.le_of_ble_eq_true rfl) ?_
    refine G.mem (M' := mrow (mrow (mrow M 38 (va_cpy (M.1 45) (M.1 38) ((ix ((M.1 43 1) - (nI 1))) * 867) 0 51)) 43 (upd (upd (M.1 43) 1 ((M.1 43 1) - (nI 1))) 0 (M.1 46 (ix ((M.1 43 1) - (nI 1)))))) 44 (va_cpy (M.1 45) (M.1 44) (((ix ((M.1 43 1) - (nI 1))) * 867) + 51) 0 ((ix (M.1 46 (ix ((M.1 43 1) - (nI 1))))) * 51))) (by first | rfl | (simp only [mput, mrow_same, mrow_hit, mrow_miss, mrow_sw, idr_eq, ne_eq, Nat.reduceEqDiff, not_false_eq_true, Nat.reduceLT, reduceCtorEq]; done)) ?_
    refine G.sl [(.iconst 1, 1, 0, 0, 0, nI 1)] [] (pc2 := 80) (ls2 := [some (.ref 43), some (.ref 37), some (.int (((M.1 43 1) - (nI 1)) * (nI 867)))]) (st2 := [.int (nI 1)]) (M2 := mrow (mrow (mrow M 38 (va_cpy (M.1 45) (M.1 38) ((ix ((M.1 43 1) - (nI 1))) * 867) 0 51)) 43 (upd (upd (M.1 43) 1 ((M.1 43 1) - (nI 1))) 0 (M.1 46 (ix ((M.1 43 1) - (nI 1)))))) 44 (va_cpy (M.1 45) (M.1 44) (((ix ((M.1 43 1) - (nI 1))) * 867) + 51) 0 ((ix (M.1 46 (ix ((M.1 43 1) - (nI 1))))) * 51))) (Ps := []) (by decide +kernel) rfl rfl trivial ?_
    exact G.reti (by decide +kernel) rfl rfl (Nat.le_of_ble_eq_true rfl) (Nat.le_of_ble_eq_true rfl) ((by rw [hQ]; simp only [h_takeImageBack, if_pos c1, mrow_self]))
  · skip
    rw [if_neg c1] at hk
    refine G.sl [(.iconst 0, 1, 0, 0, 0, nI 0)] [] (pc2 := 8) (ls2 := [some (.ref 43), some (.ref 37), none]) (st2 := [.int (nI 0)]) (M2 := M) (Ps := []) (by decide +kernel) rfl rfl trivial ?_
    refine G.mem (M' := mrow (mrow (mrow M 38 (M.1 38)) 43 (M.1 43)) 44 (M.1 44)) (((((mrow_id (N := M) (c := 38) (f := M.1 38) (by first | rfl | (simp only [mput, mrow_same, mrow_hit, mrow_miss, mrow_sw, idr_eq, ne_eq, Nat.reduceEqDiff, not_false_eq_true, Nat.reduceLT, reduceCtorEq]; done))).symm).trans (mrow_id (N := mrow M 38 (M.1 38)) (c := 43) (f := M.1 43) (by first | rfl | (simp only [mput, mrow_same, mrow_hit, mrow_miss, mrow_sw, idr_eq, ne_eq, Nat.reduceEqDiff, not_false_eq_true, Nat.reduceLT, reduceCtorEq]; done))).symm).trans (mrow_id (N := mrow (mrow M 38 (M.1 38)) 43 (M.1 43)) (c := 44) (f := M.1 44) (by first | rfl | (simp only [mput, mrow_same, mrow_hit, mrow_miss, mrow_sw, idr_eq, ne_eq, Nat.reduceEqDiff, not_false_eq_true, Nat.reduceLT, reduceCtorEq]; done))).symm).trans (by first | rfl | (simp only [mput, mrow_same, mrow_hit, mrow_miss, mrow_sw, idr_eq, ne_eq, Nat.reduceEqDiff, not_false_eq_true, Nat.reduceLT, reduceCtorEq]; done))) ?_
    exact G.reti (by decide +kernel) rfl rfl (Nat.le_of_ble_eq_true rfl) (Nat.le_of_ble_eq_true rfl) ((by rw [hQ]; simp only [h_takeImageBack, if_neg c1, mrow_self]))
set_option maxHeartbeats 4000000 in
set_option maxRecDepth 3000 in
theorem c_v_farFrom_3 (z : Zp) (d : Nat) (M : Mem) (n1 : Nat) (n2 : Nat) (b1 : n1 < 8) (b2 : n2 < 8) : GM z mX7_farFrom (d) [.ref 3, .int (nI n1), .int (nI n2)] M (fun rs => rs = .inl (some (.int (v_farFrom (M.1 11) n1 n2)), M)) := by
  refine GM.of oX7_farFrom.1 (Nat.le_of_ble_eq_true rfl) ?_
  show G z mX7_farFrom (d) 0 0 0 [some (.ref 3), some (.int (nI n1)), some (.int (nI n2)), none] [] M _
  obtain ⟨Q, hQ⟩ : ∃ Q : Rs → Prop, Q = (fun rs => rs = .inl (some (.int (v_farFrom (M.1 11) n1 n2)), M)) := ⟨_, rfl⟩
  rw [← hQ]
  refine G.sl [(.aload_n 0, 1, 0, 0, 0, 0), (.getfield 33, 3, 6, 11, 52, 0), (.iload_n 1, 1, 1, 0, 0, 0), (.bipush 8, 2, 0, 0, 0, nI 8), (.imul, 1, 0, 0, 0, 0), (.iload_n 2, 1, 2, 0, 0, 0), (.iadd, 1, 0, 0, 0, 0), (.iaload, 1, 0, 0, 0, 0), (.istore_n 3, 1, 3, 0, 0, 0), (.iload_n 3, 1, 3, 0, 0, 0), (.sipush 1000, 3, 0, 0, 0, nI 1000)] [(n1 * 8) + n2] (pc2 := 16) (ls2 := [some (.ref 3), some (.int (nI n1)), some (.int (nI n2)), some (.int (M.1 11 ((n1 * 8) + n2)))]) (st2 := [.int (nI 1000), .int (M.1 11 ((n1 * 8) + n2))]) (M2 := M) (Ps := [(((nI n1) * (nI 8)) + (nI n2)) = nI ((n1 * 8) + n2) ∧ ((n1 * 8) + n2) < 64]) (by decide +kernel) rfl rfl ⟨⟨(nAdd (pk_mul _ _) rfl), (by omega)⟩, trivial⟩ ?_
  refine G.ic_ge (off := (7)) (tgt := 23) (by decide +kernel) rfl (fun c1 => ?_) (fun c1 => ?_)
  · skip
    refine G.sl [(.iconst (-1), 1, 0, 0, 0, (-1))] [] (pc2 := 24) (ls2 := [some (.ref 3), some (.int (nI n1)), some (.int (nI n2)), some (.int (M.1 11 ((n1 * 8) + n2)))]) (st2 := [.int ((-1))]) (M2 := M) (Ps := []) (by decide +kernel) rfl rfl trivial ?_
    exact G.reti (by decide +kernel) rfl rfl (Nat.le_of_ble_eq_true rfl) (Nat.le_of_ble_eq_true rfl) ((by rw [hQ]; simp only [v_farFrom, if_pos c1, mrow_self]))
  · skip
    refine G.sl [(.iload_n 3, 1, 3, 0, 0, 0), (.goto 4, 3, 24, 0, 0, 0)] [] (pc2 := 24) (ls2 := [some (.ref 3), some (.int (nI n1)), some (.int (nI n2)), some (.int (M.1 11 ((n1 * 8) + n2)))]) (st2 := [.int (M.1 11 ((n1 * 8) + n2))]) (M2 := M) (Ps := []) (by decide +kernel) rfl rfl trivial ?_
    exact G.reti (by decide +kernel) rfl rfl (Nat.le_of_ble_eq_true rfl) (Nat.le_of_ble_eq_true rfl) ((by rw [hQ]; simp only [v_farFrom, if_neg c1, mrow_self]))
set_option maxHeartbeats 4000000 in
set_option maxRecDepth 3000 in
theorem c_w_wayTo_47 (z : Zp) (d : Nat) (M : Mem) (n1 : Nat) (n2 : Nat) (b1 : n1 < 6) (b2 : n2 < 10) (hk : w_wayTo_ok (M.1 11) (M.1 38) n1 n2) : GM z mX8_wayTo (d + 1) [.ref 47, .int (nI n1), .int (nI n2)] M (fun rs => rs = .inl (some (.int (w_wayTo (M.1 11) (M.1 38) n1 n2)), M)) := by
  simp only [w_wayTo_ok] at hk
  refine GM.of oX8_wayTo.1 (Nat.le_of_ble_eq_true rfl) ?_
  show G z mX8_wayTo (d + 1) 0 0 0 [some (.ref 47), some (.int (nI n1)), some (.int (nI n2)), none] [] M _
  obtain ⟨Q, hQ⟩ : ∃ Q : Rs → Prop, Q = (fun rs => rs = .inl (some (.int (w_wayTo (M.1 11) (M.1 38) n1 n2)), M)) := ⟨_, rfl⟩
  rw [← hQ]
  refine G.sl [(.aload_n 0, 1, 0, 0, 0, 0), (.getfield 19, 3, 7, 1, 89, 0), (.getfield 23, 3, 1, 0, 74, 0), (.bipush 31, 2, 0, 0, 0, nI 31), (.iload_n 2, 1, 2, 0, 0, 0), (.iadd, 1, 0, 0, 0, 0), (.iaload, 1, 0, 0, 0, 0), (.istore_n 3, 1, 3, 0, 0, 0), (.iload_n 3, 1, 3, 0, 0, 0), (.iconst (-1), 1, 0, 0, 0, (-1))] [31 + n2] (pc2 := 15) (ls2 := [some (.ref 47), some (.int (nI n1)), some (.int (nI n2)), some (.int (M.1 38 (31 + n2)))]) (st2 := [.int ((-1)), .int (M.1 38 (31 + n2))]) (M2 := M) (Ps := [((nI 31) + (nI n2)) = nI (31 + n2) ∧ (31 + n2) < 51]) (by decide +kernel) rfl rfl ⟨⟨(nI_add _ _), (by omega)⟩, trivial⟩ ?_
  refine G.ic_ne (off := (7)) (tgt := 22) (by decide +kernel) rfl (fun c1 => ?_) (fun c1 => ?_)
  · skip
    rw [if_neg c1] at hk
    refine G.sl [(.aload_n 0, 1, 0, 0, 0, 0), (.getfield 15, 3, 7, 0, 88, 0), (.aload_n 0, 1, 0, 0, 0, 0), (.getfield 19, 3, 7, 1, 89, 0), (.getfield 23, 3, 1, 0, 74, 0), (.iconst 1, 1, 0, 0, 0, nI 1), (.iload_n 1, 1, 1, 0, 0, 0), (.iadd, 1, 0, 0, 0, 0), (.iaload, 1, 0, 0, 0, 0), (.iload_n 3, 1, 3, 0, 0, 0)] [1 + n1] (pc2 := 38) (ls2 := [some (.ref 47), some (.int (nI n1)), some (.int (nI n2)), some (.int (M.1 38 (31 + n2)))]) (st2 := [.int (M.1 38 (31 + n2)), .int (M.1 38 (1 + n1)), .ref 3]) (M2 := M) (Ps := [((nI 1) + (nI n1)) = nI (1 + n1) ∧ (1 + n1) < 51]) (by decide +kernel) rfl rfl ⟨⟨(nI_add _ _), (by omega)⟩, trivial⟩ ?_
    obtain ⟨k2, k3, k4, k5, hk⟩ := hk
    refine G.eq (st' := [.int (nI (ix (M.1 38 (31 + n2)))), .int (nI (ix (M.1 38 (1 + n1)))), .ref 3]) ?_ rfl (by rw [← (show M.1 38 (1 + n1) = nI (ix (M.1 38 (1 + n1))) from (ixE k2)), ← (show M.1 38 (31 + n2) = nI (ix (M.1 38 (31 + n2))) from (ixE k4))]) rfl
    have t7 : GM z mX7_farFrom (d) [.ref 3, .int (nI (ix (M.1 38 (1 + n1)))), .int (nI (ix (M.1 38 (31 + n2))))] M (fun rs => rs = .inl (some (.int (v_farFrom (M.1 11) (ix (M.1 38 (1 + n1))) (ix (M.1 38 (31 + n2))))), M)) := by
      have q9 := c_v_farFrom_3 z d M (ix (M.1 38 (1 + n1))) (ix (M.1 38 (31 + n2))) k3 k5
      try simp only [mput, mrow_same, mrow_hit, mrow_miss, mrow_sw, idr_eq, ne_eq, Nat.reduceEqDiff, not_false_eq_true, Nat.reduceLT, reduceCtorEq] at q9
      exact q9
    refine G.callV (as := [.int (nI (ix (M.1 38 (1 + n1)))), .int (nI (ix (M.1 38 (31 + n2))))]) (rest := []) (a := 3) oX7_farFrom lk_EvenFinders_Ways_28 (by decide +kernel) rfl rfl ⟨rfl, rfl⟩ (Nat.le_of_ble_eq_true rfl) rfl ⟨Nat.le_of_ble_eq_true rfl, Nat.le_of_ble_eq_true rfl⟩ t7 (fun v9 N9 h8 => ?_) (fun E9 N9 h8 => by cases h8)
    cases h8
    show G z mX8_wayTo (d + 1) 0 0 41 [some (.ref 47), some (.int (nI n1)), some (.int (nI n2)), some (.int (M.1 38 (31 + n2)))] [.int (v_farFrom (M.1 11) (ix (M.1 38 (1 + n1))) (ix (M.1 38 (31 + n2))))] M Q
    exact G.reti (by decide +kernel) rfl rfl (Nat.le_of_ble_eq_true rfl) (Nat.le_of_ble_eq_true rfl) ((by rw [hQ]; simp only [w_wayTo, if_neg c1, mrow_self]))
  · skip
    rw [if_pos c1] at hk
    refine G.sl [(.iconst (-1), 1, 0, 0, 0, (-1)), (.goto 22, 3, 41, 0, 0, 0)] [] (pc2 := 41) (ls2 := [some (.ref 47), some (.int (nI n1)), some (.int (nI n2)), some (.int (M.1 38 (31 + n2)))]) (st2 := [.int ((-1))]) (M2 := M) (Ps := []) (by decide +kernel) rfl rfl trivial ?_
    exact G.reti (by decide +kernel) rfl rfl (Nat.le_of_ble_eq_true rfl) (Nat.le_of_ble_eq_true rfl) ((by rw [hQ]; simp only [w_wayTo, if_pos c1, mrow_self]))
set_option maxHeartbeats 4000000 in
set_option maxRecDepth 3000 in
theorem lp_w_nearestThing_47_8 (z : Zp) (d : Nat) (M : Mem) (Q : Rs → Prop) (n1 : Nat) (nt : Nat) (hnt : nt ≤ 10) (ht : M.1 3 2 = nI nt) (b1 : n1 < 6) (hk : ∀ i4, i4 < nt → w_nearestThing_8_ok (M.1 11) (M.1 38) n1 i4) (hX : G z mX8_nearestThing (d + 2) 0 0 53 [none, none, some (.int ((w_nearestThing_8 (M.1 11) (M.1 38) n1 nt).1)), none, none, none] [] M Q) : G z mX8_nearestThing (d + 2) 0 0 8 [some (.ref 47), some (.int (nI n1)), some (.int ((-1))), some (.int (nI 1000000)), some (.int (nI 0)), none] [] M Q := by
  refine down (n := nt) (P := fun i4 => G z mX8_nearestThing (d + 2) 0 0 8 [some (.ref 47), some (.int (nI n1)), some (.int ((w_nearestThing_8 (M.1 11) (M.1 38) n1 i4).1)), some (.int ((w_nearestThing_8 (M.1 11) (M.1 38) n1 i4).2)), some (.int (nI i4)), none] [] M Q) ?_ ?_ 0 (Nat.zero_le _)
  · skip
    refine G.sl [(.iload 4, 2, 4, 0, 0, 0), (.aload_n 0, 1, 0, 0, 0, 0), (.getfield 15, 3, 7, 0, 88, 0), (.getfield 35, 3, 6, 2, 25, 0)] [] (pc2 := 17) (ls2 := [some (.ref 47), some (.int (nI n1)), some (.int ((w_nearestThing_8 (M.1 11) (M.1 38) n1 nt).1)), some (.int ((w_nearestThing_8 (M.1 11) (M.1 38) n1 nt).2)), some (.int (nI nt)), none]) (st2 := [.int (M.1 3 2), .int (nI nt)]) (M2 := M) (Ps := []) (by decide +kernel) rfl rfl trivial ?_
    rw [ht]
    refine G.ic_ge (off := (36)) (tgt := 53) (by decide +kernel) rfl (fun _ => ?_) (fun h9 => absurd (nI_le (by omega) (by omega)) h9)
    refine G.loc (ls2 := [none, none, some (.int ((w_nearestThing_8 (M.1 11) (M.1 38) n1 nt).1)), none, none, none]) (by simp [subL]) ?_
    exact hX
  · skip
    intro i4 hi ih
    have hk := hk i4 hi
    simp only [w_nearestThing_8_ok] at hk
    rcases g1 : w_nearestThing_8 (M.1 11) (M.1 38) n1 i4 with ⟨s2, s3⟩
    try simp only [g1] at hk
    try simp only [g1]
    show G z mX8_nearestThing (d + 2) 0 0 8 [some (.ref 47), some (.int (nI n1)), some (.int s2), some (.int s3), some (.int (nI i4)), none] [] M Q
    refine G.sl [(.iload 4, 2, 4, 0, 0, 0), (.aload_n 0, 1, 0, 0, 0, 0), (.getfield 15, 3, 7, 0, 88, 0), (.getfield 35, 3, 6, 2, 25, 0)] [] (pc2 := 17) (ls2 := [some (.ref 47), some (.int (nI n1)), some (.int s2), some (.int s3), some (.int (nI i4)), none]) (st2 := [.int (M.1 3 2), .int (nI i4)]) (M2 := M) (Ps := []) (by decide +kernel) rfl rfl trivial ?_
    rw [ht]
    refine G.ic_ge (off := (36)) (tgt := 53) (by decide +kernel) rfl (fun h9 => absurd h9 (nI_ge (by omega) (by omega))) (fun _ => ?_)
    refine G.sl [(.aload_n 0, 1, 0, 0, 0, 0), (.iload_n 1, 1, 1, 0, 0, 0), (.iload 4, 2, 4, 0, 0, 0)] [] (pc2 := 24) (ls2 := [some (.ref 47), some (.int (nI n1)), some (.int s2), some (.int s3), some (.int (nI i4)), none]) (st2 := [.int (nI i4), .int (nI n1), .ref 47]) (M2 := M) (Ps := []) (by decide +kernel) rfl rfl trivial ?_
    obtain ⟨k2, hk⟩ := hk
    have t3 : GM z mX8_wayTo (d + 1) [.ref 47, .int (nI n1), .int (nI i4)] M (fun rs => rs = .inl (some (.int (w_wayTo (M.1 11) (M.1 38) n1 i4)), M)) := by
      have q9 := c_w_wayTo_47 z d M n1 i4 (by omega) (by omega) k2
      try simp only [mput, mrow_same, mrow_hit, mrow_miss, mrow_sw, idr_eq, ne_eq, Nat.reduceEqDiff, not_false_eq_true, Nat.reduceLT, reduceCtorEq] at q9
      exact q9
    refine G.callV (as := [.int (nI n1), .int (nI i4)]) (rest := []) (a := 47) oX8_wayTo lk_EvenFinders_Ways_39 (by decide +kernel) rfl rfl ⟨rfl, rfl⟩ (Nat.le_of_ble_eq_true rfl) rfl ⟨Nat.le_of_ble_eq_true rfl, Nat.le_of_ble_eq_true rfl⟩ t3 (fun v9 N9 h4 => ?_) (fun E9 N9 h4 => by cases h4)
    cases h4
    show G z mX8_nearestThing (d + 2) 0 0 27 [some (.ref 47), some (.int (nI n1)), some (.int s2), some (.int s3), some (.int (nI i4)), none] [.int (w_wayTo (M.1 11) (M.1 38) n1 i4)] M Q
    refine G.sl [(.istore 5, 2, 5, 0, 0, 0), (.iload 5, 2, 5, 0, 0, 0), (.iconst (-1), 1, 0, 0, 0, (-1))] [] (pc2 := 32) (ls2 := [some (.ref 47), some (.int (nI n1)), some (.int s2), some (.int s3), some (.int (nI i4)), some (.int (w_wayTo (M.1 11) (M.1 38) n1 i4))]) (st2 := [.int ((-1)), .int (w_wayTo (M.1 11) (M.1 38) n1 i4)]) (M2 := M) (Ps := []) (by decide +kernel) rfl rfl trivial ?_
    refine G.ic_eq (off := (15)) (tgt := 47) (by decide +kernel) rfl (fun c5 => ?_) (fun c5 => ?_)
    · skip
      refine G.sl [(.iinc 4 1, 3, 4, 0, 0, nI 1), (.goto (-42), 3, 8, 0, 0, 0)] [] (pc2 := 8) (ls2 := [some (.ref 47), some (.int (nI n1)), some (.int s2), some (.int s3), some (.int ((nI i4) + nI 1)), some (.int (w_wayTo (M.1 11) (M.1 38) n1 i4))]) (st2 := []) (M2 := M) (Ps := []) (by decide +kernel) rfl rfl trivial ?_
      refine G.loc (ls2 := [some (.ref 47), some (.int (nI n1)), some (.int s2), some (.int s3), some (.int ((nI i4) + nI 1)), none]) (by simp [subL]) ?_
      rw [nI_add i4 1]
      simp only [w_nearestThing_8, g1, if_pos c5] at ih
      exact ih
    · skip
      refine G.sl [(.iload 5, 2, 5, 0, 0, 0), (.iload_n 3, 1, 3, 0, 0, 0)] [] (pc2 := 38) (ls2 := [some (.ref 47), some (.int (nI n1)), some (.int s2), some (.int s3), some (.int (nI i4)), some (.int (w_wayTo (M.1 11) (M.1 38) n1 i4))]) (st2 := [.int s3, .int (w_wayTo (M.1 11) (M.1 38) n1 i4)]) (M2 := M) (Ps := []) (by decide +kernel) rfl rfl trivial ?_
      refine G.ic_ge (off := (9)) (tgt := 47) (by decide +kernel) rfl (fun c6 => ?_) (fun c6 => ?_)
      · skip
        refine G.sl [(.iinc 4 1, 3, 4, 0, 0, nI 1), (.goto (-42), 3, 8, 0, 0, 0)] [] (pc2 := 8) (ls2 := [some (.ref 47), some (.int (nI n1)), some (.int s2), some (.int s3), some (.int ((nI i4) + nI 1)), some (.int (w_wayTo (M.1 11) (M.1 38) n1 i4))]) (st2 := []) (M2 := M) (Ps := []) (by decide +kernel) rfl rfl trivial ?_
        refine G.loc (ls2 := [some (.ref 47), some (.int (nI n1)), some (.int s2), some (.int s3), some (.int ((nI i4) + nI 1)), none]) (by simp [subL]) ?_
        rw [nI_add i4 1]
        simp only [w_nearestThing_8, g1, if_neg c5, if_pos c6] at ih
        exact ih
      · skip
        refine G.sl [(.iload 4, 2, 4, 0, 0, 0), (.istore_n 2, 1, 2, 0, 0, 0), (.iload 5, 2, 5, 0, 0, 0), (.istore_n 3, 1, 3, 0, 0, 0), (.iinc 4 1, 3, 4, 0, 0, nI 1), (.goto (-42), 3, 8, 0, 0, 0)] [] (pc2 := 8) (ls2 := [some (.ref 47), some (.int (nI n1)), some (.int (nI i4)), some (.int (w_wayTo (M.1 11) (M.1 38) n1 i4)), some (.int ((nI i4) + nI 1)), some (.int (w_wayTo (M.1 11) (M.1 38) n1 i4))]) (st2 := []) (M2 := M) (Ps := []) (by decide +kernel) rfl rfl trivial ?_
        refine G.loc (ls2 := [some (.ref 47), some (.int (nI n1)), some (.int (nI i4)), some (.int (w_wayTo (M.1 11) (M.1 38) n1 i4)), some (.int ((nI i4) + nI 1)), none]) (by simp [subL]) ?_
        rw [nI_add i4 1]
        simp only [w_nearestThing_8, g1, if_neg c5, if_neg c6] at ih
        exact ih
set_option maxHeartbeats 4000000 in
set_option maxRecDepth 3000 in
theorem c_w_nearestThing_47 (z : Zp) (d : Nat) (M : Mem) (n1 : Nat) (nt : Nat) (hnt : nt ≤ 10) (ht : M.1 3 2 = nI nt) (b1 : n1 < 6) (hk : w_nearestThing_ok (M.1 11) (M.1 38) nt n1) : GM z mX8_nearestThing (d + 2) [.ref 47, .int (nI n1)] M (fun rs => rs = .inl (some (.int (w_nearestThing (M.1 11) (M.1 38) nt n1)), M)) := by
  simp only [w_nearestThing_ok] at hk
  refine GM.of oX8_nearestThing.1 (Nat.le_of_ble_eq_true rfl) ?_
  show G z mX8_nearestThing (d + 2) 0 0 0 [some (.ref 47), some (.int (nI n1)), none, none, none, none] [] M _
  obtain ⟨Q, hQ⟩ : ∃ Q : Rs → Prop, Q = (fun rs => rs = .inl (some (.int (w_nearestThing (M.1 11) (M.1 38) nt n1)), M)) := ⟨_, rfl⟩
  rw [← hQ]
  refine G.sl [(.iconst (-1), 1, 0, 0, 0, (-1)), (.istore_n 2, 1, 2, 0, 0, 0), (.ldc 34, 2, 0, 0, 3, nI 1000000), (.istore_n 3, 1, 3, 0, 0, 0), (.iconst 0, 1, 0, 0, 0, nI 0), (.istore 4, 2, 4, 0, 0, 0)] [] (pc2 := 8) (ls2 := [some (.ref 47), some (.int (nI n1)), some (.int ((-1))), some (.int (nI 1000000)), some (.int (nI 0)), none]) (st2 := []) (M2 := M) (Ps := []) (by decide +kernel) rfl rfl trivial ?_
  obtain ⟨k7, hk⟩ := hk
  refine lp_w_nearestThing_47_8 z d M Q n1 nt hnt ht (by omega) (by first | (simp only [mput, mrow_same, mrow_hit, mrow_miss, mrow_sw, idr_eq, ne_eq, Nat.reduceEqDiff, not_false_eq_true, Nat.reduceLT, reduceCtorEq]; exact k7) | exact k7) ?_
  try simp only [mput, mrow_same, mrow_hit, mrow_miss, mrow_sw, idr_eq, ne_eq, Nat.reduceEqDiff, not_false_eq_true, Nat.reduceLT, reduceCtorEq]
  rcases g8 : w_nearestThing_8 (M.1 11) (M.1 38) n1 nt with ⟨v9, v10⟩
  show G z mX8_nearestThing (d + 2) 0 0 53 [none, none, some (.int v9), none, none, none] [] M Q
  refine G.sl [(.iload_n 2, 1, 2, 0, 0, 0)] [] (pc2 := 54) (ls2 := [none, none, some (.int v9), none, none, none]) (st2 := [.int v9]) (M2 := M) (Ps := []) (by decide +kernel) rfl rfl trivial ?_
  exact G.reti (by decide +kernel) rfl rfl (Nat.le_of_ble_eq_true rfl) (Nat.le_of_ble_eq_true rfl) ((by rw [hQ]; simp only [w_nearestThing, g8, mrow_self]))
set_option maxHeartbeats 4000000 in
set_option maxRecDepth 3000 in
theorem lp_w_inReach_47_4 (z : Zp) (d : Nat) (M : Mem) (Q : Rs → Prop) (n1 : Nat) (nt : Nat) (hnt : nt ≤ 10) (ht : M.1 3 2 = nI nt) (b1 : n1 < 6) (hk : ∀ i3, i3 < nt → w_inReach_4_ok (M.1 11) (M.1 38) n1 i3) (hX : G z mX8_inReach (d + 2) 0 0 61 [none, none, some (.int (w_inReach_4 (M.1 11) (M.1 38) n1 nt)), none, none] [] M Q) : G z mX8_inReach (d + 2) 0 0 4 [some (.ref 47), some (.int (nI n1)), some (.int (nI 0)), some (.int (nI 0)), none] [] M Q := by
  refine down (n := nt) (P := fun i3 => G z mX8_inReach (d + 2) 0 0 4 [some (.ref 47), some (.int (nI n1)), some (.int (w_inReach_4 (M.1 11) (M.1 38) n1 i3)), some (.int (nI i3)), none] [] M Q) ?_ ?_ 0 (Nat.zero_le _)
  · skip
    refine G.sl [(.iload_n 3, 1, 3, 0, 0, 0), (.aload_n 0, 1, 0, 0, 0, 0), (.getfield 15, 3, 7, 0, 88, 0), (.getfield 35, 3, 6, 2, 25, 0)] [] (pc2 := 12) (ls2 := [some (.ref 47), some (.int (nI n1)), some (.int (w_inReach_4 (M.1 11) (M.1 38) n1 nt)), some (.int (nI nt)), none]) (st2 := [.int (M.1 3 2), .int (nI nt)]) (M2 := M) (Ps := []) (by decide +kernel) rfl rfl trivial ?_
    rw [ht]
    refine G.ic_ge (off := (49)) (tgt := 61) (by decide +kernel) rfl (fun _ => ?_) (fun h9 => absurd (nI_le (by omega) (by omega)) h9)
    refine G.loc (ls2 := [none, none, some (.int (w_inReach_4 (M.1 11) (M.1 38) n1 nt)), none, none]) (by simp [subL]) ?_
    exact hX
  · skip
    intro i3 hi ih
    have hk := hk i3 hi
    simp only [w_inReach_4_ok] at hk
    show G z mX8_inReach (d + 2) 0 0 4 [some (.ref 47), some (.int (nI n1)), some (.int (w_inReach_4 (M.1 11) (M.1 38) n1 i3)), some (.int (nI i3)), none] [] M Q
    refine G.sl [(.iload_n 3, 1, 3, 0, 0, 0), (.aload_n 0, 1, 0, 0, 0, 0), (.getfield 15, 3, 7, 0, 88, 0), (.getfield 35, 3, 6, 2, 25, 0)] [] (pc2 := 12) (ls2 := [some (.ref 47), some (.int (nI n1)), some (.int (w_inReach_4 (M.1 11) (M.1 38) n1 i3)), some (.int (nI i3)), none]) (st2 := [.int (M.1 3 2), .int (nI i3)]) (M2 := M) (Ps := []) (by decide +kernel) rfl rfl trivial ?_
    rw [ht]
    refine G.ic_ge (off := (49)) (tgt := 61) (by decide +kernel) rfl (fun h9 => absurd h9 (nI_ge (by omega) (by omega))) (fun _ => ?_)
    refine G.sl [(.aload_n 0, 1, 0, 0, 0, 0), (.iload_n 1, 1, 1, 0, 0, 0), (.iload_n 3, 1, 3, 0, 0, 0)] [] (pc2 := 18) (ls2 := [some (.ref 47), some (.int (nI n1)), some (.int (w_inReach_4 (M.1 11) (M.1 38) n1 i3)), some (.int (nI i3)), none]) (st2 := [.int (nI i3), .int (nI n1), .ref 47]) (M2 := M) (Ps := []) (by decide +kernel) rfl rfl trivial ?_
    obtain ⟨k1, hk⟩ := hk
    have t2 : GM z mX8_wayTo (d + 1) [.ref 47, .int (nI n1), .int (nI i3)] M (fun rs => rs = .inl (some (.int (w_wayTo (M.1 11) (M.1 38) n1 i3)), M)) := by
      have q9 := c_w_wayTo_47 z d M n1 i3 (by omega) (by omega) k1
      try simp only [mput, mrow_same, mrow_hit, mrow_miss, mrow_sw, idr_eq, ne_eq, Nat.reduceEqDiff, not_false_eq_true, Nat.reduceLT, reduceCtorEq] at q9
      exact q9
    refine G.callV (as := [.int (nI n1), .int (nI i3)]) (rest := []) (a := 47) oX8_wayTo lk_EvenFinders_Ways_39 (by decide +kernel) rfl rfl ⟨rfl, rfl⟩ (Nat.le_of_ble_eq_true rfl) rfl ⟨Nat.le_of_ble_eq_true rfl, Nat.le_of_ble_eq_true rfl⟩ t2 (fun v9 N9 h3 => ?_) (fun E9 N9 h3 => by cases h3)
    cases h3
    show G z mX8_inReach (d + 2) 0 0 21 [some (.ref 47), some (.int (nI n1)), some (.int (w_inReach_4 (M.1 11) (M.1 38) n1 i3)), some (.int (nI i3)), none] [.int (w_wayTo (M.1 11) (M.1 38) n1 i3)] M Q
    refine G.sl [(.istore 4, 2, 4, 0, 0, 0), (.iload 4, 2, 4, 0, 0, 0), (.iconst (-1), 1, 0, 0, 0, (-1))] [] (pc2 := 26) (ls2 := [some (.ref 47), some (.int (nI n1)), some (.int (w_inReach_4 (M.1 11) (M.1 38) n1 i3)), some (.int (nI i3)), some (.int (w_wayTo (M.1 11) (M.1 38) n1 i3))]) (st2 := [.int ((-1)), .int (w_wayTo (M.1 11) (M.1 38) n1 i3)]) (M2 := M) (Ps := []) (by decide +kernel) rfl rfl trivial ?_
    refine G.ic_eq (off := (29)) (tgt := 55) (by decide +kernel) rfl (fun c4 => ?_) (fun c4 => ?_)
    · skip
      refine G.sl [(.iinc 3 1, 3, 3, 0, 0, nI 1), (.goto (-54), 3, 4, 0, 0, 0)] [] (pc2 := 4) (ls2 := [some (.ref 47), some (.int (nI n1)), some (.int (w_inReach_4 (M.1 11) (M.1 38) n1 i3)), some (.int ((nI i3) + nI 1)), some (.int (w_wayTo (M.1 11) (M.1 38) n1 i3))]) (st2 := []) (M2 := M) (Ps := []) (by decide +kernel) rfl rfl trivial ?_
      refine G.loc (ls2 := [some (.ref 47), some (.int (nI n1)), some (.int (w_inReach_4 (M.1 11) (M.1 38) n1 i3)), some (.int ((nI i3) + nI 1)), none]) (by simp [subL]) ?_
      rw [nI_add i3 1]
      simp only [w_inReach_4, if_pos c4] at ih
      exact ih
    · skip
      refine G.sl [(.aload_n 0, 1, 0, 0, 0, 0), (.getfield 19, 3, 7, 1, 89, 0), (.getfield 23, 3, 1, 0, 74, 0), (.bipush 13, 2, 0, 0, 0, nI 13), (.iload_n 1, 1, 1, 0, 0, 0), (.iadd, 1, 0, 0, 0, 0), (.iaload, 1, 0, 0, 0, 0), (.iload 4, 2, 4, 0, 0, 0), (.iadd, 1, 0, 0, 0, 0), (.bipush 24, 2, 0, 0, 0, nI 24)] [13 + n1] (pc2 := 46) (ls2 := [some (.ref 47), some (.int (nI n1)), some (.int (w_inReach_4 (M.1 11) (M.1 38) n1 i3)), some (.int (nI i3)), some (.int (w_wayTo (M.1 11) (M.1 38) n1 i3))]) (st2 := [.int (nI 24), .int ((M.1 38 (13 + n1)) + (w_wayTo (M.1 11) (M.1 38) n1 i3))]) (M2 := M) (Ps := [((nI 13) + (nI n1)) = nI (13 + n1) ∧ (13 + n1) < 51]) (by decide +kernel) rfl rfl ⟨⟨(nI_add _ _), (by omega)⟩, trivial⟩ ?_
      refine G.ic_gt (off := (9)) (tgt := 55) (by decide +kernel) rfl (fun c5 => ?_) (fun c5 => ?_)
      · skip
        refine G.sl [(.iinc 3 1, 3, 3, 0, 0, nI 1), (.goto (-54), 3, 4, 0, 0, 0)] [] (pc2 := 4) (ls2 := [some (.ref 47), some (.int (nI n1)), some (.int (w_inReach_4 (M.1 11) (M.1 38) n1 i3)), some (.int ((nI i3) + nI 1)), some (.int (w_wayTo (M.1 11) (M.1 38) n1 i3))]) (st2 := []) (M2 := M) (Ps := []) (by decide +kernel) rfl rfl trivial ?_
        refine G.loc (ls2 := [some (.ref 47), some (.int (nI n1)), some (.int (w_inReach_4 (M.1 11) (M.1 38) n1 i3)), some (.int ((nI i3) + nI 1)), none]) (by simp [subL]) ?_
        rw [nI_add i3 1]
        simp only [w_inReach_4, if_neg c4, if_pos c5] at ih
        exact ih
      · skip
        refine G.sl [(.iload_n 2, 1, 2, 0, 0, 0), (.iconst 1, 1, 0, 0, 0, nI 1), (.iload_n 3, 1, 3, 0, 0, 0), (.ishl, 1, 0, 0, 0, 0), (.ior, 1, 0, 0, 0, 0), (.istore_n 2, 1, 2, 0, 0, 0), (.iinc 3 1, 3, 3, 0, 0, nI 1), (.goto (-54), 3, 4, 0, 0, 0)] [] (pc2 := 4) (ls2 := [some (.ref 47), some (.int (nI n1)), some (.int ((w_inReach_4 (M.1 11) (M.1 38) n1 i3) ||| ((nI 1) <<< ((nI i3) &&& 31)))), some (.int ((nI i3) + nI 1)), some (.int (w_wayTo (M.1 11) (M.1 38) n1 i3))]) (st2 := []) (M2 := M) (Ps := []) (by decide +kernel) rfl rfl trivial ?_
        refine G.loc (ls2 := [some (.ref 47), some (.int (nI n1)), some (.int ((w_inReach_4 (M.1 11) (M.1 38) n1 i3) ||| ((nI 1) <<< ((nI i3) &&& 31)))), some (.int ((nI i3) + nI 1)), none]) (by simp [subL]) ?_
        rw [nI_add i3 1]
        simp only [w_inReach_4, if_neg c4, if_neg c5] at ih
        exact ih
set_option maxHeartbeats 4000000 in
set_option maxRecDepth 3000 in
theorem c_w_inReach_47 (z : Zp) (d : Nat) (M : Mem) (n1 : Nat) (nt : Nat) (hnt : nt ≤ 10) (ht : M.1 3 2 = nI nt) (b1 : n1 < 6) (hk : w_inReach_ok (M.1 11) (M.1 38) nt n1) : GM z mX8_inReach (d + 2) [.ref 47, .int (nI n1)] M (fun rs => rs = .inl (some (.int (w_inReach (M.1 11) (M.1 38) nt n1)), M)) := by
  simp only [w_inReach_ok] at hk
  refine GM.of oX8_inReach.1 (Nat.le_of_ble_eq_true rfl) ?_
  show G z mX8_inReach (d + 2) 0 0 0 [some (.ref 47), some (.int (nI n1)), none, none, none] [] M _
  obtain ⟨Q, hQ⟩ : ∃ Q : Rs → Prop, Q = (fun rs => rs = .inl (some (.int (w_inReach (M.1 11) (M.1 38) nt n1)), M)) := ⟨_, rfl⟩
  rw [← hQ]
  refine G.sl [(.iconst 0, 1, 0, 0, 0, nI 0), (.istore_n 2, 1, 2, 0, 0, 0), (.iconst 0, 1, 0, 0, 0, nI 0), (.istore_n 3, 1, 3, 0, 0, 0)] [] (pc2 := 4) (ls2 := [some (.ref 47), some (.int (nI n1)), some (.int (nI 0)), some (.int (nI 0)), none]) (st2 := []) (M2 := M) (Ps := []) (by decide +kernel) rfl rfl trivial ?_
  obtain ⟨k6, hk⟩ := hk
  refine lp_w_inReach_47_4 z d M Q n1 nt hnt ht (by omega) (by first | (simp only [mput, mrow_same, mrow_hit, mrow_miss, mrow_sw, idr_eq, ne_eq, Nat.reduceEqDiff, not_false_eq_true, Nat.reduceLT, reduceCtorEq]; exact k6) | exact k6) ?_
  show G z mX8_inReach (d + 2) 0 0 61 [none, none, some (.int (w_inReach_4 (M.1 11) (M.1 38) n1 nt)), none, none] [] M Q
  refine G.sl [(.iload_n 2, 1, 2, 0, 0, 0)] [] (pc2 := 62) (ls2 := [none, none, some (.int (w_inReach_4 (M.1 11) (M.1 38) n1 nt)), none, none]) (st2 := [.int (w_inReach_4 (M.1 11) (M.1 38) n1 nt)]) (M2 := M) (Ps := []) (by decide +kernel) rfl rfl trivial ?_
  exact G.reti (by decide +kernel) rfl rfl (Nat.le_of_ble_eq_true rfl) (Nat.le_of_ble_eq_true rfl) ((by rw [hQ]; simp only [w_inReach, mrow_self]))
set_option maxHeartbeats 4000000 in
set_option maxRecDepth 3000 in
theorem lp_w_walkOfAll_47_4 (z : Zp) (d : Nat) (M : Mem) (Q : Rs → Prop) (n1 : Nat) (nf : Nat) (hnf : nf ≤ 6) (hf : M.1 3 3 = nI nf) (b1 : n1 < 8) : ∀ (k0 : Nat) (i3 : Nat) (s2 : Int32), i3 + k0 = nf → w_walkOfAll_4_ok (M.1 11) (M.1 38) n1 k0 i3 s2 → (match w_walkOfAll_4 (M.1 11) (M.1 38) n1 k0 i3 s2 with | .inl v' => Q (.inl (some (.int v'), M)) | .inr s2' => G z mX8_walkOfAll (d + 1) 0 0 55 [none, none, some (.int (s2')), none, none] [] M Q) → G z mX8_walkOfAll (d + 1) 0 0 4 [some (.ref 47), some (.int (nI n1)), some (.int s2), some (.int (nI i3)), none] [] M Q := by
  intro k0
  induction k0 with
  | zero =>
      intro i3 s2 hn hk hX
      refine G.sl [(.iload_n 3, 1, 3, 0, 0, 0), (.aload_n 0, 1, 0, 0, 0, 0), (.getfield 15, 3, 7, 0, 88, 0), (.getfield 42, 3, 6, 3, 32, 0)] [] (pc2 := 12) (ls2 := [some (.ref 47), some (.int (nI n1)), some (.int s2), some (.int (nI i3)), none]) (st2 := [.int (M.1 3 3), .int (nI i3)]) (M2 := M) (Ps := []) (by decide +kernel) rfl rfl trivial ?_
      rw [hf]
      refine G.ic_ge (off := (43)) (tgt := 55) (by decide +kernel) rfl (fun _ => ?_) (fun h9 => absurd (nI_le (by omega) (by omega)) h9)
      refine G.loc (ls2 := [none, none, some (.int s2), none, none]) (by simp [subL]) ?_
      simp only [w_walkOfAll_4] at hX
      exact hX
  | succ k0 ih =>
      intro i3 s2 hn hk hX
      simp only [w_walkOfAll_4_ok] at hk
      refine G.sl [(.iload_n 3, 1, 3, 0, 0, 0), (.aload_n 0, 1, 0, 0, 0, 0), (.getfield 15, 3, 7, 0, 88, 0), (.getfield 42, 3, 6, 3, 32, 0)] [] (pc2 := 12) (ls2 := [some (.ref 47), some (.int (nI n1)), some (.int s2), some (.int (nI i3)), none]) (st2 := [.int (M.1 3 3), .int (nI i3)]) (M2 := M) (Ps := []) (by decide +kernel) rfl rfl trivial ?_
      rw [hf]
      refine G.ic_ge (off := (43)) (tgt := 55) (by decide +kernel) rfl (fun h9 => absurd h9 (nI_ge (by omega) (by omega))) (fun _ => ?_)
      refine G.sl [(.aload_n 0, 1, 0, 0, 0, 0), (.getfield 15, 3, 7, 0, 88, 0), (.aload_n 0, 1, 0, 0, 0, 0), (.getfield 19, 3, 7, 1, 89, 0), (.getfield 23, 3, 1, 0, 74, 0), (.iconst 1, 1, 0, 0, 0, nI 1), (.iload_n 3, 1, 3, 0, 0, 0), (.iadd, 1, 0, 0, 0, 0), (.iaload, 1, 0, 0, 0, 0), (.iload_n 1, 1, 1, 0, 0, 0)] [1 + i3] (pc2 := 31) (ls2 := [some (.ref 47), some (.int (nI n1)), some (.int s2), some (.int (nI i3)), none]) (st2 := [.int (nI n1), .int (M.1 38 (1 + i3)), .ref 3]) (M2 := M) (Ps := [((nI 1) + (nI i3)) = nI (1 + i3) ∧ (1 + i3) < 51]) (by decide +kernel) rfl rfl ⟨⟨(nI_add _ _), (by omega)⟩, trivial⟩ ?_
      obtain ⟨k1, k2, hk⟩ := hk
      obtain ⟨k3, hk⟩ := hk
      refine G.eq (st' := [.int (nI n1), .int (nI (ix (M.1 38 (1 + i3)))), .ref 3]) ?_ rfl (by rw [← (show M.1 38 (1 + i3) = nI (ix (M.1 38 (1 + i3))) from (ixE k1))]) rfl
      have t4 : GM z mX7_farFrom (d) [.ref 3, .int (nI (ix (M.1 38 (1 + i3)))), .int (nI n1)] M (fun rs => rs = .inl (some (.int (v_farFrom (M.1 11) (ix (M.1 38 (1 + i3))) n1)), M)) := by
        have q9 := c_v_farFrom_3 z d M (ix (M.1 38 (1 + i3))) n1 k2 (by omega)
        try simp only [mput, mrow_same, mrow_hit, mrow_miss, mrow_sw, idr_eq, ne_eq, Nat.reduceEqDiff, not_false_eq_true, Nat.reduceLT, reduceCtorEq] at q9
        exact q9
      refine G.callV (as := [.int (nI (ix (M.1 38 (1 + i3)))), .int (nI n1)]) (rest := []) (a := 3) oX7_farFrom lk_EvenFinders_Ways_28 (by decide +kernel) rfl rfl ⟨rfl, rfl⟩ (Nat.le_of_ble_eq_true rfl) rfl ⟨Nat.le_of_ble_eq_true rfl, Nat.le_of_ble_eq_true rfl⟩ t4 (fun v9 N9 h5 => ?_) (fun E9 N9 h5 => by cases h5)
      cases h5
      show G z mX8_walkOfAll (d + 1) 0 0 34 [some (.ref 47), some (.int (nI n1)), some (.int s2), some (.int (nI i3)), none] [.int (v_farFrom (M.1 11) (ix (M.1 38 (1 + i3))) n1)] M Q
      refine G.sl [(.istore 4, 2, 4, 0, 0, 0), (.iload 4, 2, 4, 0, 0, 0), (.iconst (-1), 1, 0, 0, 0, (-1))] [] (pc2 := 39) (ls2 := [some (.ref 47), some (.int (nI n1)), some (.int s2), some (.int (nI i3)), some (.int (v_farFrom (M.1 11) (ix (M.1 38 (1 + i3))) n1))]) (st2 := [.int ((-1)), .int (v_farFrom (M.1 11) (ix (M.1 38 (1 + i3))) n1)]) (M2 := M) (Ps := []) (by decide +kernel) rfl rfl trivial ?_
      refine G.ic_ne (off := (5)) (tgt := 44) (by decide +kernel) rfl (fun c6 => ?_) (fun c6 => ?_)
      · skip
        rw [if_neg c6] at hk
        refine G.sl [(.iload_n 2, 1, 2, 0, 0, 0), (.iload 4, 2, 4, 0, 0, 0), (.iadd, 1, 0, 0, 0, 0), (.istore_n 2, 1, 2, 0, 0, 0), (.iinc 3 1, 3, 3, 0, 0, nI 1), (.goto (-48), 3, 4, 0, 0, 0)] [] (pc2 := 4) (ls2 := [some (.ref 47), some (.int (nI n1)), some (.int (s2 + (v_farFrom (M.1 11) (ix (M.1 38 (1 + i3))) n1))), some (.int ((nI i3) + nI 1)), some (.int (v_farFrom (M.1 11) (ix (M.1 38 (1 + i3))) n1))]) (st2 := []) (M2 := M) (Ps := []) (by decide +kernel) rfl rfl trivial ?_
        refine G.loc (ls2 := [some (.ref 47), some (.int (nI n1)), some (.int (s2 + (v_farFrom (M.1 11) (ix (M.1 38 (1 + i3))) n1))), some (.int ((nI i3) + nI 1)), none]) (by simp [subL]) ?_
        rw [nI_add i3 1]
        simp only [w_walkOfAll_4, if_neg c6] at hX
        exact ih (i3 + 1) (s2 + (v_farFrom (M.1 11) (ix (M.1 38 (1 + i3))) n1)) (by omega) hk hX
      · skip
        rw [if_pos c6] at hk
        refine G.sl [(.iconst (-1), 1, 0, 0, 0, (-1))] [] (pc2 := 43) (ls2 := [some (.ref 47), some (.int (nI n1)), some (.int s2), some (.int (nI i3)), some (.int (v_farFrom (M.1 11) (ix (M.1 38 (1 + i3))) n1))]) (st2 := [.int ((-1))]) (M2 := M) (Ps := []) (by decide +kernel) rfl rfl trivial ?_
        exact G.reti (by decide +kernel) rfl rfl (Nat.le_of_ble_eq_true rfl) (Nat.le_of_ble_eq_true rfl) ((by simp only [w_walkOfAll_4, if_pos c6] at hX; exact hX))
set_option maxHeartbeats 4000000 in
set_option maxRecDepth 3000 in
theorem c_w_walkOfAll_47 (z : Zp) (d : Nat) (M : Mem) (n1 : Nat) (nf : Nat) (hnf : nf ≤ 6) (hf : M.1 3 3 = nI nf) (b1 : n1 < 8) (hk : w_walkOfAll_ok (M.1 11) (M.1 38) nf n1) : GM z mX8_walkOfAll (d + 1) [.ref 47, .int (nI n1)] M (fun rs => rs = .inl (some (.int (w_walkOfAll (M.1 11) (M.1 38) nf n1)), M)) := by
  simp only [w_walkOfAll_ok] at hk
  refine GM.of oX8_walkOfAll.1 (Nat.le_of_ble_eq_true rfl) ?_
  show G z mX8_walkOfAll (d + 1) 0 0 0 [some (.ref 47), some (.int (nI n1)), none, none, none] [] M _
  obtain ⟨Q, hQ⟩ : ∃ Q : Rs → Prop, Q = (fun rs => rs = .inl (some (.int (w_walkOfAll (M.1 11) (M.1 38) nf n1)), M)) := ⟨_, rfl⟩
  rw [← hQ]
  refine G.sl [(.iconst 0, 1, 0, 0, 0, nI 0), (.istore_n 2, 1, 2, 0, 0, 0), (.iconst 0, 1, 0, 0, 0, nI 0), (.istore_n 3, 1, 3, 0, 0, 0)] [] (pc2 := 4) (ls2 := [some (.ref 47), some (.int (nI n1)), some (.int (nI 0)), some (.int (nI 0)), none]) (st2 := []) (M2 := M) (Ps := []) (by decide +kernel) rfl rfl trivial ?_
  obtain ⟨k7, hk⟩ := hk
  refine lp_w_walkOfAll_47_4 z d M Q n1 nf hnf hf (by omega) nf 0 (nI 0) (Nat.zero_add _) (by first | (simp only [mput, mrow_same, mrow_hit, mrow_miss, mrow_sw, idr_eq, ne_eq, Nat.reduceEqDiff, not_false_eq_true, Nat.reduceLT, reduceCtorEq]; exact k7) | exact k7) ?_
  try simp only [mput, mrow_same, mrow_hit, mrow_miss, mrow_sw, idr_eq, ne_eq, Nat.reduceEqDiff, not_false_eq_true, Nat.reduceLT, reduceCtorEq]
  rcases g8 : w_walkOfAll_4 (M.1 11) (M.1 38) n1 nf 0 (nI 0) with v10 | v9
  · skip
    show Q (.inl (some (.int v10), M))
    rw [hQ]
    simp only [w_walkOfAll, g8, mrow_self]
  · skip
    show G z mX8_walkOfAll (d + 1) 0 0 55 [none, none, some (.int v9), none, none] [] M Q
    refine G.sl [(.iload_n 2, 1, 2, 0, 0, 0)] [] (pc2 := 56) (ls2 := [none, none, some (.int v9), none, none]) (st2 := [.int v9]) (M2 := M) (Ps := []) (by decide +kernel) rfl rfl trivial ?_
    exact G.reti (by decide +kernel) rfl rfl (Nat.le_of_ble_eq_true rfl) (Nat.le_of_ble_eq_true rfl) ((by rw [hQ]; simp only [w_walkOfAll, g8, mrow_self]))
set_option maxHeartbeats 4000000 in
set_option maxRecDepth 3000 in
theorem lp_w_meetingPlace_47_7 (z : Zp) (d : Nat) (M : Mem) (Q : Rs → Prop) (np : Nat) (hnp : np ≤ 8) (hp : M.1 3 0 = nI np) (nf : Nat) (hnf : nf ≤ 6) (hf : M.1 3 3 = nI nf) : ∀ (k0 : Nat) (i3 : Nat) (s1 : Int32) (s2 : Int32), i3 + k0 = np → w_meetingPlace_7_ok (M.1 11) (M.1 38) nf k0 i3 s1 s2 → (match w_meetingPlace_7 (M.1 11) (M.1 38) nf k0 i3 s1 s2 with | (s1', s2') => G z mX8_meetingPlace (d + 2) 0 0 58 [none, some (.int (s1')), none, none, none] [] M Q) → G z mX8_meetingPlace (d + 2) 0 0 7 [some (.ref 47), some (.int s1), some (.int s2), some (.int (nI i3)), none] [] M Q := by
  intro k0
  induction k0 with
  | zero =>
      intro i3 s1 s2 hn hk hX
      refine G.sl [(.iload_n 3, 1, 3, 0, 0, 0), (.aload_n 0, 1, 0, 0, 0, 0), (.getfield 15, 3, 7, 0, 88, 0), (.getfield 45, 3, 6, 0, 16, 0)] [] (pc2 := 15) (ls2 := [some (.ref 47), some (.int s1), some (.int s2), some (.int (nI i3)), none]) (st2 := [.int (M.1 3 0), .int (nI i3)]) (M2 := M) (Ps := []) (by decide +kernel) rfl rfl trivial ?_
      rw [hp]
      refine G.ic_ge (off := (43)) (tgt := 58) (by decide +kernel) rfl (fun _ => ?_) (fun h9 => absurd (nI_le (by omega) (by omega)) h9)
      refine G.loc (ls2 := [none, some (.int s1), none, none, none]) (by simp [subL]) ?_
      simp only [w_meetingPlace_7] at hX
      exact hX
  | succ k0 ih =>
      intro i3 s1 s2 hn hk hX
      simp only [w_meetingPlace_7_ok] at hk
      refine G.sl [(.iload_n 3, 1, 3, 0, 0, 0), (.aload_n 0, 1, 0, 0, 0, 0), (.getfield 15, 3, 7, 0, 88, 0), (.getfield 45, 3, 6, 0, 16, 0)] [] (pc2 := 15) (ls2 := [some (.ref 47), some (.int s1), some (.int s2), some (.int (nI i3)), none]) (st2 := [.int (M.1 3 0), .int (nI i3)]) (M2 := M) (Ps := []) (by decide +kernel) rfl rfl trivial ?_
      rw [hp]
      refine G.ic_ge (off := (43)) (tgt := 58) (by decide +kernel) rfl (fun h9 => absurd h9 (nI_ge (by omega) (by omega))) (fun _ => ?_)
      refine G.sl [(.aload_n 0, 1, 0, 0, 0, 0), (.getfield 15, 3, 7, 0, 88, 0), (.getfield 42, 3, 6, 3, 32, 0)] [] (pc2 := 25) (ls2 := [some (.ref 47), some (.int s1), some (.int s2), some (.int (nI i3)), none]) (st2 := [.int (M.1 3 3)]) (M2 := M) (Ps := []) (by decide +kernel) rfl rfl trivial ?_
      rw [hf]
      refine G.if_le (off := (33)) (tgt := 58) (by decide +kernel) rfl (fun c1 => ?_) (fun c1 => ?_)
      · skip
        rw [if_pos c1] at hk
        refine G.loc (ls2 := [none, some (.int s1), none, none, none]) (by simp [subL]) ?_
        simp only [w_meetingPlace_7, if_pos c1] at hX
        exact hX
      · skip
        rw [if_neg c1] at hk
        refine G.sl [(.aload_n 0, 1, 0, 0, 0, 0), (.iload_n 3, 1, 3, 0, 0, 0)] [] (pc2 := 30) (ls2 := [some (.ref 47), some (.int s1), some (.int s2), some (.int (nI i3)), none]) (st2 := [.int (nI i3), .ref 47]) (M2 := M) (Ps := []) (by decide +kernel) rfl rfl trivial ?_
        obtain ⟨k2, hk⟩ := hk
        have t3 : GM z mX8_walkOfAll (d + 1) [.ref 47, .int (nI i3)] M (fun rs => rs = .inl (some (.int (w_walkOfAll (M.1 11) (M.1 38) nf i3)), M)) := by
          have q9 := c_w_walkOfAll_47 z d M i3 nf hnf hf (by omega) k2
          try simp only [mput, mrow_same, mrow_hit, mrow_miss, mrow_sw, idr_eq, ne_eq, Nat.reduceEqDiff, not_false_eq_true, Nat.reduceLT, reduceCtorEq] at q9
          exact q9
        refine G.callV (as := [.int (nI i3)]) (rest := []) (a := 47) oX8_walkOfAll lk_EvenFinders_Ways_48 (by decide +kernel) rfl rfl ⟨rfl, rfl⟩ (Nat.le_of_ble_eq_true rfl) rfl ⟨Nat.le_of_ble_eq_true rfl, Nat.le_of_ble_eq_true rfl⟩ t3 (fun v9 N9 h4 => ?_) (fun E9 N9 h4 => by cases h4)
        cases h4
        show G z mX8_meetingPlace (d + 2) 0 0 33 [some (.ref 47), some (.int s1), some (.int s2), some (.int (nI i3)), none] [.int (w_walkOfAll (M.1 11) (M.1 38) nf i3)] M Q
        refine G.sl [(.istore 4, 2, 4, 0, 0, 0), (.iload 4, 2, 4, 0, 0, 0), (.iconst (-1), 1, 0, 0, 0, (-1))] [] (pc2 := 38) (ls2 := [some (.ref 47), some (.int s1), some (.int s2), some (.int (nI i3)), some (.int (w_walkOfAll (M.1 11) (M.1 38) nf i3))]) (st2 := [.int ((-1)), .int (w_walkOfAll (M.1 11) (M.1 38) nf i3)]) (M2 := M) (Ps := []) (by decide +kernel) rfl rfl trivial ?_
        refine G.ic_eq (off := (14)) (tgt := 52) (by decide +kernel) rfl (fun c5 => ?_) (fun c5 => ?_)
        · skip
          rw [if_pos c5] at hk
          refine G.sl [(.iinc 3 1, 3, 3, 0, 0, nI 1), (.goto (-48), 3, 7, 0, 0, 0)] [] (pc2 := 7) (ls2 := [some (.ref 47), some (.int s1), some (.int s2), some (.int ((nI i3) + nI 1)), some (.int (w_walkOfAll (M.1 11) (M.1 38) nf i3))]) (st2 := []) (M2 := M) (Ps := []) (by decide +kernel) rfl rfl trivial ?_
          refine G.loc (ls2 := [some (.ref 47), some (.int s1), some (.int s2), some (.int ((nI i3) + nI 1)), none]) (by simp [subL]) ?_
          rw [nI_add i3 1]
          simp only [w_meetingPlace_7, if_neg c1, if_pos c5] at hX
          exact ih (i3 + 1) s1 s2 (by omega) hk hX
        · skip
          rw [if_neg c5] at hk
          refine G.sl [(.iload 4, 2, 4, 0, 0, 0), (.iload_n 2, 1, 2, 0, 0, 0)] [] (pc2 := 44) (ls2 := [some (.ref 47), some (.int s1), some (.int s2), some (.int (nI i3)), some (.int (w_walkOfAll (M.1 11) (M.1 38) nf i3))]) (st2 := [.int s2, .int (w_walkOfAll (M.1 11) (M.1 38) nf i3)]) (M2 := M) (Ps := []) (by decide +kernel) rfl rfl trivial ?_
          refine G.ic_ge (off := (8)) (tgt := 52) (by decide +kernel) rfl (fun c6 => ?_) (fun c6 => ?_)
          · skip
            rw [if_pos c6] at hk
            refine G.sl [(.iinc 3 1, 3, 3, 0, 0, nI 1), (.goto (-48), 3, 7, 0, 0, 0)] [] (pc2 := 7) (ls2 := [some (.ref 47), some (.int s1), some (.int s2), some (.int ((nI i3) + nI 1)), some (.int (w_walkOfAll (M.1 11) (M.1 38) nf i3))]) (st2 := []) (M2 := M) (Ps := []) (by decide +kernel) rfl rfl trivial ?_
            refine G.loc (ls2 := [some (.ref 47), some (.int s1), some (.int s2), some (.int ((nI i3) + nI 1)), none]) (by simp [subL]) ?_
            rw [nI_add i3 1]
            simp only [w_meetingPlace_7, if_neg c1, if_neg c5, if_pos c6] at hX
            exact ih (i3 + 1) s1 s2 (by omega) hk hX
          · skip
            rw [if_neg c6] at hk
            refine G.sl [(.iload_n 3, 1, 3, 0, 0, 0), (.istore_n 1, 1, 1, 0, 0, 0), (.iload 4, 2, 4, 0, 0, 0), (.istore_n 2, 1, 2, 0, 0, 0), (.iinc 3 1, 3, 3, 0, 0, nI 1), (.goto (-48), 3, 7, 0, 0, 0)] [] (pc2 := 7) (ls2 := [some (.ref 47), some (.int (nI i3)), some (.int (w_walkOfAll (M.1 11) (M.1 38) nf i3)), some (.int ((nI i3) + nI 1)), some (.int (w_walkOfAll (M.1 11) (M.1 38) nf i3))]) (st2 := []) (M2 := M) (Ps := []) (by decide +kernel) rfl rfl trivial ?_
            refine G.loc (ls2 := [some (.ref 47), some (.int (nI i3)), some (.int (w_walkOfAll (M.1 11) (M.1 38) nf i3)), some (.int ((nI i3) + nI 1)), none]) (by simp [subL]) ?_
            rw [nI_add i3 1]
            simp only [w_meetingPlace_7, if_neg c1, if_neg c5, if_neg c6] at hX
            exact ih (i3 + 1) (nI i3) (w_walkOfAll (M.1 11) (M.1 38) nf i3) (by omega) hk hX
set_option maxHeartbeats 4000000 in
set_option maxRecDepth 3000 in
theorem c_w_meetingPlace_47 (z : Zp) (d : Nat) (M : Mem) (np : Nat) (hnp : np ≤ 8) (hp : M.1 3 0 = nI np) (nf : Nat) (hnf : nf ≤ 6) (hf : M.1 3 3 = nI nf) (hk : w_meetingPlace_ok (M.1 11) (M.1 38) np nf) : GM z mX8_meetingPlace (d + 2) [.ref 47] M (fun rs => rs = .inl (some (.int (w_meetingPlace (M.1 11) (M.1 38) np nf)), M)) := by
  simp only [w_meetingPlace_ok] at hk
  refine GM.of oX8_meetingPlace.1 (Nat.le_of_ble_eq_true rfl) ?_
  show G z mX8_meetingPlace (d + 2) 0 0 0 [some (.ref 47), none, none, none, none] [] M _
  obtain ⟨Q, hQ⟩ : ∃ Q : Rs → Prop, Q = (fun rs => rs = .inl (some (.int (w_meetingPlace (M.1 11) (M.1 38) np nf)), M)) := ⟨_, rfl⟩
  rw [← hQ]
  refine G.sl [(.iconst (-1), 1, 0, 0, 0, (-1)), (.istore_n 1, 1, 1, 0, 0, 0), (.ldc 34, 2, 0, 0, 3, nI 1000000), (.istore_n 2, 1, 2, 0, 0, 0), (.iconst 0, 1, 0, 0, 0, nI 0), (.istore_n 3, 1, 3, 0, 0, 0)] [] (pc2 := 7) (ls2 := [some (.ref 47), some (.int ((-1))), some (.int (nI 1000000)), some (.int (nI 0)), none]) (st2 := []) (M2 := M) (Ps := []) (by decide +kernel) rfl rfl trivial ?_
  obtain ⟨k7, hk⟩ := hk
  refine lp_w_meetingPlace_47_7 z d M Q np hnp hp nf hnf hf np 0 ((-1)) (nI 1000000) (Nat.zero_add _) (by first | (simp only [mput, mrow_same, mrow_hit, mrow_miss, mrow_sw, idr_eq, ne_eq, Nat.reduceEqDiff, not_false_eq_true, Nat.reduceLT, reduceCtorEq]; exact k7) | exact k7) ?_
  try simp only [mput, mrow_same, mrow_hit, mrow_miss, mrow_sw, idr_eq, ne_eq, Nat.reduceEqDiff, not_false_eq_true, Nat.reduceLT, reduceCtorEq]
  rcases g8 : w_meetingPlace_7 (M.1 11) (M.1 38) nf np 0 ((-1)) (nI 1000000) with ⟨v9, v10⟩
  show G z mX8_meetingPlace (d + 2) 0 0 58 [none, some (.int v9), none, none, none] [] M Q
  refine G.sl [(.iload_n 1, 1, 1, 0, 0, 0)] [] (pc2 := 59) (ls2 := [none, some (.int v9), none, none, none]) (st2 := [.int v9]) (M2 := M) (Ps := []) (by decide +kernel) rfl rfl trivial ?_
  exact G.reti (by decide +kernel) rfl rfl (Nat.le_of_ble_eq_true rfl) (Nat.le_of_ble_eq_true rfl) ((by rw [hQ]; simp only [w_meetingPlace, g8, mrow_self]))
set_option maxHeartbeats 4000000 in
set_option maxRecDepth 3000 in
theorem lp_w_goalsFrom_47_4 (z : Zp) (d : Nat) (M : Mem) (Q : Rs → Prop) (x1 : Int32) (np : Nat) (hnp : np ≤ 8) (hp : M.1 3 0 = nI np) (nt : Nat) (hnt : nt ≤ 10) (ht : M.1 3 2 = nI nt) (hX : G z mX8_goalsFrom (d + 1) 0 0 43 [none, none, some (.int (w_goalsFrom_4 (M.1 38) nt x1 np)), none] [] M Q) : G z mX8_goalsFrom (d + 1) 0 0 4 [some (.ref 47), some (.int x1), some (.int (nI 0)), some (.int (nI 0))] [] M Q := by
  refine down (n := np) (P := fun i3 => G z mX8_goalsFrom (d + 1) 0 0 4 [some (.ref 47), some (.int x1), some (.int (w_goalsFrom_4 (M.1 38) nt x1 i3)), some (.int (nI i3))] [] M Q) ?_ ?_ 0 (Nat.zero_le _)
  · skip
    refine G.sl [(.iload_n 3, 1, 3, 0, 0, 0), (.aload_n 0, 1, 0, 0, 0, 0), (.getfield 15, 3, 7, 0, 88, 0), (.getfield 45, 3, 6, 0, 16, 0)] [] (pc2 := 12) (ls2 := [some (.ref 47), some (.int x1), some (.int (w_goalsFrom_4 (M.1 38) nt x1 np)), some (.int (nI np))]) (st2 := [.int (M.1 3 0), .int (nI np)]) (M2 := M) (Ps := []) (by decide +kernel) rfl rfl trivial ?_
    rw [hp]
    refine G.ic_ge (off := (31)) (tgt := 43) (by decide +kernel) rfl (fun _ => ?_) (fun h9 => absurd (nI_le (by omega) (by omega)) h9)
    refine G.loc (ls2 := [none, none, some (.int (w_goalsFrom_4 (M.1 38) nt x1 np)), none]) (by simp [subL]) ?_
    exact hX
  · skip
    intro i3 hi ih
    show G z mX8_goalsFrom (d + 1) 0 0 4 [some (.ref 47), some (.int x1), some (.int (w_goalsFrom_4 (M.1 38) nt x1 i3)), some (.int (nI i3))] [] M Q
    refine G.sl [(.iload_n 3, 1, 3, 0, 0, 0), (.aload_n 0, 1, 0, 0, 0, 0), (.getfield 15, 3, 7, 0, 88, 0), (.getfield 45, 3, 6, 0, 16, 0)] [] (pc2 := 12) (ls2 := [some (.ref 47), some (.int x1), some (.int (w_goalsFrom_4 (M.1 38) nt x1 i3)), some (.int (nI i3))]) (st2 := [.int (M.1 3 0), .int (nI i3)]) (M2 := M) (Ps := []) (by decide +kernel) rfl rfl trivial ?_
    rw [hp]
    refine G.ic_ge (off := (31)) (tgt := 43) (by decide +kernel) rfl (fun h9 => absurd h9 (nI_ge (by omega) (by omega))) (fun _ => ?_)
    refine G.sl [(.iload_n 3, 1, 3, 0, 0, 0), (.iload_n 1, 1, 1, 0, 0, 0)] [] (pc2 := 17) (ls2 := [some (.ref 47), some (.int x1), some (.int (w_goalsFrom_4 (M.1 38) nt x1 i3)), some (.int (nI i3))]) (st2 := [.int x1, .int (nI i3)]) (M2 := M) (Ps := []) (by decide +kernel) rfl rfl trivial ?_
    refine G.ic_eq (off := (20)) (tgt := 37) (by decide +kernel) rfl (fun c1 => ?_) (fun c1 => ?_)
    · skip
      refine G.sl [(.iinc 3 1, 3, 3, 0, 0, nI 1), (.goto (-36), 3, 4, 0, 0, 0)] [] (pc2 := 4) (ls2 := [some (.ref 47), some (.int x1), some (.int (w_goalsFrom_4 (M.1 38) nt x1 i3)), some (.int ((nI i3) + nI 1))]) (st2 := []) (M2 := M) (Ps := []) (by decide +kernel) rfl rfl trivial ?_
      rw [nI_add i3 1]
      simp only [w_goalsFrom_4, if_pos c1] at ih
      exact ih
    · skip
      refine G.sl [(.aload_n 0, 1, 0, 0, 0, 0), (.getfield 19, 3, 7, 1, 89, 0), (.iload_n 3, 1, 3, 0, 0, 0)] [] (pc2 := 25) (ls2 := [some (.ref 47), some (.int x1), some (.int (w_goalsFrom_4 (M.1 38) nt x1 i3)), some (.int (nI i3))]) (st2 := [.int (nI i3), .ref 37]) (M2 := M) (Ps := []) (by decide +kernel) rfl rfl trivial ?_
      have t3 : GM z mX1_lyingAt (d) [.ref 37, .int (nI i3)] M (fun rs => rs = .inl (some (.int (d_lyingAt (M.1 38) nt (nI i3))), M)) := by
        have q9 := c_d_lyingAt_37 z d M (nI i3) nt hnt ht
        try simp only [mput, mrow_same, mrow_hit, mrow_miss, mrow_sw, idr_eq, ne_eq, Nat.reduceEqDiff, not_false_eq_true, Nat.reduceLT, reduceCtorEq] at q9
        exact q9
      refine G.callV (as := [.int (nI i3)]) (rest := []) (a := 37) oX1_lyingAt lk_EvenFinders_Ways_70 (by decide +kernel) rfl rfl ⟨rfl, rfl⟩ (Nat.le_of_ble_eq_true rfl) rfl ⟨Nat.le_of_ble_eq_true rfl, Nat.le_of_ble_eq_true rfl⟩ t3 (fun v9 N9 h4 => ?_) (fun E9 N9 h4 => by cases h4)
      cases h4
      show G z mX8_goalsFrom (d + 1) 0 0 28 [some (.ref 47), some (.int x1), some (.int (w_goalsFrom_4 (M.1 38) nt x1 i3)), some (.int (nI i3))] [.int (d_lyingAt (M.1 38) nt (nI i3))] M Q
      refine G.if_eq (off := (9)) (tgt := 37) (by decide +kernel) rfl (fun c5 => ?_) (fun c5 => ?_)
      · skip
        refine G.sl [(.iinc 3 1, 3, 3, 0, 0, nI 1), (.goto (-36), 3, 4, 0, 0, 0)] [] (pc2 := 4) (ls2 := [some (.ref 47), some (.int x1), some (.int (w_goalsFrom_4 (M.1 38) nt x1 i3)), some (.int ((nI i3) + nI 1))]) (st2 := []) (M2 := M) (Ps := []) (by decide +kernel) rfl rfl trivial ?_
        rw [nI_add i3 1]
        simp only [w_goalsFrom_4, if_neg c1, if_pos c5] at ih
        exact ih
      · skip
        refine G.sl [(.iload_n 2, 1, 2, 0, 0, 0), (.iconst 1, 1, 0, 0, 0, nI 1), (.iload_n 3, 1, 3, 0, 0, 0), (.ishl, 1, 0, 0, 0, 0), (.ior, 1, 0, 0, 0, 0), (.istore_n 2, 1, 2, 0, 0, 0), (.iinc 3 1, 3, 3, 0, 0, nI 1), (.goto (-36), 3, 4, 0, 0, 0)] [] (pc2 := 4) (ls2 := [some (.ref 47), some (.int x1), some (.int ((w_goalsFrom_4 (M.1 38) nt x1 i3) ||| ((nI 1) <<< ((nI i3) &&& 31)))), some (.int ((nI i3) + nI 1))]) (st2 := []) (M2 := M) (Ps := []) (by decide +kernel) rfl rfl trivial ?_
        rw [nI_add i3 1]
        simp only [w_goalsFrom_4, if_neg c1, if_neg c5] at ih
        exact ih
set_option maxHeartbeats 4000000 in
set_option maxRecDepth 3000 in
theorem c_w_goalsFrom_47 (z : Zp) (d : Nat) (M : Mem) (x1 : Int32) (np : Nat) (hnp : np ≤ 8) (hp : M.1 3 0 = nI np) (nt : Nat) (hnt : nt ≤ 10) (ht : M.1 3 2 = nI nt) : GM z mX8_goalsFrom (d + 1) [.ref 47, .int x1] M (fun rs => rs = .inl (some (.int (w_goalsFrom (M.1 38) np nt x1)), M)) := by
  refine GM.of oX8_goalsFrom.1 (Nat.le_of_ble_eq_true rfl) ?_
  show G z mX8_goalsFrom (d + 1) 0 0 0 [some (.ref 47), some (.int x1), none, none] [] M _
  obtain ⟨Q, hQ⟩ : ∃ Q : Rs → Prop, Q = (fun rs => rs = .inl (some (.int (w_goalsFrom (M.1 38) np nt x1)), M)) := ⟨_, rfl⟩
  rw [← hQ]
  refine G.sl [(.iconst 0, 1, 0, 0, 0, nI 0), (.istore_n 2, 1, 2, 0, 0, 0), (.iconst 0, 1, 0, 0, 0, nI 0), (.istore_n 3, 1, 3, 0, 0, 0)] [] (pc2 := 4) (ls2 := [some (.ref 47), some (.int x1), some (.int (nI 0)), some (.int (nI 0))]) (st2 := []) (M2 := M) (Ps := []) (by decide +kernel) rfl rfl trivial ?_
  refine lp_w_goalsFrom_47_4 z d M Q x1 np hnp hp nt hnt ht ?_
  show G z mX8_goalsFrom (d + 1) 0 0 43 [none, none, some (.int (w_goalsFrom_4 (M.1 38) nt x1 np)), none] [] M Q
  refine G.sl [(.iload_n 2, 1, 2, 0, 0, 0)] [] (pc2 := 44) (ls2 := [none, none, some (.int (w_goalsFrom_4 (M.1 38) nt x1 np)), none]) (st2 := [.int (w_goalsFrom_4 (M.1 38) nt x1 np)]) (M2 := M) (Ps := []) (by decide +kernel) rfl rfl trivial ?_
  exact G.reti (by decide +kernel) rfl rfl (Nat.le_of_ble_eq_true rfl) (Nat.le_of_ble_eq_true rfl) ((by rw [hQ]; simp only [w_goalsFrom, mrow_self]))
set_option maxHeartbeats 4000000 in
set_option maxRecDepth 3000 in
theorem lp_J7_fill_53178_L2048_48_5 (z : Zp) (d : Nat) (M : Mem) (Q : Rs → Prop) (nn : Nat) (x1 : Int32) (hnn : nn = 2048) (hX : G z mJ7_fill_53178 (d) 0 0 20 [none, none, none, none] [] (mrow M 48 (J7_fill_53178_L2048_5 (M.1 48) x1 nn)) Q) : G z mJ7_fill_53178 (d) 0 0 5 [some (.ref 48), some (.int x1), some (.int (nI 0)), some (.int (nI 2048))] [] M Q := by
  refine G.mem (M' := mrow M 48 (M.1 48)) (by simp only [mrow_self]) ?_
  refine down (n := nn) (P := fun i2 => G z mJ7_fill_53178 (d) 0 0 5 [some (.ref 48), some (.int x1), some (.int (nI i2)), some (.int (nI 2048))] [] (mrow M 48 (J7_fill_53178_L2048_5 (M.1 48) x1 i2)) Q) ?_ ?_ 0 (Nat.zero_le _)
  · skip
    refine G.sl [(.iload_n 2, 1, 2, 0, 0, 0), (.iload_n 3, 1, 3, 0, 0, 0)] [] (pc2 := 7) (ls2 := [some (.ref 48), some (.int x1), some (.int (nI nn)), some (.int (nI 2048))]) (st2 := [.int (nI 2048), .int (nI nn)]) (M2 := mrow M 48 (J7_fill_53178_L2048_5 (M.1 48) x1 nn)) (Ps := []) (by decide +kernel) rfl rfl trivial ?_
    refine G.ic_ge (off := (13)) (tgt := 20) (by decide +kernel) rfl (fun _ => ?_) (fun h9 => absurd (nI_le (by omega) (by omega)) h9)
    refine G.loc (ls2 := [none, none, none, none]) (by simp [subL]) ?_
    exact hX
  · skip
    intro i2 hi ih
    show G z mJ7_fill_53178 (d) 0 0 5 [some (.ref 48), some (.int x1), some (.int (nI i2)), some (.int (nI 2048))] [] (mrow M 48 (J7_fill_53178_L2048_5 (M.1 48) x1 i2)) Q
    refine G.sl [(.iload_n 2, 1, 2, 0, 0, 0), (.iload_n 3, 1, 3, 0, 0, 0)] [] (pc2 := 7) (ls2 := [some (.ref 48), some (.int x1), some (.int (nI i2)), some (.int (nI 2048))]) (st2 := [.int (nI 2048), .int (nI i2)]) (M2 := mrow M 48 (J7_fill_53178_L2048_5 (M.1 48) x1 i2)) (Ps := []) (by decide +kernel) rfl rfl trivial ?_
    refine G.ic_ge (off := (13)) (tgt := 20) (by decide +kernel) rfl (fun h9 => absurd h9 (nI_ge (by omega) (by omega))) (fun _ => ?_)
    refine G.sl [(.aload_n 0, 1, 0, 0, 0, 0), (.iload_n 2, 1, 2, 0, 0, 0), (.iload_n 1, 1, 1, 0, 0, 0), (.iastore, 1, 0, 0, 0, 0), (.iinc 2 1, 3, 2, 0, 0, nI 1), (.goto (-12), 3, 5, 0, 0, 0)] [i2] (pc2 := 5) (ls2 := [some (.ref 48), some (.int x1), some (.int ((nI i2) + nI 1)), some (.int (nI 2048))]) (st2 := []) (M2 := mput (mrow M 48 (J7_fill_53178_L2048_5 (M.1 48) x1 i2)) 48 i2 x1) (Ps := [(nI i2) = nI i2 ∧ i2 < 2048]) (by decide +kernel) rfl rfl ⟨⟨rfl, (by omega)⟩, trivial⟩ ?_
    refine G.mem (M' := mrow M 48 (upd (J7_fill_53178_L2048_5 (M.1 48) x1 i2) i2 x1)) (by first | rfl | (simp only [mput, mrow_same, mrow_hit, mrow_miss, mrow_sw, idr_eq, ne_eq, Nat.reduceEqDiff, not_false_eq_true, Nat.reduceLT, reduceCtorEq]; done)) ?_
    rw [nI_add i2 1]
    simp only [J7_fill_53178_L2048_5] at ih
    exact ih
set_option maxHeartbeats 4000000 in
set_option maxRecDepth 3000 in
theorem c_J7_fill_53178_L2048_48 (z : Zp) (d : Nat) (M : Mem) (x1 : Int32) : GM z mJ7_fill_53178 (d) [.ref 48, .int x1] M (fun rs => rs = .inl (none, mrow M 48 ((J7_fill_53178_L2048 (M.1 48) x1).2))) := by
  refine GM.of oJ7_fill_53178.1 (Nat.le_of_ble_eq_true rfl) ?_
  show G z mJ7_fill_53178 (d) 0 0 0 [some (.ref 48), some (.int x1), none, none] [] M _
  obtain ⟨Q, hQ⟩ : ∃ Q : Rs → Prop, Q = (fun rs => rs = .inl (none, mrow M 48 ((J7_fill_53178_L2048 (M.1 48) x1).2))) := ⟨_, rfl⟩
  rw [← hQ]
  refine G.sl [(.iconst 0, 1, 0, 0, 0, nI 0), (.istore_n 2, 1, 2, 0, 0, 0), (.aload_n 0, 1, 0, 0, 0, 0), (.arraylength, 1, 0, 0, 0, 0), (.istore_n 3, 1, 3, 0, 0, 0)] [] (pc2 := 5) (ls2 := [some (.ref 48), some (.int x1), some (.int (nI 0)), some (.int (nI 2048))]) (st2 := []) (M2 := M) (Ps := []) (by decide +kernel) rfl rfl trivial ?_
  refine lp_J7_fill_53178_L2048_48_5 z d M Q (cN 2048) x1 (cN_eq 2048) ?_
  try simp only [mput, mrow_same, mrow_hit, mrow_miss, mrow_sw, idr_eq, ne_eq, Nat.reduceEqDiff, not_false_eq_true, Nat.reduceLT, reduceCtorEq]
  show G z mJ7_fill_53178 (d) 0 0 20 [none, none, none, none] [] (mrow M 48 (J7_fill_53178_L2048_5 (M.1 48) x1 (cN 2048))) Q
  exact G.retv (by decide +kernel) rfl (Nat.le_of_ble_eq_true rfl) (Nat.le_of_ble_eq_true rfl) ((by rw [hQ]; simp only [J7_fill_53178_L2048, mrow_self]))
set_option maxHeartbeats 4000000 in
set_option maxRecDepth 3000 in
theorem lp_w_lengthen_47_31 (z : Zp) (d : Nat) (M : Mem) (Q : Rs → Prop) (x1 : Int32) (n2 : Nat) (x4 : Int32) (x5 : Int32) (np : Nat) (hnp : np ≤ 8) (hp : M.1 3 0 = nI np) (b2 : n2 < 8) (hk : ∀ i6, i6 < np → w_lengthen_31_ok (M.1 11) (M.1 48) x1 n2 x4 x5 i6) (hX : G z mX8_lengthen (d + 1) 0 0 113 [none, none, none, none, none, none, none, none, none] [] (mrow M 48 (w_lengthen_31 (M.1 11) (M.1 48) x1 n2 x4 x5 np)) Q) : G z mX8_lengthen (d + 1) 0 0 31 [some (.ref 47), some (.int x1), some (.int (nI n2)), none, some (.int x4), some (.int x5), some (.int (nI 0)), none, none] [] M Q := by
  refine G.mem (M' := mrow M 48 (M.1 48)) (by simp only [mrow_self]) ?_
  refine down (n := np) (P := fun i6 => G z mX8_lengthen (d + 1) 0 0 31 [some (.ref 47), some (.int x1), some (.int (nI n2)), none, some (.int x4), some (.int x5), some (.int (nI i6)), none, none] [] (mrow M 48 (w_lengthen_31 (M.1 11) (M.1 48) x1 n2 x4 x5 i6)) Q) ?_ ?_ 0 (Nat.zero_le _)
  · skip
    refine G.sl [(.iload 6, 2, 6, 0, 0, 0), (.aload_n 0, 1, 0, 0, 0, 0), (.getfield 15, 3, 7, 0, 88, 0), (.getfield 45, 3, 6, 0, 16, 0)] [] (pc2 := 40) (ls2 := [some (.ref 47), some (.int x1), some (.int (nI n2)), none, some (.int x4), some (.int x5), some (.int (nI np)), none, none]) (st2 := [.int (M.1 3 0), .int (nI np)]) (M2 := mrow M 48 (w_lengthen_31 (M.1 11) (M.1 48) x1 n2 x4 x5 np)) (Ps := []) (by decide +kernel) rfl rfl trivial ?_
    rw [hp]
    refine G.ic_ge (off := (73)) (tgt := 113) (by decide +kernel) rfl (fun _ => ?_) (fun h9 => absurd (nI_le (by omega) (by omega)) h9)
    refine G.loc (ls2 := [none, none, none, none, none, none, none, none, none]) (by simp [subL]) ?_
    exact hX
  · skip
    intro i6 hi ih
    have hk := hk i6 hi
    simp only [w_lengthen_31_ok] at hk
    show G z mX8_lengthen (d + 1) 0 0 31 [some (.ref 47), some (.int x1), some (.int (nI n2)), none, some (.int x4), some (.int x5), some (.int (nI i6)), none, none] [] (mrow M 48 (w_lengthen_31 (M.1 11) (M.1 48) x1 n2 x4 x5 i6)) Q
    refine G.sl [(.iload 6, 2, 6, 0, 0, 0), (.aload_n 0, 1, 0, 0, 0, 0), (.getfield 15, 3, 7, 0, 88, 0), (.getfield 45, 3, 6, 0, 16, 0)] [] (pc2 := 40) (ls2 := [some (.ref 47), some (.int x1), some (.int (nI n2)), none, some (.int x4), some (.int x5), some (.int (nI i6)), none, none]) (st2 := [.int (M.1 3 0), .int (nI i6)]) (M2 := mrow M 48 (w_lengthen_31 (M.1 11) (M.1 48) x1 n2 x4 x5 i6)) (Ps := []) (by decide +kernel) rfl rfl trivial ?_
    rw [hp]
    refine G.ic_ge (off := (73)) (tgt := 113) (by decide +kernel) rfl (fun h9 => absurd h9 (nI_ge (by omega) (by omega))) (fun _ => ?_)
    refine G.sl [(.aload_n 0, 1, 0, 0, 0, 0), (.getfield 15, 3, 7, 0, 88, 0), (.iload_n 2, 1, 2, 0, 0, 0), (.iload 6, 2, 6, 0, 0, 0)] [] (pc2 := 50) (ls2 := [some (.ref 47), some (.int x1), some (.int (nI n2)), none, some (.int x4), some (.int x5), some (.int (nI i6)), none, none]) (st2 := [.int (nI i6), .int (nI n2), .ref 3]) (M2 := mrow M 48 (w_lengthen_31 (M.1 11) (M.1 48) x1 n2 x4 x5 i6)) (Ps := []) (by decide +kernel) rfl rfl trivial ?_
    obtain ⟨k4, hk⟩ := hk
    have t5 : GM z mX7_farFrom (d) [.ref 3, .int (nI n2), .int (nI i6)] (mrow M 48 (w_lengthen_31 (M.1 11) (M.1 48) x1 n2 x4 x5 i6)) (fun rs => rs = .inl (some (.int (v_farFrom (M.1 11) n2 i6)), mrow M 48 (w_lengthen_31 (M.1 11) (M.1 48) x1 n2 x4 x5 i6))) := by
      have q9 := c_v_farFrom_3 z d (mrow M 48 (w_lengthen_31 (M.1 11) (M.1 48) x1 n2 x4 x5 i6)) n2 i6 (by omega) (by omega)
      try simp only [mput, mrow_same, mrow_hit, mrow_miss, mrow_sw, idr_eq, ne_eq, Nat.reduceEqDiff, not_false_eq_true, Nat.reduceLT, reduceCtorEq] at q9
      exact q9
    refine G.callV (as := [.int (nI n2), .int (nI i6)]) (rest := []) (a := 3) oX7_farFrom lk_EvenFinders_Ways_28 (by decide +kernel) rfl rfl ⟨rfl, rfl⟩ (Nat.le_of_ble_eq_true rfl) rfl ⟨Nat.le_of_ble_eq_true rfl, Nat.le_of_ble_eq_true rfl⟩ t5 (fun v9 N9 h6 => ?_) (fun E9 N9 h6 => by cases h6)
    cases h6
    show G z mX8_lengthen (d + 1) 0 0 53 [some (.ref 47), some (.int x1), some (.int (nI n2)), none, some (.int x4), some (.int x5), some (.int (nI i6)), none, none] [.int (v_farFrom (M.1 11) n2 i6)] (mrow M 48 (w_lengthen_31 (M.1 11) (M.1 48) x1 n2 x4 x5 i6)) Q
    refine G.sl [(.istore 7, 2, 7, 0, 0, 0), (.iload 5, 2, 5, 0, 0, 0), (.iload 6, 2, 6, 0, 0, 0), (.ishr, 1, 0, 0, 0, 0), (.iconst 1, 1, 0, 0, 0, nI 1), (.iand, 1, 0, 0, 0, 0)] [] (pc2 := 62) (ls2 := [some (.ref 47), some (.int x1), some (.int (nI n2)), none, some (.int x4), some (.int x5), some (.int (nI i6)), some (.int (v_farFrom (M.1 11) n2 i6)), none]) (st2 := [.int ((x5 >>> ((nI i6) &&& 31)) &&& (nI 1))]) (M2 := mrow M 48 (w_lengthen_31 (M.1 11) (M.1 48) x1 n2 x4 x5 i6)) (Ps := []) (by decide +kernel) rfl rfl trivial ?_
    refine G.if_eq (off := (45)) (tgt := 107) (by decide +kernel) rfl (fun c7 => ?_) (fun c7 => ?_)
    · skip
      rw [if_pos c7] at hk
      refine G.sl [(.iinc 6 1, 3, 6, 0, 0, nI 1), (.goto (-79), 3, 31, 0, 0, 0)] [] (pc2 := 31) (ls2 := [some (.ref 47), some (.int x1), some (.int (nI n2)), none, some (.int x4), some (.int x5), some (.int ((nI i6) + nI 1)), some (.int (v_farFrom (M.1 11) n2 i6)), none]) (st2 := []) (M2 := mrow M 48 (w_lengthen_31 (M.1 11) (M.1 48) x1 n2 x4 x5 i6)) (Ps := []) (by decide +kernel) rfl rfl trivial ?_
      refine G.loc (ls2 := [some (.ref 47), some (.int x1), some (.int (nI n2)), none, some (.int x4), some (.int x5), some (.int ((nI i6) + nI 1)), none, none]) (by simp [subL]) ?_
      rw [nI_add i6 1]
      simp only [w_lengthen_31, if_pos c7] at ih
      exact ih
    · skip
      rw [if_neg c7] at hk
      refine G.sl [(.iload 7, 2, 7, 0, 0, 0), (.iconst (-1), 1, 0, 0, 0, (-1))] [] (pc2 := 68) (ls2 := [some (.ref 47), some (.int x1), some (.int (nI n2)), none, some (.int x4), some (.int x5), some (.int (nI i6)), some (.int (v_farFrom (M.1 11) n2 i6)), none]) (st2 := [.int ((-1)), .int (v_farFrom (M.1 11) n2 i6)]) (M2 := mrow M 48 (w_lengthen_31 (M.1 11) (M.1 48) x1 n2 x4 x5 i6)) (Ps := []) (by decide +kernel) rfl rfl trivial ?_
      refine G.ic_eq (off := (39)) (tgt := 107) (by decide +kernel) rfl (fun c8 => ?_) (fun c8 => ?_)
      · skip
        rw [if_pos c8] at hk
        refine G.sl [(.iinc 6 1, 3, 6, 0, 0, nI 1), (.goto (-79), 3, 31, 0, 0, 0)] [] (pc2 := 31) (ls2 := [some (.ref 47), some (.int x1), some (.int (nI n2)), none, some (.int x4), some (.int x5), some (.int ((nI i6) + nI 1)), some (.int (v_farFrom (M.1 11) n2 i6)), none]) (st2 := []) (M2 := mrow M 48 (w_lengthen_31 (M.1 11) (M.1 48) x1 n2 x4 x5 i6)) (Ps := []) (by decide +kernel) rfl rfl trivial ?_
        refine G.loc (ls2 := [some (.ref 47), some (.int x1), some (.int (nI n2)), none, some (.int x4), some (.int x5), some (.int ((nI i6) + nI 1)), none, none]) (by simp [subL]) ?_
        rw [nI_add i6 1]
        simp only [w_lengthen_31, if_neg c7, if_pos c8] at ih
        exact ih
      · skip
        rw [if_neg c8] at hk
        obtain ⟨k9, k10, hk⟩ := hk
        refine G.sl [(.iload_n 1, 1, 1, 0, 0, 0), (.iconst 1, 1, 0, 0, 0, nI 1), (.iload 6, 2, 6, 0, 0, 0), (.ishl, 1, 0, 0, 0, 0), (.ior, 1, 0, 0, 0, 0), (.bipush 8, 2, 0, 0, 0, nI 8), (.imul, 1, 0, 0, 0, 0), (.iload 6, 2, 6, 0, 0, 0), (.iadd, 1, 0, 0, 0, 0), (.istore 8, 2, 8, 0, 0, 0), (.aload_n 0, 1, 0, 0, 0, 0), (.getfield 9, 3, 7, 2, 90, 0), (.iload 8, 2, 8, 0, 0, 0), (.aload_n 0, 1, 0, 0, 0, 0), (.getfield 9, 3, 7, 2, 90, 0), (.iload 8, 2, 8, 0, 0, 0), (.iaload, 1, 0, 0, 0, 0), (.iload 4, 2, 4, 0, 0, 0), (.iload 7, 2, 7, 0, 0, 0), (.iadd, 1, 0, 0, 0, 0)] [((ix (x1 ||| ((nI 1) <<< ((nI i6) &&& 31)))) * 8) + i6] (pc2 := 103) (ls2 := [some (.ref 47), some (.int x1), some (.int (nI n2)), none, some (.int x4), some (.int x5), some (.int (nI i6)), some (.int (v_farFrom (M.1 11) n2 i6)), some (.int (((x1 ||| ((nI 1) <<< ((nI i6) &&& 31))) * (nI 8)) + (nI i6)))]) (st2 := [.int (x4 + (v_farFrom (M.1 11) n2 i6)), .int ((w_lengthen_31 (M.1 11) (M.1 48) x1 n2 x4 x5 i6) (((ix (x1 ||| ((nI 1) <<< ((nI i6) &&& 31)))) * 8) + i6)), .int (((x1 ||| ((nI 1) <<< ((nI i6) &&& 31))) * (nI 8)) + (nI i6)), .ref 48]) (M2 := mrow M 48 (w_lengthen_31 (M.1 11) (M.1 48) x1 n2 x4 x5 i6)) (Ps := [(((x1 ||| ((nI 1) <<< ((nI i6) &&& 31))) * (nI 8)) + (nI i6)) = nI (((ix (x1 ||| ((nI 1) <<< ((nI i6) &&& 31)))) * 8) + i6) ∧ (((ix (x1 ||| ((nI 1) <<< ((nI i6) &&& 31)))) * 8) + i6) < 2048]) (by decide +kernel) rfl rfl ⟨⟨(nAdd (nMul (ixE k9) rfl) rfl), k10⟩, trivial⟩ ?_
        refine G.mmin lm_EvenFinders_Ways_65 (by decide +kernel) (Nat.le_of_ble_eq_true rfl) (Nat.le_of_ble_eq_true rfl) (Nat.le_of_ble_eq_true rfl) ?_
        refine G.sl [(.iastore, 1, 0, 0, 0, 0), (.iinc 6 1, 3, 6, 0, 0, nI 1), (.goto (-79), 3, 31, 0, 0, 0)] [((ix (x1 ||| ((nI 1) <<< ((nI i6) &&& 31)))) * 8) + i6] (pc2 := 31) (ls2 := [some (.ref 47), some (.int x1), some (.int (nI n2)), none, some (.int x4), some (.int x5), some (.int ((nI i6) + nI 1)), some (.int (v_farFrom (M.1 11) n2 i6)), some (.int (((x1 ||| ((nI 1) <<< ((nI i6) &&& 31))) * (nI 8)) + (nI i6)))]) (st2 := []) (M2 := mput (mrow M 48 (w_lengthen_31 (M.1 11) (M.1 48) x1 n2 x4 x5 i6)) 48 (((ix (x1 ||| ((nI 1) <<< ((nI i6) &&& 31)))) * 8) + i6) (if (x4 + (v_farFrom (M.1 11) n2 i6)) < ((w_lengthen_31 (M.1 11) (M.1 48) x1 n2 x4 x5 i6) (((ix (x1 ||| ((nI 1) <<< ((nI i6) &&& 31)))) * 8) + i6)) then (x4 + (v_farFrom (M.1 11) n2 i6)) else ((w_lengthen_31 (M.1 11) (M.1 48) x1 n2 x4 x5 i6) (((ix (x1 ||| ((nI 1) <<< ((nI i6) &&& 31)))) * 8) + i6)))) (Ps := [(((x1 ||| ((nI 1) <<< ((nI i6) &&& 31))) * (nI 8)) + (nI i6)) = nI (((ix (x1 ||| ((nI 1) <<< ((nI i6) &&& 31)))) * 8) + i6) ∧ (((ix (x1 ||| ((nI 1) <<< ((nI i6) &&& 31)))) * 8) + i6) < 2048]) (by decide +kernel) rfl rfl ⟨⟨(nAdd (nMul (ixE k9) rfl) rfl), k10⟩, trivial⟩ ?_
        refine G.mem (M' := mrow M 48 (upd (w_lengthen_31 (M.1 11) (M.1 48) x1 n2 x4 x5 i6) (((ix (x1 ||| ((nI 1) <<< ((nI i6) &&& 31)))) * 8) + i6) (if (x4 + (v_farFrom (M.1 11) n2 i6)) < ((w_lengthen_31 (M.1 11) (M.1 48) x1 n2 x4 x5 i6) (((ix (x1 ||| ((nI 1) <<< ((nI i6) &&& 31)))) * 8) + i6)) then (x4 + (v_farFrom (M.1 11) n2 i6)) else ((w_lengthen_31 (M.1 11) (M.1 48) x1 n2 x4 x5 i6) (((ix (x1 ||| ((nI 1) <<< ((nI i6) &&& 31)))) * 8) + i6))))) (by first | rfl | (simp only [mput, mrow_same, mrow_hit, mrow_miss, mrow_sw, idr_eq, ne_eq, Nat.reduceEqDiff, not_false_eq_true, Nat.reduceLT, reduceCtorEq]; done)) ?_
        refine G.loc (ls2 := [some (.ref 47), some (.int x1), some (.int (nI n2)), none, some (.int x4), some (.int x5), some (.int ((nI i6) + nI 1)), none, none]) (by simp [subL]) ?_
        rw [nI_add i6 1]
        simp only [w_lengthen_31, if_neg c7, if_neg c8] at ih
        exact ih
set_option maxHeartbeats 4000000 in
set_option maxRecDepth 3000 in
theorem c_w_lengthen_47 (z : Zp) (d : Nat) (M : Mem) (x1 : Int32) (n2 : Nat) (x3 : Int32) (np : Nat) (hnp : np ≤ 8) (hp : M.1 3 0 = nI np) (b2 : n2 < 8) (hk : w_lengthen_ok (M.1 11) (M.1 48) np x1 n2 x3) : GM z mX8_lengthen (d + 1) [.ref 47, .int x1, .int (nI n2), .int x3] M (fun rs => rs = .inl (none, mrow M 48 ((w_lengthen (M.1 11) (M.1 48) np x1 n2 x3).2))) := by
  simp only [w_lengthen_ok] at hk
  refine GM.of oX8_lengthen.1 (Nat.le_of_ble_eq_true rfl) ?_
  show G z mX8_lengthen (d + 1) 0 0 0 [some (.ref 47), some (.int x1), some (.int (nI n2)), some (.int x3), none, none, none, none, none] [] M _
  obtain ⟨Q, hQ⟩ : ∃ Q : Rs → Prop, Q = (fun rs => rs = .inl (none, mrow M 48 ((w_lengthen (M.1 11) (M.1 48) np x1 n2 x3).2))) := ⟨_, rfl⟩
  rw [← hQ]
  obtain ⟨k1, k2, hk⟩ := hk
  refine G.sl [(.aload_n 0, 1, 0, 0, 0, 0), (.getfield 9, 3, 7, 2, 90, 0), (.iload_n 1, 1, 1, 0, 0, 0), (.bipush 8, 2, 0, 0, 0, nI 8), (.imul, 1, 0, 0, 0, 0), (.iload_n 2, 1, 2, 0, 0, 0), (.iadd, 1, 0, 0, 0, 0), (.iaload, 1, 0, 0, 0, 0), (.istore 4, 2, 4, 0, 0, 0), (.iload 4, 2, 4, 0, 0, 0), (.ldc 34, 2, 0, 0, 3, nI 1000000)] [((ix x1) * 8) + n2] (pc2 := 17) (ls2 := [some (.ref 47), some (.int x1), some (.int (nI n2)), some (.int x3), some (.int (M.1 48 (((ix x1) * 8) + n2))), none, none, none, none]) (st2 := [.int (nI 1000000), .int (M.1 48 (((ix x1) * 8) + n2))]) (M2 := M) (Ps := [((x1 * (nI 8)) + (nI n2)) = nI (((ix x1) * 8) + n2) ∧ (((ix x1) * 8) + n2) < 2048]) (by decide +kernel) rfl rfl ⟨⟨(nAdd (nMul (ixE k1) rfl) rfl), k2⟩, trivial⟩ ?_
  refine G.ic_lt (off := (4)) (tgt := 21) (by decide +kernel) rfl (fun c3 => ?_) (fun c3 => ?_)
  · skip
    rw [if_pos c3] at hk
    refine G.sl [(.iload_n 3, 1, 3, 0, 0, 0), (.iload_n 1, 1, 1, 0, 0, 0), (.iconst (-1), 1, 0, 0, 0, (-1)), (.ixor, 1, 0, 0, 0, 0), (.iand, 1, 0, 0, 0, 0), (.istore 5, 2, 5, 0, 0, 0), (.iconst 0, 1, 0, 0, 0, nI 0), (.istore 6, 2, 6, 0, 0, 0)] [] (pc2 := 31) (ls2 := [some (.ref 47), some (.int x1), some (.int (nI n2)), some (.int x3), some (.int (M.1 48 (((ix x1) * 8) + n2))), some (.int (x3 &&& (x1 ^^^ ((-1))))), some (.int (nI 0)), none, none]) (st2 := []) (M2 := M) (Ps := []) (by decide +kernel) rfl rfl trivial ?_
    refine G.loc (ls2 := [some (.ref 47), some (.int x1), some (.int (nI n2)), none, some (.int (M.1 48 (((ix x1) * 8) + n2))), some (.int (x3 &&& (x1 ^^^ ((-1))))), some (.int (nI 0)), none, none]) (by simp [subL]) ?_
    obtain ⟨k11, hk⟩ := hk
    refine lp_w_lengthen_47_31 z d M Q x1 n2 (M.1 48 (((ix x1) * 8) + n2)) (x3 &&& (x1 ^^^ ((-1)))) np hnp hp (by omega) (by first | (simp only [mput, mrow_same, mrow_hit, mrow_miss, mrow_sw, idr_eq, ne_eq, Nat.reduceEqDiff, not_false_eq_true, Nat.reduceLT, reduceCtorEq]; exact k11) | exact k11) ?_
    try simp only [mput, mrow_same, mrow_hit, mrow_miss, mrow_sw, idr_eq, ne_eq, Nat.reduceEqDiff, not_false_eq_true, Nat.reduceLT, reduceCtorEq]
    show G z mX8_lengthen (d + 1) 0 0 113 [none, none, none, none, none, none, none, none, none] [] (mrow M 48 (w_lengthen_31 (M.1 11) (M.1 48) x1 n2 (M.1 48 (((ix x1) * 8) + n2)) (x3 &&& (x1 ^^^ ((-1)))) np)) Q
    exact G.retv (by decide +kernel) rfl (Nat.le_of_ble_eq_true rfl) (Nat.le_of_ble_eq_true rfl) ((by rw [hQ]; simp only [w_lengthen, if_pos c3, mrow_self]))
  · skip
    rw [if_neg c3] at hk
    refine G.mem (M' := mrow M 48 (M.1 48)) (((mrow_id (N := M) (c := 48) (f := M.1 48) (by first | rfl | (simp only [mput, mrow_same, mrow_hit, mrow_miss, mrow_sw, idr_eq, ne_eq, Nat.reduceEqDiff, not_false_eq_true, Nat.reduceLT, reduceCtorEq]; done))).symm).trans (by first | rfl | (simp only [mput, mrow_same, mrow_hit, mrow_miss, mrow_sw, idr_eq, ne_eq, Nat.reduceEqDiff, not_false_eq_true, Nat.reduceLT, reduceCtorEq]; done))) ?_
    exact G.retv (by decide +kernel) rfl (Nat.le_of_ble_eq_true rfl) (Nat.le_of_ble_eq_true rfl) ((by rw [hQ]; simp only [w_lengthen, if_neg c3, mrow_self]))
