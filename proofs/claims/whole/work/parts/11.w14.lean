set_option maxHeartbeats 4000000 in
set_option maxRecDepth 3000 in
theorem lp_k_fits_54_33 (z : Zp) (d : Nat) (M : Mem) (Q : Rs → Prop) (x1 : Int32) (np : Nat) (hnp : np ≤ 8) (cp : M.1 54 20 = nI np) (nt : Nat) (hnt : nt ≤ 10) (ct : M.1 54 22 = nI nt) (hX : G z mX12_fits (d + 3) 0 0 101 [none, some (.int x1), some (.int ((k_fits_33 (M.1 61) (M.1 72) (M.1 75) np nt x1 nt).1)), some (.int ((k_fits_33 (M.1 61) (M.1 72) (M.1 75) np nt x1 nt).2)), none, none] [] M Q) : G z mX12_fits (d + 3) 0 0 33 [some (.ref 54), some (.int x1), some (.int (nI 0)), some (.int ((-1))), some (.int (nI 0)), none] [] M Q := by
  refine down (n := nt) (P := fun i4 => G z mX12_fits (d + 3) 0 0 33 [some (.ref 54), some (.int x1), some (.int ((k_fits_33 (M.1 61) (M.1 72) (M.1 75) np nt x1 i4).1)), some (.int ((k_fits_33 (M.1 61) (M.1 72) (M.1 75) np nt x1 i4).2)), some (.int (nI i4)), none] [] M Q) ?_ ?_ 0 (Nat.zero_le _)
  · skip
    refine G.sl [(.iload 4, 2, 4, 0, 0, 0), (.aload_n 0, 1, 0, 0, 0, 0), (.getfield 162, 3, 11, 22, 145, 0)] [] (pc2 := 39) (ls2 := [some (.ref 54), some (.int x1), some (.int ((k_fits_33 (M.1 61) (M.1 72) (M.1 75) np nt x1 nt).1)), some (.int ((k_fits_33 (M.1 61) (M.1 72) (M.1 75) np nt x1 nt).2)), some (.int (nI nt)), none]) (st2 := [.int (M.1 54 22), .int (nI nt)]) (M2 := M) (Ps := []) (by decide +kernel) rfl rfl trivial ?_
    rw [ct]
    refine G.ic_ge (off := (62)) (tgt := 101) (by decide +kernel) rfl (fun _ => ?_) (fun h9 => absurd (nI_le (by omega) (by omega)) h9)
    refine G.loc (ls2 := [none, some (.int x1), some (.int ((k_fits_33 (M.1 61) (M.1 72) (M.1 75) np nt x1 nt).1)), some (.int ((k_fits_33 (M.1 61) (M.1 72) (M.1 75) np nt x1 nt).2)), none, none]) (by simp [subL]) ?_
    exact hX
  · skip
    intro i4 hi ih
    rcases g18 : k_fits_33 (M.1 61) (M.1 72) (M.1 75) np nt x1 i4 with ⟨s2, s3⟩
    try simp only [g18]
    show G z mX12_fits (d + 3) 0 0 33 [some (.ref 54), some (.int x1), some (.int s2), some (.int s3), some (.int (nI i4)), none] [] M Q
    refine G.sl [(.iload 4, 2, 4, 0, 0, 0), (.aload_n 0, 1, 0, 0, 0, 0), (.getfield 162, 3, 11, 22, 145, 0)] [] (pc2 := 39) (ls2 := [some (.ref 54), some (.int x1), some (.int s2), some (.int s3), some (.int (nI i4)), none]) (st2 := [.int (M.1 54 22), .int (nI i4)]) (M2 := M) (Ps := []) (by decide +kernel) rfl rfl trivial ?_
    rw [ct]
    refine G.ic_ge (off := (62)) (tgt := 101) (by decide +kernel) rfl (fun h9 => absurd h9 (nI_ge (by omega) (by omega))) (fun _ => ?_)
    refine G.sl [(.iconst 0, 1, 0, 0, 0, nI 0), (.istore 5, 2, 5, 0, 0, 0)] [] (pc2 := 45) (ls2 := [some (.ref 54), some (.int x1), some (.int s2), some (.int s3), some (.int (nI i4)), some (.int (nI 0))]) (st2 := []) (M2 := M) (Ps := []) (by decide +kernel) rfl rfl trivial ?_
    refine lp_k_fits_54_45 z d M Q x1 i4 s2 s3 np hnp cp nt hnt ct (by omega) ?_
    try simp only [mput, mrow_same, mrow_hit, mrow_miss, mrow_sw, idr_eq, ne_eq, Nat.reduceEqDiff, not_false_eq_true, Nat.reduceLT, reduceCtorEq]
    rcases g26 : k_fits_45 (M.1 61) (M.1 72) (M.1 75) np nt x1 i4 s2 s3 np with ⟨v27, v28⟩
    show G z mX12_fits (d + 3) 0 0 95 [some (.ref 54), some (.int x1), some (.int v27), some (.int v28), some (.int (nI i4)), none] [] M Q
    refine G.sl [(.iinc 4 1, 3, 4, 0, 0, nI 1), (.goto (-65), 3, 33, 0, 0, 0)] [] (pc2 := 33) (ls2 := [some (.ref 54), some (.int x1), some (.int v27), some (.int v28), some (.int ((nI i4) + nI 1)), none]) (st2 := []) (M2 := M) (Ps := []) (by decide +kernel) rfl rfl trivial ?_
    rw [nI_add i4 1]
    simp only [k_fits_33, g18, g26] at ih
    exact ih
set_option maxHeartbeats 4000000 in
set_option maxRecDepth 3000 in
theorem c_k_fits_54 (z : Zp) (d : Nat) (M : Mem) (x1 : Int32) (hk : k_fits_ok (M.1 54) (M.1 55) (M.1 61) (M.1 71) (M.1 72) (M.1 75) x1) : GM z mX12_fits (d + 3) [.ref 54, .int x1] M (fun rs => rs = .inl (some (.int ((k_fits (M.1 54) (M.1 55) (M.1 61) (M.1 71) (M.1 72) (M.1 75) x1).1)), mrow (mrow (mrow M 54 ((k_fits (M.1 54) (M.1 55) (M.1 61) (M.1 71) (M.1 72) (M.1 75) x1).2.1)) 55 ((k_fits (M.1 54) (M.1 55) (M.1 61) (M.1 71) (M.1 72) (M.1 75) x1).2.2.1)) 72 ((k_fits (M.1 54) (M.1 55) (M.1 61) (M.1 71) (M.1 72) (M.1 75) x1).2.2.2))) := by
  simp only [k_fits_ok] at hk
  refine GM.of oX12_fits.1 (Nat.le_of_ble_eq_true rfl) ?_
  show G z mX12_fits (d + 3) 0 0 0 [some (.ref 54), some (.int x1), none, none, none, none] [] M _
  obtain ⟨Q, hQ⟩ : ∃ Q : Rs → Prop, Q = (fun rs => rs = .inl (some (.int ((k_fits (M.1 54) (M.1 55) (M.1 61) (M.1 71) (M.1 72) (M.1 75) x1).1)), mrow (mrow (mrow M 54 ((k_fits (M.1 54) (M.1 55) (M.1 61) (M.1 71) (M.1 72) (M.1 75) x1).2.1)) 55 ((k_fits (M.1 54) (M.1 55) (M.1 61) (M.1 71) (M.1 72) (M.1 75) x1).2.2.1)) 72 ((k_fits (M.1 54) (M.1 55) (M.1 61) (M.1 71) (M.1 72) (M.1 75) x1).2.2.2))) := ⟨_, rfl⟩
  rw [← hQ]
  refine G.sl [(.aload_n 0, 1, 0, 0, 0, 0), (.iconst 0, 1, 0, 0, 0, nI 0), (.putfield 3, 3, 11, 0, 123, 0), (.aload_n 0, 1, 0, 0, 0, 0), (.iload_n 1, 1, 1, 0, 0, 0), (.iconst 0, 1, 0, 0, 0, nI 0), (.iconst 1, 1, 0, 0, 0, nI 1)] [] (pc2 := 9) (ls2 := [some (.ref 54), some (.int x1), none, none, none, none]) (st2 := [.int (nI 1), .int (nI 0), .int x1, .ref 54]) (M2 := mput M 54 0 (nI 0)) (Ps := []) (by decide +kernel) rfl rfl trivial ?_
  refine G.mem (M' := mrow M 54 (upd (M.1 54) 0 (nI 0))) (by first | rfl | (simp only [mput, mrow_same, mrow_hit, mrow_miss, mrow_sw, idr_eq, ne_eq, Nat.reduceEqDiff, not_false_eq_true, Nat.reduceLT, reduceCtorEq]; done)) ?_
  obtain ⟨k1, hk⟩ := hk
  have t2 : GM z mX12_within (d + 2) [.int x1, .int (nI 0), .int (nI 1)] (mrow M 54 (upd (M.1 54) 0 (nI 0))) (fun rs => rs = .inl (some (.int (k_within x1 (nI 0) (nI 1))), mrow M 54 (upd (M.1 54) 0 (nI 0)))) := by
    have q9 := c_k_within z (d + 2) (mrow M 54 (upd (M.1 54) 0 (nI 0))) x1 (nI 0) (nI 1)
    try simp only [mput, mrow_same, mrow_hit, mrow_miss, mrow_sw, idr_eq, ne_eq, Nat.reduceEqDiff, not_false_eq_true, Nat.reduceLT, reduceCtorEq] at q9
    exact q9
  refine G.callS (as := [.int x1, .int (nI 0), .int (nI 1)]) (rest := [.ref 54]) oX12_within lk_EvenFindersModel_379 (by decide +kernel) rfl (Nat.le_of_ble_eq_true rfl) rfl ⟨Nat.le_of_ble_eq_true rfl, Nat.le_of_ble_eq_true rfl⟩ t2 (fun v9 N9 h3 => ?_) (fun E9 N9 h3 => by cases h3)
  cases h3
  show G z mX12_fits (d + 3) 0 0 12 [some (.ref 54), some (.int x1), none, none, none, none] [.int (k_within x1 (nI 0) (nI 1)), .ref 54] (mrow M 54 (upd (M.1 54) 0 (nI 0))) Q
  refine G.sl [(.iconst 1, 1, 0, 0, 0, nI 1), (.iconst 1, 1, 0, 0, 0, nI 1)] [] (pc2 := 14) (ls2 := [some (.ref 54), some (.int x1), none, none, none, none]) (st2 := [.int (nI 1), .int (nI 1), .int (k_within x1 (nI 0) (nI 1)), .ref 54]) (M2 := mrow M 54 (upd (M.1 54) 0 (nI 0))) (Ps := []) (by decide +kernel) rfl rfl trivial ?_
  obtain ⟨k4, hk⟩ := hk
  rcases g5 : k_may_1 (upd (M.1 54) 0 (nI 0)) (M.1 55) (k_within x1 (nI 0) (nI 1)) (nI 1) with ⟨v6, r7, r8⟩
  try simp only [g5] at hk
  have ev6 : v6 = 0 ∨ v6 = 1 := by
    have q9 := k_may_1_01 (upd (M.1 54) 0 (nI 0)) (M.1 55) (k_within x1 (nI 0) (nI 1)) (nI 1)
    rw [g5] at q9
    exact q9
  have t9 : GM z mX12_may (d + 2) [.ref 54, .int (k_within x1 (nI 0) (nI 1)), .int (nI 1), .int (nI 1)] (mrow M 54 (upd (M.1 54) 0 (nI 0))) (fun rs => rs = .inl (some (.int v6), mrow (mrow M 54 r7) 55 r8)) := by
    have q9 := c_k_may_1_54 z (d + 2) (mrow M 54 (upd (M.1 54) 0 (nI 0))) (k_within x1 (nI 0) (nI 1)) (nI 1)
    try simp only [mput, mrow_same, mrow_hit, mrow_miss, mrow_sw, idr_eq, ne_eq, Nat.reduceEqDiff, not_false_eq_true, Nat.reduceLT, reduceCtorEq, g5] at q9
    exact q9
  refine G.callV (as := [.int (k_within x1 (nI 0) (nI 1)), .int (nI 1), .int (nI 1)]) (rest := []) (a := 54) oX12_may lk_EvenFindersModel_213 (by decide +kernel) rfl rfl ⟨rfl, rfl⟩ (Nat.le_of_ble_eq_true rfl) rfl ⟨Nat.le_of_ble_eq_true rfl, Nat.le_of_ble_eq_true rfl⟩ t9 (fun v9 N9 h10 => ?_) (fun E9 N9 h10 => by cases h10)
  cases h10
  show G z mX12_fits (d + 3) 0 0 17 [some (.ref 54), some (.int x1), none, none, none, none] [.int v6] (mrow (mrow M 54 r7) 55 r8) Q
  refine G.if_ne (off := (5)) (tgt := 22) (by decide +kernel) rfl (fun c11 => ?_) (fun c11 => ?_)
  · skip
    rw [if_neg c11] at hk
    refine G.sl [(.aload_n 0, 1, 0, 0, 0, 0)] [] (pc2 := 23) (ls2 := [some (.ref 54), some (.int x1), none, none, none, none]) (st2 := [.ref 54]) (M2 := mrow (mrow M 54 r7) 55 r8) (Ps := []) (by decide +kernel) rfl rfl trivial ?_
    obtain ⟨k12, hk⟩ := hk
    rcases g13 : k_take (M.1 71) (M.1 72) with ⟨u14, r15⟩
    try simp only [g13] at hk
    have t16 : GM z mX12_take (d + 2) [.ref 54] (mrow (mrow M 54 r7) 55 r8) (fun rs => rs = .inl (none, mrow (mrow (mrow M 54 r7) 55 r8) 72 r15)) := by
      have q9 := c_k_take_54 z (d + 1) (mrow (mrow M 54 r7) 55 r8) k12
      try simp only [mput, mrow_same, mrow_hit, mrow_miss, mrow_sw, idr_eq, ne_eq, Nat.reduceEqDiff, not_false_eq_true, Nat.reduceLT, reduceCtorEq, g13] at q9
      exact q9
    refine G.callV (as := []) (rest := []) (a := 54) oX12_take lk_EvenFindersModel_320 (by decide +kernel) rfl rfl ⟨rfl, rfl⟩ (Nat.le_of_ble_eq_true rfl) rfl ⟨Nat.le_of_ble_eq_true rfl, Nat.le_of_ble_eq_true rfl⟩ t16 (fun v9 N9 h17 => ?_) (fun E9 N9 h17 => by cases h17)
    cases h17
    show G z mX12_fits (d + 3) 0 0 26 [some (.ref 54), some (.int x1), none, none, none, none] [] (mrow (mrow (mrow M 54 r7) 55 r8) 72 r15) Q
    refine G.sl [(.iconst 0, 1, 0, 0, 0, nI 0), (.istore_n 2, 1, 2, 0, 0, 0), (.iconst (-1), 1, 0, 0, 0, (-1)), (.istore_n 3, 1, 3, 0, 0, 0), (.iconst 0, 1, 0, 0, 0, nI 0), (.istore 4, 2, 4, 0, 0, 0)] [] (pc2 := 33) (ls2 := [some (.ref 54), some (.int x1), some (.int (nI 0)), some (.int ((-1))), some (.int (nI 0)), none]) (st2 := []) (M2 := mrow (mrow (mrow M 54 r7) 55 r8) 72 r15) (Ps := []) (by decide +kernel) rfl rfl trivial ?_
    obtain ⟨k29, k30, k31, k32, hk⟩ := hk
    refine lp_k_fits_54_33 z d (mrow (mrow (mrow M 54 r7) 55 r8) 72 r15) Q x1 (ix (r7 20)) k30 (ixE k29) (ix (r7 22)) k32 (ixE k31) ?_
    try simp only [mput, mrow_same, mrow_hit, mrow_miss, mrow_sw, idr_eq, ne_eq, Nat.reduceEqDiff, not_false_eq_true, Nat.reduceLT, reduceCtorEq]
    rcases g34 : k_fits_33 (M.1 61) r15 (M.1 75) (ix (r7 20)) (ix (r7 22)) x1 (ix (r7 22)) with ⟨v35, v36⟩
    show G z mX12_fits (d + 3) 0 0 101 [none, some (.int x1), some (.int v35), some (.int v36), none, none] [] (mrow (mrow (mrow M 54 r7) 55 r8) 72 r15) Q
    refine G.sl [(.iload_n 1, 1, 1, 0, 0, 0)] [] (pc2 := 102) (ls2 := [none, some (.int x1), some (.int v35), some (.int v36), none, none]) (st2 := [.int x1]) (M2 := mrow (mrow (mrow M 54 r7) 55 r8) 72 r15) (Ps := []) (by decide +kernel) rfl rfl trivial ?_
    refine G.if_ne (off := (7)) (tgt := 109) (by decide +kernel) rfl (fun c37 => ?_) (fun c37 => ?_)
    · skip
      refine G.sl [(.iload_n 3, 1, 3, 0, 0, 0)] [] (pc2 := 110) (ls2 := [none, some (.int x1), some (.int v35), some (.int v36), none, none]) (st2 := [.int v36]) (M2 := mrow (mrow (mrow M 54 r7) 55 r8) 72 r15) (Ps := []) (by decide +kernel) rfl rfl trivial ?_
      exact G.reti (by decide +kernel) rfl rfl (Nat.le_of_ble_eq_true rfl) (Nat.le_of_ble_eq_true rfl) ((by rw [hQ]; simp only [k_fits, g5, if_neg c11, g13, g34, if_neg c37, mrow_self]))
    · skip
      refine G.sl [(.iload_n 2, 1, 2, 0, 0, 0), (.goto 4, 3, 110, 0, 0, 0)] [] (pc2 := 110) (ls2 := [none, some (.int x1), some (.int v35), some (.int v36), none, none]) (st2 := [.int v35]) (M2 := mrow (mrow (mrow M 54 r7) 55 r8) 72 r15) (Ps := []) (by decide +kernel) rfl rfl trivial ?_
      exact G.reti (by decide +kernel) rfl rfl (Nat.le_of_ble_eq_true rfl) (Nat.le_of_ble_eq_true rfl) ((by rw [hQ]; simp only [k_fits, g5, if_neg c11, g13, g34, if_pos c37, mrow_self]))
  · skip
    rw [if_pos c11] at hk
    refine G.sl [(.iconst 0, 1, 0, 0, 0, nI 0)] [] (pc2 := 21) (ls2 := [some (.ref 54), some (.int x1), none, none, none, none]) (st2 := [.int (nI 0)]) (M2 := mrow (mrow M 54 r7) 55 r8) (Ps := []) (by decide +kernel) rfl rfl trivial ?_
    refine G.mem (M' := mrow (mrow (mrow M 54 r7) 55 r8) 72 (M.1 72)) (((mrow_id (N := mrow (mrow M 54 r7) 55 r8) (c := 72) (f := M.1 72) (by first | rfl | (simp only [mput, mrow_same, mrow_hit, mrow_miss, mrow_sw, idr_eq, ne_eq, Nat.reduceEqDiff, not_false_eq_true, Nat.reduceLT, reduceCtorEq]; done))).symm).trans (by first | rfl | (simp only [mput, mrow_same, mrow_hit, mrow_miss, mrow_sw, idr_eq, ne_eq, Nat.reduceEqDiff, not_false_eq_true, Nat.reduceLT, reduceCtorEq]; done))) ?_
    exact G.reti (by decide +kernel) rfl rfl (Nat.le_of_ble_eq_true rfl) (Nat.le_of_ble_eq_true rfl) ((by rw [hQ]; simp only [k_fits, g5, if_pos c11, mrow_self]))
set_option maxHeartbeats 4000000 in
set_option maxRecDepth 3000 in
theorem lp_k_worstOf_54_2 (z : Zp) (d : Nat) (M : Mem) (Q : Rs → Prop) (nn : Nat) (x1 : Int32) (hnn : nn = 601) (hX : G z mX12_worstOf (d + 3) 0 0 22 [some (.ref 54), some (.int x1), none, none, none, none] [] (mrow M 78 (k_worstOf_2 (M.1 78) x1 nn)) Q) : G z mX12_worstOf (d + 3) 0 0 2 [some (.ref 54), some (.int x1), some (.int (nI 0)), none, none, none] [] M Q := by
  refine G.mem (M' := mrow M 78 (M.1 78)) (by simp only [mrow_self]) ?_
  refine down (n := nn) (P := fun i2 => G z mX12_worstOf (d + 3) 0 0 2 [some (.ref 54), some (.int x1), some (.int (nI i2)), none, none, none] [] (mrow M 78 (k_worstOf_2 (M.1 78) x1 i2)) Q) ?_ ?_ 0 (Nat.zero_le _)
  · skip
    refine G.sl [(.iload_n 2, 1, 2, 0, 0, 0), (.sipush 600, 3, 0, 0, 0, nI 600)] [] (pc2 := 6) (ls2 := [some (.ref 54), some (.int x1), some (.int (nI nn)), none, none, none]) (st2 := [.int (nI 600), .int (nI nn)]) (M2 := mrow M 78 (k_worstOf_2 (M.1 78) x1 nn)) (Ps := []) (by decide +kernel) rfl rfl trivial ?_
    refine G.ic_gt (off := (16)) (tgt := 22) (by decide +kernel) rfl (fun _ => ?_) (fun h9 => absurd (nI_lt (by omega) (by omega)) h9)
    refine G.loc (ls2 := [some (.ref 54), some (.int x1), none, none, none, none]) (by simp [subL]) ?_
    exact hX
  · skip
    intro i2 hi ih
    show G z mX12_worstOf (d + 3) 0 0 2 [some (.ref 54), some (.int x1), some (.int (nI i2)), none, none, none] [] (mrow M 78 (k_worstOf_2 (M.1 78) x1 i2)) Q
    refine G.sl [(.iload_n 2, 1, 2, 0, 0, 0), (.sipush 600, 3, 0, 0, 0, nI 600)] [] (pc2 := 6) (ls2 := [some (.ref 54), some (.int x1), some (.int (nI i2)), none, none, none]) (st2 := [.int (nI 600), .int (nI i2)]) (M2 := mrow M 78 (k_worstOf_2 (M.1 78) x1 i2)) (Ps := []) (by decide +kernel) rfl rfl trivial ?_
    refine G.ic_gt (off := (16)) (tgt := 22) (by decide +kernel) rfl (fun h9 => absurd h9 (nI_nlt (by omega) (by omega))) (fun _ => ?_)
    refine G.sl [(.aload_n 0, 1, 0, 0, 0, 0), (.getfield 86, 3, 11, 48, 171, 0), (.iload_n 2, 1, 2, 0, 0, 0), (.iconst 0, 1, 0, 0, 0, nI 0), (.iastore, 1, 0, 0, 0, 0), (.iinc 2 1, 3, 2, 0, 0, nI 1), (.goto (-17), 3, 2, 0, 0, 0)] [i2] (pc2 := 2) (ls2 := [some (.ref 54), some (.int x1), some (.int ((nI i2) + nI 1)), none, none, none]) (st2 := []) (M2 := mput (mrow M 78 (k_worstOf_2 (M.1 78) x1 i2)) 78 i2 (nI 0)) (Ps := [(nI i2) = nI i2 ∧ i2 < 601]) (by decide +kernel) rfl rfl ⟨⟨rfl, (by omega)⟩, trivial⟩ ?_
    refine G.mem (M' := mrow M 78 (upd (k_worstOf_2 (M.1 78) x1 i2) i2 (nI 0))) (by first | rfl | (simp only [mput, mrow_same, mrow_hit, mrow_miss, mrow_sw, idr_eq, ne_eq, Nat.reduceEqDiff, not_false_eq_true, Nat.reduceLT, reduceCtorEq]; done)) ?_
    rw [nI_add i2 1]
    simp only [k_worstOf_2] at ih
    exact ih
set_option maxHeartbeats 4000000 in
set_option maxRecDepth 3000 in
theorem lp_k_worstOf_54_37 (z : Zp) (d : Nat) (M : Mem) (Q : Rs → Prop) (x1 : Int32) (n3 : Nat) (a2 : Int32) (np : Nat) (hnp : np ≤ 8) (cp : M.1 54 20 = nI np) (nt : Nat) (hnt : nt ≤ 10) (ct : M.1 54 22 = nI nt) (b3 : n3 < 10) (hk : ∀ i4, i4 < np → k_worstOf_37_ok (M.1 61) (M.1 72) (M.1 75) (M.1 78) np nt x1 n3 a2 i4) (hX : G z mX12_worstOf (d + 3) 0 0 109 [some (.ref 54), some (.int x1), some (.int ((k_worstOf_37 (M.1 61) (M.1 72) (M.1 75) (M.1 78) np nt x1 n3 a2 np).1)), some (.int (nI n3)), none, none] [] (mrow M 78 ((k_worstOf_37 (M.1 61) (M.1 72) (M.1 75) (M.1 78) np nt x1 n3 a2 np).2)) Q) : G z mX12_worstOf (d + 3) 0 0 37 [some (.ref 54), some (.int x1), some (.int a2), some (.int (nI n3)), some (.int (nI 0)), none] [] M Q := by
  refine G.mem (M' := mrow M 78 (M.1 78)) (by simp only [mrow_self]) ?_
  refine down (n := np) (P := fun i4 => G z mX12_worstOf (d + 3) 0 0 37 [some (.ref 54), some (.int x1), some (.int ((k_worstOf_37 (M.1 61) (M.1 72) (M.1 75) (M.1 78) np nt x1 n3 a2 i4).1)), some (.int (nI n3)), some (.int (nI i4)), none] [] (mrow M 78 ((k_worstOf_37 (M.1 61) (M.1 72) (M.1 75) (M.1 78) np nt x1 n3 a2 i4).2)) Q) ?_ ?_ 0 (Nat.zero_le _)
  · skip
    refine G.sl [(.iload 4, 2, 4, 0, 0, 0), (.aload_n 0, 1, 0, 0, 0, 0), (.getfield 156, 3, 11, 20, 143, 0)] [] (pc2 := 43) (ls2 := [some (.ref 54), some (.int x1), some (.int ((k_worstOf_37 (M.1 61) (M.1 72) (M.1 75) (M.1 78) np nt x1 n3 a2 np).1)), some (.int (nI n3)), some (.int (nI np)), none]) (st2 := [.int (M.1 54 20), .int (nI np)]) (M2 := mrow M 78 ((k_worstOf_37 (M.1 61) (M.1 72) (M.1 75) (M.1 78) np nt x1 n3 a2 np).2)) (Ps := []) (by decide +kernel) rfl rfl trivial ?_
    rw [cp]
    refine G.ic_ge (off := (66)) (tgt := 109) (by decide +kernel) rfl (fun _ => ?_) (fun h9 => absurd (nI_le (by omega) (by omega)) h9)
    refine G.loc (ls2 := [some (.ref 54), some (.int x1), some (.int ((k_worstOf_37 (M.1 61) (M.1 72) (M.1 75) (M.1 78) np nt x1 n3 a2 np).1)), some (.int (nI n3)), none, none]) (by simp [subL]) ?_
    exact hX
  · skip
    intro i4 hi ih
    have hk := hk i4 hi
    simp only [k_worstOf_37_ok] at hk
    rcases g3 : k_worstOf_37 (M.1 61) (M.1 72) (M.1 75) (M.1 78) np nt x1 n3 a2 i4 with ⟨s2, q78⟩
    try simp only [g3] at hk
    try simp only [g3]
    show G z mX12_worstOf (d + 3) 0 0 37 [some (.ref 54), some (.int x1), some (.int s2), some (.int (nI n3)), some (.int (nI i4)), none] [] (mrow M 78 q78) Q
    refine G.sl [(.iload 4, 2, 4, 0, 0, 0), (.aload_n 0, 1, 0, 0, 0, 0), (.getfield 156, 3, 11, 20, 143, 0)] [] (pc2 := 43) (ls2 := [some (.ref 54), some (.int x1), some (.int s2), some (.int (nI n3)), some (.int (nI i4)), none]) (st2 := [.int (M.1 54 20), .int (nI i4)]) (M2 := mrow M 78 q78) (Ps := []) (by decide +kernel) rfl rfl trivial ?_
    rw [cp]
    refine G.ic_ge (off := (66)) (tgt := 109) (by decide +kernel) rfl (fun h9 => absurd h9 (nI_ge (by omega) (by omega))) (fun _ => ?_)
    refine G.sl [(.aload_n 0, 1, 0, 0, 0, 0), (.iload_n 3, 1, 3, 0, 0, 0), (.iload 4, 2, 4, 0, 0, 0)] [] (pc2 := 50) (ls2 := [some (.ref 54), some (.int x1), some (.int s2), some (.int (nI n3)), some (.int (nI i4)), none]) (st2 := [.int (nI i4), .int (nI n3), .ref 54]) (M2 := mrow M 78 q78) (Ps := []) (by decide +kernel) rfl rfl trivial ?_
    obtain ⟨k4, hk⟩ := hk
    have t5 : GM z mX12_isFit (d + 2) [.ref 54, .int (nI n3), .int (nI i4)] (mrow M 78 q78) (fun rs => rs = .inl (some (.int (k_isFit (M.1 61) (M.1 72) (M.1 75) np nt (nI n3) (nI i4))), mrow M 78 q78)) := by
      have q9 := c_k_isFit_54 z d (mrow M 78 q78) (nI n3) (nI i4) np hnp cp nt hnt ct
      try simp only [mput, mrow_same, mrow_hit, mrow_miss, mrow_sw, idr_eq, ne_eq, Nat.reduceEqDiff, not_false_eq_true, Nat.reduceLT, reduceCtorEq] at q9
      exact q9
    refine G.callV (as := [.int (nI n3), .int (nI i4)]) (rest := []) (a := 54) oX12_isFit lk_EvenFindersModel_409 (by decide +kernel) rfl rfl ⟨rfl, rfl⟩ (Nat.le_of_ble_eq_true rfl) rfl ⟨Nat.le_of_ble_eq_true rfl, Nat.le_of_ble_eq_true rfl⟩ t5 (fun v9 N9 h6 => ?_) (fun E9 N9 h6 => by cases h6)
    cases h6
    show G z mX12_worstOf (d + 3) 0 0 53 [some (.ref 54), some (.int x1), some (.int s2), some (.int (nI n3)), some (.int (nI i4)), none] [.int (k_isFit (M.1 61) (M.1 72) (M.1 75) np nt (nI n3) (nI i4))] (mrow M 78 q78) Q
    refine G.if_ne (off := (6)) (tgt := 59) (by decide +kernel) rfl (fun c7 => ?_) (fun c7 => ?_)
    · skip
      rw [if_neg c7] at hk
      refine G.sl [(.aload_n 0, 1, 0, 0, 0, 0), (.iload_n 1, 1, 1, 0, 0, 0), (.iload_n 3, 1, 3, 0, 0, 0), (.iload 4, 2, 4, 0, 0, 0)] [] (pc2 := 64) (ls2 := [some (.ref 54), some (.int x1), some (.int s2), some (.int (nI n3)), some (.int (nI i4)), none]) (st2 := [.int (nI i4), .int (nI n3), .int x1, .ref 54]) (M2 := mrow M 78 q78) (Ps := []) (by decide +kernel) rfl rfl trivial ?_
      obtain ⟨k8, hk⟩ := hk
      have t9 : GM z mX12_liesThen (d + 2) [.ref 54, .int x1, .int (nI n3), .int (nI i4)] (mrow M 78 q78) (fun rs => rs = .inl (some (.int (k_liesThen (M.1 61) (M.1 72) nt x1 (nI n3) (nI i4))), mrow M 78 q78)) := by
        have q9 := c_k_liesThen_54 z (d + 1) (mrow M 78 q78) x1 (nI n3) (nI i4) nt hnt ct
        try simp only [mput, mrow_same, mrow_hit, mrow_miss, mrow_sw, idr_eq, ne_eq, Nat.reduceEqDiff, not_false_eq_true, Nat.reduceLT, reduceCtorEq] at q9
        exact q9
      refine G.callV (as := [.int x1, .int (nI n3), .int (nI i4)]) (rest := []) (a := 54) oX12_liesThen lk_EvenFindersModel_406 (by decide +kernel) rfl rfl ⟨rfl, rfl⟩ (Nat.le_of_ble_eq_true rfl) rfl ⟨Nat.le_of_ble_eq_true rfl, Nat.le_of_ble_eq_true rfl⟩ t9 (fun v9 N9 h10 => ?_) (fun E9 N9 h10 => by cases h10)
      cases h10
      show G z mX12_worstOf (d + 3) 0 0 67 [some (.ref 54), some (.int x1), some (.int s2), some (.int (nI n3)), some (.int (nI i4)), none] [.int (k_liesThen (M.1 61) (M.1 72) nt x1 (nI n3) (nI i4))] (mrow M 78 q78) Q
      obtain ⟨k11, k12, hk⟩ := hk
      refine G.sl [(.istore 5, 2, 5, 0, 0, 0), (.aload_n 0, 1, 0, 0, 0, 0), (.getfield 86, 3, 11, 48, 171, 0), (.iload 5, 2, 5, 0, 0, 0), (.dup2, 1, 0, 0, 0, 0), (.iaload, 1, 0, 0, 0, 0), (.iconst 1, 1, 0, 0, 0, nI 1), (.iadd, 1, 0, 0, 0, 0), (.iastore, 1, 0, 0, 0, 0), (.aload_n 0, 1, 0, 0, 0, 0), (.getfield 86, 3, 11, 48, 171, 0), (.iload 5, 2, 5, 0, 0, 0), (.iaload, 1, 0, 0, 0, 0), (.iload_n 2, 1, 2, 0, 0, 0)] [ix (k_liesThen (M.1 61) (M.1 72) nt x1 (nI n3) (nI i4)), ix (k_liesThen (M.1 61) (M.1 72) nt x1 (nI n3) (nI i4)), ix (k_liesThen (M.1 61) (M.1 72) nt x1 (nI n3) (nI i4))] (pc2 := 88) (ls2 := [some (.ref 54), some (.int x1), some (.int s2), some (.int (nI n3)), some (.int (nI i4)), some (.int (k_liesThen (M.1 61) (M.1 72) nt x1 (nI n3) (nI i4)))]) (st2 := [.int s2, .int ((upd q78 (ix (k_liesThen (M.1 61) (M.1 72) nt x1 (nI n3) (nI i4))) ((q78 (ix (k_liesThen (M.1 61) (M.1 72) nt x1 (nI n3) (nI i4)))) + (nI 1))) (ix (k_liesThen (M.1 61) (M.1 72) nt x1 (nI n3) (nI i4))))]) (M2 := mput (mrow M 78 q78) 78 (ix (k_liesThen (M.1 61) (M.1 72) nt x1 (nI n3) (nI i4))) ((q78 (ix (k_liesThen (M.1 61) (M.1 72) nt x1 (nI n3) (nI i4)))) + (nI 1))) (Ps := [(k_liesThen (M.1 61) (M.1 72) nt x1 (nI n3) (nI i4)) = nI (ix (k_liesThen (M.1 61) (M.1 72) nt x1 (nI n3) (nI i4))) ∧ (ix (k_liesThen (M.1 61) (M.1 72) nt x1 (nI n3) (nI i4))) < 601, (k_liesThen (M.1 61) (M.1 72) nt x1 (nI n3) (nI i4)) = nI (ix (k_liesThen (M.1 61) (M.1 72) nt x1 (nI n3) (nI i4))) ∧ (ix (k_liesThen (M.1 61) (M.1 72) nt x1 (nI n3) (nI i4))) < 601, (k_liesThen (M.1 61) (M.1 72) nt x1 (nI n3) (nI i4)) = nI (ix (k_liesThen (M.1 61) (M.1 72) nt x1 (nI n3) (nI i4))) ∧ (ix (k_liesThen (M.1 61) (M.1 72) nt x1 (nI n3) (nI i4))) < 601]) (by decide +kernel) rfl rfl ⟨⟨(ixE k11), k12⟩, ⟨(ixE k11), k12⟩, ⟨(ixE k11), k12⟩, trivial⟩ ?_
      refine G.mem (M' := mrow M 78 (upd q78 (ix (k_liesThen (M.1 61) (M.1 72) nt x1 (nI n3) (nI i4))) ((q78 (ix (k_liesThen (M.1 61) (M.1 72) nt x1 (nI n3) (nI i4)))) + (nI 1)))) (by first | rfl | (simp only [mput, mrow_same, mrow_hit, mrow_miss, mrow_sw, idr_eq, ne_eq, Nat.reduceEqDiff, not_false_eq_true, Nat.reduceLT, reduceCtorEq]; done)) ?_
      refine G.ic_le (off := (13)) (tgt := 101) (by decide +kernel) rfl (fun c13 => ?_) (fun c13 => ?_)
      · skip
        refine G.sl [(.iload_n 2, 1, 2, 0, 0, 0), (.istore_n 2, 1, 2, 0, 0, 0), (.iinc 4 1, 3, 4, 0, 0, nI 1), (.goto (-69), 3, 37, 0, 0, 0)] [] (pc2 := 37) (ls2 := [some (.ref 54), some (.int x1), some (.int s2), some (.int (nI n3)), some (.int ((nI i4) + nI 1)), some (.int (k_liesThen (M.1 61) (M.1 72) nt x1 (nI n3) (nI i4)))]) (st2 := []) (M2 := mrow M 78 (upd q78 (ix (k_liesThen (M.1 61) (M.1 72) nt x1 (nI n3) (nI i4))) ((q78 (ix (k_liesThen (M.1 61) (M.1 72) nt x1 (nI n3) (nI i4)))) + (nI 1)))) (Ps := []) (by decide +kernel) rfl rfl trivial ?_
        refine G.loc (ls2 := [some (.ref 54), some (.int x1), some (.int s2), some (.int (nI n3)), some (.int ((nI i4) + nI 1)), none]) (by simp [subL]) ?_
        rw [nI_add i4 1]
        simp only [k_worstOf_37, g3, if_neg c7, if_pos c13] at ih
        exact ih
      · skip
        refine G.sl [(.aload_n 0, 1, 0, 0, 0, 0), (.getfield 86, 3, 11, 48, 171, 0), (.iload 5, 2, 5, 0, 0, 0), (.iaload, 1, 0, 0, 0, 0), (.goto 4, 3, 102, 0, 0, 0), (.istore_n 2, 1, 2, 0, 0, 0), (.iinc 4 1, 3, 4, 0, 0, nI 1), (.goto (-69), 3, 37, 0, 0, 0)] [ix (k_liesThen (M.1 61) (M.1 72) nt x1 (nI n3) (nI i4))] (pc2 := 37) (ls2 := [some (.ref 54), some (.int x1), some (.int ((upd q78 (ix (k_liesThen (M.1 61) (M.1 72) nt x1 (nI n3) (nI i4))) ((q78 (ix (k_liesThen (M.1 61) (M.1 72) nt x1 (nI n3) (nI i4)))) + (nI 1))) (ix (k_liesThen (M.1 61) (M.1 72) nt x1 (nI n3) (nI i4))))), some (.int (nI n3)), some (.int ((nI i4) + nI 1)), some (.int (k_liesThen (M.1 61) (M.1 72) nt x1 (nI n3) (nI i4)))]) (st2 := []) (M2 := mrow M 78 (upd q78 (ix (k_liesThen (M.1 61) (M.1 72) nt x1 (nI n3) (nI i4))) ((q78 (ix (k_liesThen (M.1 61) (M.1 72) nt x1 (nI n3) (nI i4)))) + (nI 1)))) (Ps := [(k_liesThen (M.1 61) (M.1 72) nt x1 (nI n3) (nI i4)) = nI (ix (k_liesThen (M.1 61) (M.1 72) nt x1 (nI n3) (nI i4))) ∧ (ix (k_liesThen (M.1 61) (M.1 72) nt x1 (nI n3) (nI i4))) < 601]) (by decide +kernel) rfl rfl ⟨⟨(ixE k11), k12⟩, trivial⟩ ?_
        refine G.loc (ls2 := [some (.ref 54), some (.int x1), some (.int ((upd q78 (ix (k_liesThen (M.1 61) (M.1 72) nt x1 (nI n3) (nI i4))) ((q78 (ix (k_liesThen (M.1 61) (M.1 72) nt x1 (nI n3) (nI i4)))) + (nI 1))) (ix (k_liesThen (M.1 61) (M.1 72) nt x1 (nI n3) (nI i4))))), some (.int (nI n3)), some (.int ((nI i4) + nI 1)), none]) (by simp [subL]) ?_
        rw [nI_add i4 1]
        simp only [k_worstOf_37, g3, if_neg c7, if_neg c13] at ih
        exact ih
    · skip
      rw [if_pos c7] at hk
      refine G.sl [(.goto 47, 3, 103, 0, 0, 0), (.iinc 4 1, 3, 4, 0, 0, nI 1), (.goto (-69), 3, 37, 0, 0, 0)] [] (pc2 := 37) (ls2 := [some (.ref 54), some (.int x1), some (.int s2), some (.int (nI n3)), some (.int ((nI i4) + nI 1)), none]) (st2 := []) (M2 := mrow M 78 q78) (Ps := []) (by decide +kernel) rfl rfl trivial ?_
      rw [nI_add i4 1]
      simp only [k_worstOf_37, g3, if_pos c7] at ih
      exact ih
set_option maxHeartbeats 4000000 in
set_option maxRecDepth 3000 in
theorem lp_k_worstOf_54_26 (z : Zp) (d : Nat) (M : Mem) (Q : Rs → Prop) (x1 : Int32) (np : Nat) (hnp : np ≤ 8) (cp : M.1 54 20 = nI np) (nt : Nat) (hnt : nt ≤ 10) (ct : M.1 54 22 = nI nt) (hk : ∀ i3, i3 < nt → k_worstOf_26_ok (M.1 61) (M.1 72) (M.1 75) (M.1 78) np nt x1 i3) (hX : G z mX12_worstOf (d + 3) 0 0 115 [none, none, some (.int ((k_worstOf_26 (M.1 61) (M.1 72) (M.1 75) (M.1 78) np nt x1 nt).1)), none, none, none] [] (mrow M 78 ((k_worstOf_26 (M.1 61) (M.1 72) (M.1 75) (M.1 78) np nt x1 nt).2)) Q) : G z mX12_worstOf (d + 3) 0 0 26 [some (.ref 54), some (.int x1), some (.int (nI 0)), some (.int (nI 0)), none, none] [] M Q := by
  refine G.mem (M' := mrow M 78 (M.1 78)) (by simp only [mrow_self]) ?_
  refine down (n := nt) (P := fun i3 => G z mX12_worstOf (d + 3) 0 0 26 [some (.ref 54), some (.int x1), some (.int ((k_worstOf_26 (M.1 61) (M.1 72) (M.1 75) (M.1 78) np nt x1 i3).1)), some (.int (nI i3)), none, none] [] (mrow M 78 ((k_worstOf_26 (M.1 61) (M.1 72) (M.1 75) (M.1 78) np nt x1 i3).2)) Q) ?_ ?_ 0 (Nat.zero_le _)
  · skip
    refine G.sl [(.iload_n 3, 1, 3, 0, 0, 0), (.aload_n 0, 1, 0, 0, 0, 0), (.getfield 162, 3, 11, 22, 145, 0)] [] (pc2 := 31) (ls2 := [some (.ref 54), some (.int x1), some (.int ((k_worstOf_26 (M.1 61) (M.1 72) (M.1 75) (M.1 78) np nt x1 nt).1)), some (.int (nI nt)), none, none]) (st2 := [.int (M.1 54 22), .int (nI nt)]) (M2 := mrow M 78 ((k_worstOf_26 (M.1 61) (M.1 72) (M.1 75) (M.1 78) np nt x1 nt).2)) (Ps := []) (by decide +kernel) rfl rfl trivial ?_
    rw [ct]
    refine G.ic_ge (off := (84)) (tgt := 115) (by decide +kernel) rfl (fun _ => ?_) (fun h9 => absurd (nI_le (by omega) (by omega)) h9)
    refine G.loc (ls2 := [none, none, some (.int ((k_worstOf_26 (M.1 61) (M.1 72) (M.1 75) (M.1 78) np nt x1 nt).1)), none, none, none]) (by simp [subL]) ?_
    exact hX
  · skip
    intro i3 hi ih
    have hk := hk i3 hi
    simp only [k_worstOf_26_ok] at hk
    rcases g2 : k_worstOf_26 (M.1 61) (M.1 72) (M.1 75) (M.1 78) np nt x1 i3 with ⟨s2, q78⟩
    try simp only [g2] at hk
    try simp only [g2]
    show G z mX12_worstOf (d + 3) 0 0 26 [some (.ref 54), some (.int x1), some (.int s2), some (.int (nI i3)), none, none] [] (mrow M 78 q78) Q
    refine G.sl [(.iload_n 3, 1, 3, 0, 0, 0), (.aload_n 0, 1, 0, 0, 0, 0), (.getfield 162, 3, 11, 22, 145, 0)] [] (pc2 := 31) (ls2 := [some (.ref 54), some (.int x1), some (.int s2), some (.int (nI i3)), none, none]) (st2 := [.int (M.1 54 22), .int (nI i3)]) (M2 := mrow M 78 q78) (Ps := []) (by decide +kernel) rfl rfl trivial ?_
    rw [ct]
    refine G.ic_ge (off := (84)) (tgt := 115) (by decide +kernel) rfl (fun h9 => absurd h9 (nI_ge (by omega) (by omega))) (fun _ => ?_)
    refine G.sl [(.iconst 0, 1, 0, 0, 0, nI 0), (.istore 4, 2, 4, 0, 0, 0)] [] (pc2 := 37) (ls2 := [some (.ref 54), some (.int x1), some (.int s2), some (.int (nI i3)), some (.int (nI 0)), none]) (st2 := []) (M2 := mrow M 78 q78) (Ps := []) (by decide +kernel) rfl rfl trivial ?_
    obtain ⟨k14, hk⟩ := hk
    refine lp_k_worstOf_54_37 z d (mrow M 78 q78) Q x1 i3 s2 np hnp cp nt hnt ct (by omega) (by first | (simp only [mput, mrow_same, mrow_hit, mrow_miss, mrow_sw, idr_eq, ne_eq, Nat.reduceEqDiff, not_false_eq_true, Nat.reduceLT, reduceCtorEq]; exact k14) | exact k14) ?_
    try simp only [mput, mrow_same, mrow_hit, mrow_miss, mrow_sw, idr_eq, ne_eq, Nat.reduceEqDiff, not_false_eq_true, Nat.reduceLT, reduceCtorEq]
    rcases g15 : k_worstOf_37 (M.1 61) (M.1 72) (M.1 75) q78 np nt x1 i3 s2 np with ⟨v16, r17⟩
    show G z mX12_worstOf (d + 3) 0 0 109 [some (.ref 54), some (.int x1), some (.int v16), some (.int (nI i3)), none, none] [] (mrow M 78 r17) Q
    refine G.sl [(.iinc 3 1, 3, 3, 0, 0, nI 1), (.goto (-86), 3, 26, 0, 0, 0)] [] (pc2 := 26) (ls2 := [some (.ref 54), some (.int x1), some (.int v16), some (.int ((nI i3) + nI 1)), none, none]) (st2 := []) (M2 := mrow M 78 r17) (Ps := []) (by decide +kernel) rfl rfl trivial ?_
    rw [nI_add i3 1]
    simp only [k_worstOf_26, g2, g15] at ih
    exact ih
set_option maxHeartbeats 4000000 in
set_option maxRecDepth 3000 in
theorem c_k_worstOf_54 (z : Zp) (d : Nat) (M : Mem) (x1 : Int32) (np : Nat) (hnp : np ≤ 8) (cp : M.1 54 20 = nI np) (nt : Nat) (hnt : nt ≤ 10) (ct : M.1 54 22 = nI nt) (hk : k_worstOf_ok (M.1 61) (M.1 72) (M.1 75) (M.1 78) np nt x1) : GM z mX12_worstOf (d + 3) [.ref 54, .int x1] M (fun rs => rs = .inl (some (.int ((k_worstOf (M.1 61) (M.1 72) (M.1 75) (M.1 78) np nt x1).1)), mrow M 78 ((k_worstOf (M.1 61) (M.1 72) (M.1 75) (M.1 78) np nt x1).2))) := by
  simp only [k_worstOf_ok] at hk
  refine GM.of oX12_worstOf.1 (Nat.le_of_ble_eq_true rfl) ?_
  show G z mX12_worstOf (d + 3) 0 0 0 [some (.ref 54), some (.int x1), none, none, none, none] [] M _
  obtain ⟨Q, hQ⟩ : ∃ Q : Rs → Prop, Q = (fun rs => rs = .inl (some (.int ((k_worstOf (M.1 61) (M.1 72) (M.1 75) (M.1 78) np nt x1).1)), mrow M 78 ((k_worstOf (M.1 61) (M.1 72) (M.1 75) (M.1 78) np nt x1).2))) := ⟨_, rfl⟩
  rw [← hQ]
  refine G.sl [(.iconst 0, 1, 0, 0, 0, nI 0), (.istore_n 2, 1, 2, 0, 0, 0)] [] (pc2 := 2) (ls2 := [some (.ref 54), some (.int x1), some (.int (nI 0)), none, none, none]) (st2 := []) (M2 := M) (Ps := []) (by decide +kernel) rfl rfl trivial ?_
  obtain ⟨k1, hk⟩ := hk
  refine lp_k_worstOf_54_2 z d M Q (cN 601) x1 (cN_eq 601) ?_
  try simp only [mput, mrow_same, mrow_hit, mrow_miss, mrow_sw, idr_eq, ne_eq, Nat.reduceEqDiff, not_false_eq_true, Nat.reduceLT, reduceCtorEq]
  show G z mX12_worstOf (d + 3) 0 0 22 [some (.ref 54), some (.int x1), none, none, none, none] [] (mrow M 78 (k_worstOf_2 (M.1 78) x1 (cN 601))) Q
  refine G.sl [(.iconst 0, 1, 0, 0, 0, nI 0), (.istore_n 2, 1, 2, 0, 0, 0), (.iconst 0, 1, 0, 0, 0, nI 0), (.istore_n 3, 1, 3, 0, 0, 0)] [] (pc2 := 26) (ls2 := [some (.ref 54), some (.int x1), some (.int (nI 0)), some (.int (nI 0)), none, none]) (st2 := []) (M2 := mrow M 78 (k_worstOf_2 (M.1 78) x1 (cN 601))) (Ps := []) (by decide +kernel) rfl rfl trivial ?_
  obtain ⟨k18, hk⟩ := hk
  refine lp_k_worstOf_54_26 z d (mrow M 78 (k_worstOf_2 (M.1 78) x1 (cN 601))) Q x1 np hnp cp nt hnt ct (by first | (simp only [mput, mrow_same, mrow_hit, mrow_miss, mrow_sw, idr_eq, ne_eq, Nat.reduceEqDiff, not_false_eq_true, Nat.reduceLT, reduceCtorEq]; exact k18) | exact k18) ?_
  try simp only [mput, mrow_same, mrow_hit, mrow_miss, mrow_sw, idr_eq, ne_eq, Nat.reduceEqDiff, not_false_eq_true, Nat.reduceLT, reduceCtorEq]
  rcases g19 : k_worstOf_26 (M.1 61) (M.1 72) (M.1 75) (k_worstOf_2 (M.1 78) x1 (cN 601)) np nt x1 nt with ⟨v20, r21⟩
  show G z mX12_worstOf (d + 3) 0 0 115 [none, none, some (.int v20), none, none, none] [] (mrow M 78 r21) Q
  refine G.sl [(.iload_n 2, 1, 2, 0, 0, 0)] [] (pc2 := 116) (ls2 := [none, none, some (.int v20), none, none, none]) (st2 := [.int v20]) (M2 := mrow M 78 r21) (Ps := []) (by decide +kernel) rfl rfl trivial ?_
  exact G.reti (by decide +kernel) rfl rfl (Nat.le_of_ble_eq_true rfl) (Nat.le_of_ble_eq_true rfl) ((by rw [hQ]; simp only [k_worstOf, g19, mrow_self]))
set_option maxHeartbeats 4000000 in
set_option maxRecDepth 3000 in
theorem lp_k_look_54_33 (z : Zp) (d : Nat) (M : Mem) (Q : Rs → Prop) (x1 : Int32) (np : Nat) (hnp : np ≤ 8) (cp : M.1 54 20 = nI np) (nt : Nat) (hnt : nt ≤ 10) (ct : M.1 54 22 = nI nt) (hk : ∀ i4, i4 < np → k_look_33_ok (M.1 61) (M.1 72) (M.1 75) (M.1 78) np nt x1 i4) (hX : G z mX12_look (d + 4) 0 0 90 [none, some (.int x1), some (.int ((k_look_33 (M.1 61) (M.1 72) (M.1 75) (M.1 78) np nt x1 np).1)), some (.int ((k_look_33 (M.1 61) (M.1 72) (M.1 75) (M.1 78) np nt x1 np).2.1)), none, none] [] (mrow M 78 ((k_look_33 (M.1 61) (M.1 72) (M.1 75) (M.1 78) np nt x1 np).2.2)) Q) : G z mX12_look (d + 4) 0 0 33 [some (.ref 54), some (.int x1), some (.int ((-1))), some (.int ((-1))), some (.int (nI 0)), none] [] M Q := by
  refine G.mem (M' := mrow M 78 (M.1 78)) (by simp only [mrow_self]) ?_
  refine down (n := np) (P := fun i4 => G z mX12_look (d + 4) 0 0 33 [some (.ref 54), some (.int x1), some (.int ((k_look_33 (M.1 61) (M.1 72) (M.1 75) (M.1 78) np nt x1 i4).1)), some (.int ((k_look_33 (M.1 61) (M.1 72) (M.1 75) (M.1 78) np nt x1 i4).2.1)), some (.int (nI i4)), none] [] (mrow M 78 ((k_look_33 (M.1 61) (M.1 72) (M.1 75) (M.1 78) np nt x1 i4).2.2)) Q) ?_ ?_ 0 (Nat.zero_le _)
  · skip
    refine G.sl [(.iload 4, 2, 4, 0, 0, 0), (.aload_n 0, 1, 0, 0, 0, 0), (.getfield 156, 3, 11, 20, 143, 0)] [] (pc2 := 39) (ls2 := [some (.ref 54), some (.int x1), some (.int ((k_look_33 (M.1 61) (M.1 72) (M.1 75) (M.1 78) np nt x1 np).1)), some (.int ((k_look_33 (M.1 61) (M.1 72) (M.1 75) (M.1 78) np nt x1 np).2.1)), some (.int (nI np)), none]) (st2 := [.int (M.1 54 20), .int (nI np)]) (M2 := mrow M 78 ((k_look_33 (M.1 61) (M.1 72) (M.1 75) (M.1 78) np nt x1 np).2.2)) (Ps := []) (by decide +kernel) rfl rfl trivial ?_
    rw [cp]
    refine G.ic_ge (off := (51)) (tgt := 90) (by decide +kernel) rfl (fun _ => ?_) (fun h9 => absurd (nI_le (by omega) (by omega)) h9)
    refine G.loc (ls2 := [none, some (.int x1), some (.int ((k_look_33 (M.1 61) (M.1 72) (M.1 75) (M.1 78) np nt x1 np).1)), some (.int ((k_look_33 (M.1 61) (M.1 72) (M.1 75) (M.1 78) np nt x1 np).2.1)), none, none]) (by simp [subL]) ?_
    exact hX
  · skip
    intro i4 hi ih
    have hk := hk i4 hi
    simp only [k_look_33_ok] at hk
    rcases g18 : k_look_33 (M.1 61) (M.1 72) (M.1 75) (M.1 78) np nt x1 i4 with ⟨s2, s3, q78⟩
    try simp only [g18] at hk
    try simp only [g18]
    show G z mX12_look (d + 4) 0 0 33 [some (.ref 54), some (.int x1), some (.int s2), some (.int s3), some (.int (nI i4)), none] [] (mrow M 78 q78) Q
    refine G.sl [(.iload 4, 2, 4, 0, 0, 0), (.aload_n 0, 1, 0, 0, 0, 0), (.getfield 156, 3, 11, 20, 143, 0)] [] (pc2 := 39) (ls2 := [some (.ref 54), some (.int x1), some (.int s2), some (.int s3), some (.int (nI i4)), none]) (st2 := [.int (M.1 54 20), .int (nI i4)]) (M2 := mrow M 78 q78) (Ps := []) (by decide +kernel) rfl rfl trivial ?_
    rw [cp]
    refine G.ic_ge (off := (51)) (tgt := 90) (by decide +kernel) rfl (fun h9 => absurd h9 (nI_ge (by omega) (by omega))) (fun _ => ?_)
    refine G.sl [(.aload_n 0, 1, 0, 0, 0, 0), (.getfield 77, 3, 11, 44, 167, 0), (.iload 4, 2, 4, 0, 0, 0), (.iaload, 1, 0, 0, 0, 0), (.iconst (-1), 1, 0, 0, 0, (-1))] [i4] (pc2 := 50) (ls2 := [some (.ref 54), some (.int x1), some (.int s2), some (.int s3), some (.int (nI i4)), none]) (st2 := [.int ((-1)), .int (M.1 75 i4)]) (M2 := mrow M 78 q78) (Ps := [(nI i4) = nI i4 ∧ i4 < 8]) (by decide +kernel) rfl rfl ⟨⟨rfl, (by omega)⟩, trivial⟩ ?_
    refine G.ic_eq (off := (6)) (tgt := 56) (by decide +kernel) rfl (fun c19 => ?_) (fun c19 => ?_)
    · skip
      rw [if_pos c19] at hk
      refine G.sl [(.aload_n 0, 1, 0, 0, 0, 0), (.iload 4, 2, 4, 0, 0, 0)] [] (pc2 := 59) (ls2 := [some (.ref 54), some (.int x1), some (.int s2), some (.int s3), some (.int (nI i4)), none]) (st2 := [.int (nI i4), .ref 54]) (M2 := mrow M 78 q78) (Ps := []) (by decide +kernel) rfl rfl trivial ?_
      obtain ⟨k20, hk⟩ := hk
      rcases g21 : k_worstOf (M.1 61) (M.1 72) (M.1 75) q78 np nt (nI i4) with ⟨v22, r23⟩
      have t24 : GM z mX12_worstOf (d + 3) [.ref 54, .int (nI i4)] (mrow M 78 q78) (fun rs => rs = .inl (some (.int v22), mrow M 78 r23)) := by
        have q9 := c_k_worstOf_54 z d (mrow M 78 q78) (nI i4) np hnp cp nt hnt ct k20
        try simp only [mput, mrow_same, mrow_hit, mrow_miss, mrow_sw, idr_eq, ne_eq, Nat.reduceEqDiff, not_false_eq_true, Nat.reduceLT, reduceCtorEq, g21] at q9
        exact q9
      refine G.callV (as := [.int (nI i4)]) (rest := []) (a := 54) oX12_worstOf lk_EvenFindersModel_412 (by decide +kernel) rfl rfl ⟨rfl, rfl⟩ (Nat.le_of_ble_eq_true rfl) rfl ⟨Nat.le_of_ble_eq_true rfl, Nat.le_of_ble_eq_true rfl⟩ t24 (fun v9 N9 h25 => ?_) (fun E9 N9 h25 => by cases h25)
      cases h25
      show G z mX12_look (d + 4) 0 0 62 [some (.ref 54), some (.int x1), some (.int s2), some (.int s3), some (.int (nI i4)), none] [.int v22] (mrow M 78 r23) Q
      refine G.sl [(.istore 5, 2, 5, 0, 0, 0), (.iload_n 2, 1, 2, 0, 0, 0), (.iconst (-1), 1, 0, 0, 0, (-1))] [] (pc2 := 66) (ls2 := [some (.ref 54), some (.int x1), some (.int s2), some (.int s3), some (.int (nI i4)), some (.int v22)]) (st2 := [.int ((-1)), .int s2]) (M2 := mrow M 78 r23) (Ps := []) (by decide +kernel) rfl rfl trivial ?_
      refine G.ic_eq (off := (12)) (tgt := 78) (by decide +kernel) rfl (fun c26 => ?_) (fun c26 => ?_)
      · skip
        refine G.sl [(.iload 4, 2, 4, 0, 0, 0), (.istore_n 2, 1, 2, 0, 0, 0), (.iload 5, 2, 5, 0, 0, 0), (.istore_n 3, 1, 3, 0, 0, 0), (.iinc 4 1, 3, 4, 0, 0, nI 1), (.goto (-54), 3, 33, 0, 0, 0)] [] (pc2 := 33) (ls2 := [some (.ref 54), some (.int x1), some (.int (nI i4)), some (.int v22), some (.int ((nI i4) + nI 1)), some (.int v22)]) (st2 := []) (M2 := mrow M 78 r23) (Ps := []) (by decide +kernel) rfl rfl trivial ?_
        refine G.loc (ls2 := [some (.ref 54), some (.int x1), some (.int (nI i4)), some (.int v22), some (.int ((nI i4) + nI 1)), none]) (by simp [subL]) ?_
        rw [nI_add i4 1]
        simp only [k_look_33, g18, if_pos c19, g21, if_pos c26] at ih
        exact ih
      · skip
        refine G.sl [(.iload 5, 2, 5, 0, 0, 0), (.iload_n 3, 1, 3, 0, 0, 0)] [] (pc2 := 72) (ls2 := [some (.ref 54), some (.int x1), some (.int s2), some (.int s3), some (.int (nI i4)), some (.int v22)]) (st2 := [.int s3, .int v22]) (M2 := mrow M 78 r23) (Ps := []) (by decide +kernel) rfl rfl trivial ?_
        refine G.ic_lt (off := (6)) (tgt := 78) (by decide +kernel) rfl (fun c27 => ?_) (fun c27 => ?_)
        · skip
          refine G.sl [(.iload 4, 2, 4, 0, 0, 0), (.istore_n 2, 1, 2, 0, 0, 0), (.iload 5, 2, 5, 0, 0, 0), (.istore_n 3, 1, 3, 0, 0, 0), (.iinc 4 1, 3, 4, 0, 0, nI 1), (.goto (-54), 3, 33, 0, 0, 0)] [] (pc2 := 33) (ls2 := [some (.ref 54), some (.int x1), some (.int (nI i4)), some (.int v22), some (.int ((nI i4) + nI 1)), some (.int v22)]) (st2 := []) (M2 := mrow M 78 r23) (Ps := []) (by decide +kernel) rfl rfl trivial ?_
          refine G.loc (ls2 := [some (.ref 54), some (.int x1), some (.int (nI i4)), some (.int v22), some (.int ((nI i4) + nI 1)), none]) (by simp [subL]) ?_
          rw [nI_add i4 1]
          simp only [k_look_33, g18, if_pos c19, g21, if_neg c26, if_pos c27] at ih
          exact ih
        · skip
          refine G.sl [(.goto 9, 3, 84, 0, 0, 0), (.iinc 4 1, 3, 4, 0, 0, nI 1), (.goto (-54), 3, 33, 0, 0, 0)] [] (pc2 := 33) (ls2 := [some (.ref 54), some (.int x1), some (.int s2), some (.int s3), some (.int ((nI i4) + nI 1)), some (.int v22)]) (st2 := []) (M2 := mrow M 78 r23) (Ps := []) (by decide +kernel) rfl rfl trivial ?_
          refine G.loc (ls2 := [some (.ref 54), some (.int x1), some (.int s2), some (.int s3), some (.int ((nI i4) + nI 1)), none]) (by simp [subL]) ?_
          rw [nI_add i4 1]
          simp only [k_look_33, g18, if_pos c19, g21, if_neg c26, if_neg c27] at ih
          exact ih
    · skip
      rw [if_neg c19] at hk
      refine G.sl [(.goto 31, 3, 84, 0, 0, 0), (.iinc 4 1, 3, 4, 0, 0, nI 1), (.goto (-54), 3, 33, 0, 0, 0)] [] (pc2 := 33) (ls2 := [some (.ref 54), some (.int x1), some (.int s2), some (.int s3), some (.int ((nI i4) + nI 1)), none]) (st2 := []) (M2 := mrow M 78 q78) (Ps := []) (by decide +kernel) rfl rfl trivial ?_
      rw [nI_add i4 1]
      simp only [k_look_33, g18, if_neg c19] at ih
      exact ih
set_option maxHeartbeats 4000000 in
set_option maxRecDepth 3000 in
theorem c_k_look_54 (z : Zp) (d : Nat) (M : Mem) (x1 : Int32) (hk : k_look_ok (M.1 54) (M.1 55) (M.1 61) (M.1 71) (M.1 72) (M.1 75) (M.1 78) x1) : GM z mX12_look (d + 4) [.ref 54, .int x1] M (fun rs => rs = .inl (some (.int ((k_look (M.1 54) (M.1 55) (M.1 61) (M.1 71) (M.1 72) (M.1 75) (M.1 78) x1).1)), mrow (mrow (mrow (mrow M 54 ((k_look (M.1 54) (M.1 55) (M.1 61) (M.1 71) (M.1 72) (M.1 75) (M.1 78) x1).2.1)) 55 ((k_look (M.1 54) (M.1 55) (M.1 61) (M.1 71) (M.1 72) (M.1 75) (M.1 78) x1).2.2.1)) 72 ((k_look (M.1 54) (M.1 55) (M.1 61) (M.1 71) (M.1 72) (M.1 75) (M.1 78) x1).2.2.2.1)) 78 ((k_look (M.1 54) (M.1 55) (M.1 61) (M.1 71) (M.1 72) (M.1 75) (M.1 78) x1).2.2.2.2))) := by
  simp only [k_look_ok] at hk
  refine GM.of oX12_look.1 (Nat.le_of_ble_eq_true rfl) ?_
  show G z mX12_look (d + 4) 0 0 0 [some (.ref 54), some (.int x1), none, none, none, none] [] M _
  obtain ⟨Q, hQ⟩ : ∃ Q : Rs → Prop, Q = (fun rs => rs = .inl (some (.int ((k_look (M.1 54) (M.1 55) (M.1 61) (M.1 71) (M.1 72) (M.1 75) (M.1 78) x1).1)), mrow (mrow (mrow (mrow M 54 ((k_look (M.1 54) (M.1 55) (M.1 61) (M.1 71) (M.1 72) (M.1 75) (M.1 78) x1).2.1)) 55 ((k_look (M.1 54) (M.1 55) (M.1 61) (M.1 71) (M.1 72) (M.1 75) (M.1 78) x1).2.2.1)) 72 ((k_look (M.1 54) (M.1 55) (M.1 61) (M.1 71) (M.1 72) (M.1 75) (M.1 78) x1).2.2.2.1)) 78 ((k_look (M.1 54) (M.1 55) (M.1 61) (M.1 71) (M.1 72) (M.1 75) (M.1 78) x1).2.2.2.2))) := ⟨_, rfl⟩
  rw [← hQ]
  refine G.sl [(.aload_n 0, 1, 0, 0, 0, 0), (.iconst 0, 1, 0, 0, 0, nI 0), (.putfield 3, 3, 11, 0, 123, 0), (.aload_n 0, 1, 0, 0, 0, 0), (.iload_n 1, 1, 1, 0, 0, 0), (.iconst 0, 1, 0, 0, 0, nI 0), (.iconst 1, 1, 0, 0, 0, nI 1)] [] (pc2 := 9) (ls2 := [some (.ref 54), some (.int x1), none, none, none, none]) (st2 := [.int (nI 1), .int (nI 0), .int x1, .ref 54]) (M2 := mput M 54 0 (nI 0)) (Ps := []) (by decide +kernel) rfl rfl trivial ?_
  refine G.mem (M' := mrow M 54 (upd (M.1 54) 0 (nI 0))) (by first | rfl | (simp only [mput, mrow_same, mrow_hit, mrow_miss, mrow_sw, idr_eq, ne_eq, Nat.reduceEqDiff, not_false_eq_true, Nat.reduceLT, reduceCtorEq]; done)) ?_
  obtain ⟨k1, hk⟩ := hk
  have t2 : GM z mX12_within (d + 3) [.int x1, .int (nI 0), .int (nI 1)] (mrow M 54 (upd (M.1 54) 0 (nI 0))) (fun rs => rs = .inl (some (.int (k_within x1 (nI 0) (nI 1))), mrow M 54 (upd (M.1 54) 0 (nI 0)))) := by
    have q9 := c_k_within z (d + 3) (mrow M 54 (upd (M.1 54) 0 (nI 0))) x1 (nI 0) (nI 1)
    try simp only [mput, mrow_same, mrow_hit, mrow_miss, mrow_sw, idr_eq, ne_eq, Nat.reduceEqDiff, not_false_eq_true, Nat.reduceLT, reduceCtorEq] at q9
    exact q9
  refine G.callS (as := [.int x1, .int (nI 0), .int (nI 1)]) (rest := [.ref 54]) oX12_within lk_EvenFindersModel_379 (by decide +kernel) rfl (Nat.le_of_ble_eq_true rfl) rfl ⟨Nat.le_of_ble_eq_true rfl, Nat.le_of_ble_eq_true rfl⟩ t2 (fun v9 N9 h3 => ?_) (fun E9 N9 h3 => by cases h3)
  cases h3
  show G z mX12_look (d + 4) 0 0 12 [some (.ref 54), some (.int x1), none, none, none, none] [.int (k_within x1 (nI 0) (nI 1)), .ref 54] (mrow M 54 (upd (M.1 54) 0 (nI 0))) Q
  refine G.sl [(.iconst 1, 1, 0, 0, 0, nI 1), (.iconst 1, 1, 0, 0, 0, nI 1)] [] (pc2 := 14) (ls2 := [some (.ref 54), some (.int x1), none, none, none, none]) (st2 := [.int (nI 1), .int (nI 1), .int (k_within x1 (nI 0) (nI 1)), .ref 54]) (M2 := mrow M 54 (upd (M.1 54) 0 (nI 0))) (Ps := []) (by decide +kernel) rfl rfl trivial ?_
  obtain ⟨k4, hk⟩ := hk
  rcases g5 : k_may_1 (upd (M.1 54) 0 (nI 0)) (M.1 55) (k_within x1 (nI 0) (nI 1)) (nI 1) with ⟨v6, r7, r8⟩
  try simp only [g5] at hk
  have ev6 : v6 = 0 ∨ v6 = 1 := by
    have q9 := k_may_1_01 (upd (M.1 54) 0 (nI 0)) (M.1 55) (k_within x1 (nI 0) (nI 1)) (nI 1)
    rw [g5] at q9
    exact q9
  have t9 : GM z mX12_may (d + 3) [.ref 54, .int (k_within x1 (nI 0) (nI 1)), .int (nI 1), .int (nI 1)] (mrow M 54 (upd (M.1 54) 0 (nI 0))) (fun rs => rs = .inl (some (.int v6), mrow (mrow M 54 r7) 55 r8)) := by
    have q9 := c_k_may_1_54 z (d + 3) (mrow M 54 (upd (M.1 54) 0 (nI 0))) (k_within x1 (nI 0) (nI 1)) (nI 1)
    try simp only [mput, mrow_same, mrow_hit, mrow_miss, mrow_sw, idr_eq, ne_eq, Nat.reduceEqDiff, not_false_eq_true, Nat.reduceLT, reduceCtorEq, g5] at q9
    exact q9
  refine G.callV (as := [.int (k_within x1 (nI 0) (nI 1)), .int (nI 1), .int (nI 1)]) (rest := []) (a := 54) oX12_may lk_EvenFindersModel_213 (by decide +kernel) rfl rfl ⟨rfl, rfl⟩ (Nat.le_of_ble_eq_true rfl) rfl ⟨Nat.le_of_ble_eq_true rfl, Nat.le_of_ble_eq_true rfl⟩ t9 (fun v9 N9 h10 => ?_) (fun E9 N9 h10 => by cases h10)
  cases h10
  show G z mX12_look (d + 4) 0 0 17 [some (.ref 54), some (.int x1), none, none, none, none] [.int v6] (mrow (mrow M 54 r7) 55 r8) Q
  refine G.if_ne (off := (5)) (tgt := 22) (by decide +kernel) rfl (fun c11 => ?_) (fun c11 => ?_)
  · skip
    rw [if_neg c11] at hk
    refine G.sl [(.aload_n 0, 1, 0, 0, 0, 0)] [] (pc2 := 23) (ls2 := [some (.ref 54), some (.int x1), none, none, none, none]) (st2 := [.ref 54]) (M2 := mrow (mrow M 54 r7) 55 r8) (Ps := []) (by decide +kernel) rfl rfl trivial ?_
    obtain ⟨k12, hk⟩ := hk
    rcases g13 : k_take (M.1 71) (M.1 72) with ⟨u14, r15⟩
    try simp only [g13] at hk
    have t16 : GM z mX12_take (d + 3) [.ref 54] (mrow (mrow M 54 r7) 55 r8) (fun rs => rs = .inl (none, mrow (mrow (mrow M 54 r7) 55 r8) 72 r15)) := by
      have q9 := c_k_take_54 z (d + 2) (mrow (mrow M 54 r7) 55 r8) k12
      try simp only [mput, mrow_same, mrow_hit, mrow_miss, mrow_sw, idr_eq, ne_eq, Nat.reduceEqDiff, not_false_eq_true, Nat.reduceLT, reduceCtorEq, g13] at q9
      exact q9
    refine G.callV (as := []) (rest := []) (a := 54) oX12_take lk_EvenFindersModel_320 (by decide +kernel) rfl rfl ⟨rfl, rfl⟩ (Nat.le_of_ble_eq_true rfl) rfl ⟨Nat.le_of_ble_eq_true rfl, Nat.le_of_ble_eq_true rfl⟩ t16 (fun v9 N9 h17 => ?_) (fun E9 N9 h17 => by cases h17)
    cases h17
    show G z mX12_look (d + 4) 0 0 26 [some (.ref 54), some (.int x1), none, none, none, none] [] (mrow (mrow (mrow M 54 r7) 55 r8) 72 r15) Q
    refine G.sl [(.iconst (-1), 1, 0, 0, 0, (-1)), (.istore_n 2, 1, 2, 0, 0, 0), (.iconst (-1), 1, 0, 0, 0, (-1)), (.istore_n 3, 1, 3, 0, 0, 0), (.iconst 0, 1, 0, 0, 0, nI 0), (.istore 4, 2, 4, 0, 0, 0)] [] (pc2 := 33) (ls2 := [some (.ref 54), some (.int x1), some (.int ((-1))), some (.int ((-1))), some (.int (nI 0)), none]) (st2 := []) (M2 := mrow (mrow (mrow M 54 r7) 55 r8) 72 r15) (Ps := []) (by decide +kernel) rfl rfl trivial ?_
    obtain ⟨k28, k29, k30, k31, hk⟩ := hk
    obtain ⟨k32, hk⟩ := hk
    refine lp_k_look_54_33 z d (mrow (mrow (mrow M 54 r7) 55 r8) 72 r15) Q x1 (ix (r7 20)) k29 (ixE k28) (ix (r7 22)) k31 (ixE k30) (by first | (simp only [mput, mrow_same, mrow_hit, mrow_miss, mrow_sw, idr_eq, ne_eq, Nat.reduceEqDiff, not_false_eq_true, Nat.reduceLT, reduceCtorEq]; exact k32) | exact k32) ?_
    try simp only [mput, mrow_same, mrow_hit, mrow_miss, mrow_sw, idr_eq, ne_eq, Nat.reduceEqDiff, not_false_eq_true, Nat.reduceLT, reduceCtorEq]
    rcases g33 : k_look_33 (M.1 61) r15 (M.1 75) (M.1 78) (ix (r7 20)) (ix (r7 22)) x1 (ix (r7 20)) with ⟨v34, v35, r36⟩
    show G z mX12_look (d + 4) 0 0 90 [none, some (.int x1), some (.int v34), some (.int v35), none, none] [] (mrow (mrow (mrow (mrow M 54 r7) 55 r8) 72 r15) 78 r36) Q
    refine G.sl [(.iload_n 1, 1, 1, 0, 0, 0)] [] (pc2 := 91) (ls2 := [none, some (.int x1), some (.int v34), some (.int v35), none, none]) (st2 := [.int x1]) (M2 := mrow (mrow (mrow (mrow M 54 r7) 55 r8) 72 r15) 78 r36) (Ps := []) (by decide +kernel) rfl rfl trivial ?_
    refine G.if_ne (off := (7)) (tgt := 98) (by decide +kernel) rfl (fun c37 => ?_) (fun c37 => ?_)
    · skip
      refine G.sl [(.iload_n 3, 1, 3, 0, 0, 0)] [] (pc2 := 99) (ls2 := [none, some (.int x1), some (.int v34), some (.int v35), none, none]) (st2 := [.int v35]) (M2 := mrow (mrow (mrow (mrow M 54 r7) 55 r8) 72 r15) 78 r36) (Ps := []) (by decide +kernel) rfl rfl trivial ?_
      exact G.reti (by decide +kernel) rfl rfl (Nat.le_of_ble_eq_true rfl) (Nat.le_of_ble_eq_true rfl) ((by rw [hQ]; simp only [k_look, g5, if_neg c11, g13, g33, if_neg c37, mrow_self]))
    · skip
      refine G.sl [(.iload_n 2, 1, 2, 0, 0, 0), (.goto 4, 3, 99, 0, 0, 0)] [] (pc2 := 99) (ls2 := [none, some (.int x1), some (.int v34), some (.int v35), none, none]) (st2 := [.int v34]) (M2 := mrow (mrow (mrow (mrow M 54 r7) 55 r8) 72 r15) 78 r36) (Ps := []) (by decide +kernel) rfl rfl trivial ?_
      exact G.reti (by decide +kernel) rfl rfl (Nat.le_of_ble_eq_true rfl) (Nat.le_of_ble_eq_true rfl) ((by rw [hQ]; simp only [k_look, g5, if_neg c11, g13, g33, if_pos c37, mrow_self]))
  · skip
    rw [if_pos c11] at hk
    refine G.sl [(.iconst 0, 1, 0, 0, 0, nI 0)] [] (pc2 := 21) (ls2 := [some (.ref 54), some (.int x1), none, none, none, none]) (st2 := [.int (nI 0)]) (M2 := mrow (mrow M 54 r7) 55 r8) (Ps := []) (by decide +kernel) rfl rfl trivial ?_
    refine G.mem (M' := mrow (mrow (mrow (mrow M 54 r7) 55 r8) 72 (M.1 72)) 78 (M.1 78)) ((((mrow_id (N := mrow (mrow M 54 r7) 55 r8) (c := 72) (f := M.1 72) (by first | rfl | (simp only [mput, mrow_same, mrow_hit, mrow_miss, mrow_sw, idr_eq, ne_eq, Nat.reduceEqDiff, not_false_eq_true, Nat.reduceLT, reduceCtorEq]; done))).symm).trans (mrow_id (N := mrow (mrow (mrow M 54 r7) 55 r8) 72 (M.1 72)) (c := 78) (f := M.1 78) (by first | rfl | (simp only [mput, mrow_same, mrow_hit, mrow_miss, mrow_sw, idr_eq, ne_eq, Nat.reduceEqDiff, not_false_eq_true, Nat.reduceLT, reduceCtorEq]; done))).symm).trans (by first | rfl | (simp only [mput, mrow_same, mrow_hit, mrow_miss, mrow_sw, idr_eq, ne_eq, Nat.reduceEqDiff, not_false_eq_true, Nat.reduceLT, reduceCtorEq]; done))) ?_
    exact G.reti (by decide +kernel) rfl rfl (Nat.le_of_ble_eq_true rfl) (Nat.le_of_ble_eq_true rfl) ((by rw [hQ]; simp only [k_look, g5, if_pos c11, mrow_self]))
set_option maxHeartbeats 4000000 in
set_option maxRecDepth 3000 in
theorem lp_k_ways_12 (z : Zp) (d : Nat) (M : Mem) (Q : Rs → Prop) (x0 : Int32) (x1 : Int32) : ∀ (k0 : Nat) (s2 : Int64) (s4 : Int32), k_ways_12_ok x0 x1 k0 s2 s4 → (match k_ways_12 x0 x1 k0 s2 s4 with | (s2', s4') => G z mX12_ways (d) 0 0 38 [none, none, some (.long (s2')), none, none] [] M Q) → G z mX12_ways (d) 0 0 12 [some (.int x0), some (.int x1), some (.long s2), none, some (.int s4)] [] M Q := by
  intro k0
  induction k0 with
  | zero =>
      intro s2 s4 hk hX
      exact (by simpa only [k_ways_12_ok] using hk : False).elim
  | succ k0 ih =>
      intro s2 s4 hk hX
      simp only [k_ways_12_ok] at hk
      refine G.sl [(.iload 4, 2, 4, 0, 0, 0), (.iload_n 1, 1, 1, 0, 0, 0)] [] (pc2 := 15) (ls2 := [some (.int x0), some (.int x1), some (.long s2), none, some (.int s4)]) (st2 := [.int x1, .int s4]) (M2 := M) (Ps := []) (by decide +kernel) rfl rfl trivial ?_
      refine G.ic_gt (off := (23)) (tgt := 38) (by decide +kernel) rfl (fun c2 => ?_) (fun c2 => ?_)
      · skip
        rw [if_pos c2] at hk
        refine G.loc (ls2 := [none, none, some (.long s2), none, none]) (by simp [subL]) ?_
        simp only [k_ways_12, if_pos c2] at hX
        exact hX
      · skip
        rw [if_neg c2] at hk
        obtain ⟨k3, hk⟩ := hk
        refine G.sl [(.lload_n 2, 1, 2, 0, 0, 0), (.iload_n 0, 1, 0, 0, 0, 0), (.iload_n 1, 1, 1, 0, 0, 0), (.isub, 1, 0, 0, 0, 0), (.iload 4, 2, 4, 0, 0, 0), (.iadd, 1, 0, 0, 0, 0), (.i2l, 1, 0, 0, 0, 0), (.lmul, 1, 0, 0, 0, 0), (.iload 4, 2, 4, 0, 0, 0), (.i2l, 1, 0, 0, 0, 0), (.ldiv, 1, 0, 0, 0, 0), (.lstore_n 2, 1, 2, 0, 0, 0), (.iinc 4 1, 3, 4, 0, 0, nI 1), (.goto (-23), 3, 12, 0, 0, 0)] [] (pc2 := 12) (ls2 := [some (.int x0), some (.int x1), some (.long ((s2 * (((x0 - x1) + s4).toInt64)) / s4.toInt64)), none, some (.int (s4 + nI 1))]) (st2 := []) (M2 := M) (Ps := [¬ s4.toInt64 = 0]) (by decide +kernel) rfl rfl ⟨k3, trivial⟩ ?_
        simp only [k_ways_12, if_neg c2] at hX
        exact ih ((s2 * (((x0 - x1) + s4).toInt64)) / s4.toInt64) (s4 + nI 1) hk hX
set_option maxHeartbeats 4000000 in
set_option maxRecDepth 3000 in
theorem c_k_ways (z : Zp) (d : Nat) (M : Mem) (x0 : Int32) (x1 : Int32) (hk : k_ways_ok x0 x1) : GM z mX12_ways (d) [.int x0, .int x1] M (fun rs => rs = .inl (some (.long (k_ways x0 x1)), M)) := by
  simp only [k_ways_ok] at hk
  refine GM.of oX12_ways.1 (Nat.le_of_ble_eq_true rfl) ?_
  show G z mX12_ways (d) 0 0 0 [some (.int x0), some (.int x1), none, none, none] [] M _
  obtain ⟨Q, hQ⟩ : ∃ Q : Rs → Prop, Q = (fun rs => rs = .inl (some (.long (k_ways x0 x1)), M)) := ⟨_, rfl⟩
  rw [← hQ]
  refine G.sl [(.iload_n 1, 1, 1, 0, 0, 0), (.iload_n 0, 1, 0, 0, 0, 0)] [] (pc2 := 2) (ls2 := [some (.int x0), some (.int x1), none, none, none]) (st2 := [.int x0, .int x1]) (M2 := M) (Ps := []) (by decide +kernel) rfl rfl trivial ?_
  refine G.ic_le (off := (5)) (tgt := 7) (by decide +kernel) rfl (fun c1 => ?_) (fun c1 => ?_)
  · skip
    rw [if_pos c1] at hk
    refine G.sl [(.lconst 1, 1, 1, 0, 0, 0), (.lstore_n 2, 1, 2, 0, 0, 0), (.iconst 1, 1, 0, 0, 0, nI 1), (.istore 4, 2, 4, 0, 0, 0)] [] (pc2 := 12) (ls2 := [some (.int x0), some (.int x1), some (.long 1), none, some (.int (nI 1))]) (st2 := []) (M2 := M) (Ps := []) (by decide +kernel) rfl rfl trivial ?_
    obtain ⟨k4, hk⟩ := hk
    refine lp_k_ways_12 z d M Q x0 x1 FU 1 (nI 1) (by first | (simp only [mput, mrow_same, mrow_hit, mrow_miss, mrow_sw, idr_eq, ne_eq, Nat.reduceEqDiff, not_false_eq_true, Nat.reduceLT, reduceCtorEq]; exact k4) | exact k4) ?_
    try simp only [mput, mrow_same, mrow_hit, mrow_miss, mrow_sw, idr_eq, ne_eq, Nat.reduceEqDiff, not_false_eq_true, Nat.reduceLT, reduceCtorEq]
    rcases g5 : k_ways_12 x0 x1 FU 1 (nI 1) with ⟨v6, v7⟩
    show G z mX12_ways (d) 0 0 38 [none, none, some (.long v6), none, none] [] M Q
    refine G.sl [(.lload_n 2, 1, 2, 0, 0, 0)] [] (pc2 := 39) (ls2 := [none, none, some (.long v6), none, none]) (st2 := [.long v6]) (M2 := M) (Ps := []) (by decide +kernel) rfl rfl trivial ?_
    exact G.retl (by decide +kernel) rfl (Nat.le_of_ble_eq_true rfl) (Nat.le_of_ble_eq_true rfl) ((by rw [hQ]; simp only [k_ways, if_pos c1, g5, mrow_self]))
  · skip
    rw [if_neg c1] at hk
    refine G.sl [(.lconst 0, 1, 0, 0, 0, 0)] [] (pc2 := 6) (ls2 := [some (.int x0), some (.int x1), none, none, none]) (st2 := [.long 0]) (M2 := M) (Ps := []) (by decide +kernel) rfl rfl trivial ?_
    exact G.retl (by decide +kernel) rfl (Nat.le_of_ble_eq_true rfl) (Nat.le_of_ble_eq_true rfl) ((by rw [hQ]; simp only [k_ways, if_neg c1, mrow_self]))
set_option maxHeartbeats 4000000 in
set_option maxRecDepth 3000 in
theorem lp_k_least_6 (z : Zp) (d : Nat) (M : Mem) (Q : Rs → Prop) (x0 : Int64) (x2 : Int64) (x4 : Int32) : ∀ (k0 : Nat) (s5 : Int64) (s7 : Int64), k_least_6_ok x0 x2 x4 k0 s5 s7 → (match k_least_6 x0 x2 x4 k0 s5 s7 with | (s5', s7') => G z mX12_least (d) 0 0 31 [some (.long x0), none, some (.long x2), none, some (.int x4), some (.long (s5')), none, none, none, none, none] [] M Q) → G z mX12_least (d) 0 0 6 [some (.long x0), none, some (.long x2), none, some (.int x4), some (.long s5), none, some (.long s7), none, none, none] [] M Q := by
  intro k0
  induction k0 with
  | zero =>
      intro s5 s7 hk hX
      exact (by simpa only [k_least_6_ok] using hk : False).elim
  | succ k0 ih =>
      intro s5 s7 hk hX
      simp only [k_least_6_ok] at hk
      refine G.sl [(.lload 7, 2, 7, 0, 0, 0), (.lconst 0, 1, 0, 0, 0, 0), (.lcmp, 1, 0, 0, 0, 0)] [] (pc2 := 10) (ls2 := [some (.long x0), none, some (.long x2), none, some (.int x4), some (.long s5), none, some (.long s7), none, none, none]) (st2 := [.int (lg_cmp s7 0)]) (M2 := M) (Ps := []) (by decide +kernel) rfl rfl trivial ?_
      refine G.if_eq (off := (21)) (tgt := 31) (by decide +kernel) rfl (fun c1 => ?_) (fun c1 => ?_)
      · skip
        rw [if_pos c1] at hk
        refine G.loc (ls2 := [some (.long x0), none, some (.long x2), none, some (.int x4), some (.long s5), none, none, none, none, none]) (by simp [subL]) ?_
        simp only [k_least_6, if_pos c1] at hX
        exact hX
      · skip
        rw [if_neg c1] at hk
        obtain ⟨k2, hk⟩ := hk
        refine G.sl [(.lload 5, 2, 5, 0, 0, 0), (.lload 7, 2, 7, 0, 0, 0), (.lrem, 1, 0, 0, 0, 0), (.lstore 9, 2, 9, 0, 0, 0), (.lload 7, 2, 7, 0, 0, 0), (.lstore 5, 2, 5, 0, 0, 0), (.lload 9, 2, 9, 0, 0, 0), (.lstore 7, 2, 7, 0, 0, 0), (.goto (-22), 3, 6, 0, 0, 0)] [] (pc2 := 6) (ls2 := [some (.long x0), none, some (.long x2), none, some (.int x4), some (.long s7), none, some (.long (s5 - s5 / s7 * s7)), none, some (.long (s5 - s5 / s7 * s7)), none]) (st2 := []) (M2 := M) (Ps := [¬ s7 = 0]) (by decide +kernel) rfl rfl ⟨k2, trivial⟩ ?_
        refine G.loc (ls2 := [some (.long x0), none, some (.long x2), none, some (.int x4), some (.long s7), none, some (.long (s5 - s5 / s7 * s7)), none, none, none]) (by simp [subL]) ?_
        simp only [k_least_6, if_neg c1] at hX
        exact ih s7 (s5 - s5 / s7 * s7) hk hX
set_option maxHeartbeats 4000000 in
set_option maxRecDepth 3000 in
theorem c_k_least (z : Zp) (d : Nat) (M : Mem) (x0 : Int64) (x2 : Int64) (x4 : Int32) (hk : k_least_ok x0 x2 x4) : GM z mX12_least (d) [.long x0, .long x2, .int x4] M (fun rs => rs = .inl (some (.long (k_least x0 x2 x4)), M)) := by
  simp only [k_least_ok] at hk
  refine GM.of oX12_least.1 (Nat.le_of_ble_eq_true rfl) ?_
  show G z mX12_least (d) 0 0 0 [some (.long x0), none, some (.long x2), none, some (.int x4), none, none, none, none, none, none] [] M _
  obtain ⟨Q, hQ⟩ : ∃ Q : Rs → Prop, Q = (fun rs => rs = .inl (some (.long (k_least x0 x2 x4)), M)) := ⟨_, rfl⟩
  rw [← hQ]
  refine G.sl [(.lload_n 0, 1, 0, 0, 0, 0), (.lstore 5, 2, 5, 0, 0, 0), (.lload_n 2, 1, 2, 0, 0, 0), (.lstore 7, 2, 7, 0, 0, 0)] [] (pc2 := 6) (ls2 := [some (.long x0), none, some (.long x2), none, some (.int x4), some (.long x0), none, some (.long x2), none, none, none]) (st2 := []) (M2 := M) (Ps := []) (by decide +kernel) rfl rfl trivial ?_
  obtain ⟨k3, hk⟩ := hk
  refine lp_k_least_6 z d M Q x0 x2 x4 FU x0 x2 (by first | (simp only [mput, mrow_same, mrow_hit, mrow_miss, mrow_sw, idr_eq, ne_eq, Nat.reduceEqDiff, not_false_eq_true, Nat.reduceLT, reduceCtorEq]; exact k3) | exact k3) ?_
  try simp only [mput, mrow_same, mrow_hit, mrow_miss, mrow_sw, idr_eq, ne_eq, Nat.reduceEqDiff, not_false_eq_true, Nat.reduceLT, reduceCtorEq]
  rcases g4 : k_least_6 x0 x2 x4 FU x0 x2 with ⟨v5, v6⟩
  try simp only [g4] at hk
  show G z mX12_least (d) 0 0 31 [some (.long x0), none, some (.long x2), none, some (.int x4), some (.long v5), none, none, none, none, none] [] M Q
  refine G.sl [(.iload 4, 2, 4, 0, 0, 0)] [] (pc2 := 33) (ls2 := [some (.long x0), none, some (.long x2), none, some (.int x4), some (.long v5), none, none, none, none, none]) (st2 := [.int x4]) (M2 := M) (Ps := []) (by decide +kernel) rfl rfl trivial ?_
  refine G.if_ne (off := (7)) (tgt := 40) (by decide +kernel) rfl (fun c7 => ?_) (fun c7 => ?_)
  · skip
    rw [if_neg c7] at hk
    obtain ⟨k8, hk⟩ := hk
    refine G.sl [(.lload_n 2, 1, 2, 0, 0, 0), (.lload 5, 2, 5, 0, 0, 0), (.ldiv, 1, 0, 0, 0, 0)] [] (pc2 := 44) (ls2 := [some (.long x0), none, some (.long x2), none, some (.int x4), some (.long v5), none, none, none, none, none]) (st2 := [.long (x2 / v5)]) (M2 := M) (Ps := [¬ v5 = 0]) (by decide +kernel) rfl rfl ⟨k8, trivial⟩ ?_
    exact G.retl (by decide +kernel) rfl (Nat.le_of_ble_eq_true rfl) (Nat.le_of_ble_eq_true rfl) ((by rw [hQ]; simp only [k_least, g4, if_neg c7, mrow_self]))
  · skip
    rw [if_pos c7] at hk
    obtain ⟨k9, hk⟩ := hk
    refine G.sl [(.lload_n 0, 1, 0, 0, 0, 0), (.goto 4, 3, 41, 0, 0, 0), (.lload 5, 2, 5, 0, 0, 0), (.ldiv, 1, 0, 0, 0, 0)] [] (pc2 := 44) (ls2 := [some (.long x0), none, some (.long x2), none, some (.int x4), some (.long v5), none, none, none, none, none]) (st2 := [.long (x0 / v5)]) (M2 := M) (Ps := [¬ v5 = 0]) (by decide +kernel) rfl rfl ⟨k9, trivial⟩ ?_
    exact G.retl (by decide +kernel) rfl (Nat.le_of_ble_eq_true rfl) (Nat.le_of_ble_eq_true rfl) ((by rw [hQ]; simp only [k_least, g4, if_pos c7, mrow_self]))
set_option maxHeartbeats 4000000 in
set_option maxRecDepth 3000 in
theorem c_k_pins_54 (z : Zp) (d : Nat) (M : Mem) (x1 : Int32) (x2 : Int32) (x3 : Int32) (x4 : Int32) (hk : k_pins_ok (M.1 54) (M.1 55) x1 x2 x3 x4) : GM z mX12_pins (d + 1) [.ref 54, .int x1, .int x2, .int x3, .int x4] M (fun rs => rs = .inl (some (.long ((k_pins (M.1 54) (M.1 55) x1 x2 x3 x4).1)), mrow (mrow M 54 ((k_pins (M.1 54) (M.1 55) x1 x2 x3 x4).2.1)) 55 ((k_pins (M.1 54) (M.1 55) x1 x2 x3 x4).2.2))) := by
  simp only [k_pins_ok] at hk
  refine GM.of oX12_pins.1 (Nat.le_of_ble_eq_true rfl) ?_
  show G z mX12_pins (d + 1) 0 0 0 [some (.ref 54), some (.int x1), some (.int x2), some (.int x3), some (.int x4), none, none] [] M _
  obtain ⟨Q, hQ⟩ : ∃ Q : Rs → Prop, Q = (fun rs => rs = .inl (some (.long ((k_pins (M.1 54) (M.1 55) x1 x2 x3 x4).1)), mrow (mrow M 54 ((k_pins (M.1 54) (M.1 55) x1 x2 x3 x4).2.1)) 55 ((k_pins (M.1 54) (M.1 55) x1 x2 x3 x4).2.2))) := ⟨_, rfl⟩
  rw [← hQ]
  refine G.sl [(.aload_n 0, 1, 0, 0, 0, 0), (.iconst 0, 1, 0, 0, 0, nI 0), (.putfield 3, 3, 11, 0, 123, 0), (.aload_n 0, 1, 0, 0, 0, 0), (.iload_n 1, 1, 1, 0, 0, 0), (.iconst 0, 1, 0, 0, 0, nI 0), (.bipush 20, 2, 0, 0, 0, nI 20)] [] (pc2 := 10) (ls2 := [some (.ref 54), some (.int x1), some (.int x2), some (.int x3), some (.int x4), none, none]) (st2 := [.int (nI 20), .int (nI 0), .int x1, .ref 54]) (M2 := mput M 54 0 (nI 0)) (Ps := []) (by decide +kernel) rfl rfl trivial ?_
  refine G.mem (M' := mrow M 54 (upd (M.1 54) 0 (nI 0))) (by first | rfl | (simp only [mput, mrow_same, mrow_hit, mrow_miss, mrow_sw, idr_eq, ne_eq, Nat.reduceEqDiff, not_false_eq_true, Nat.reduceLT, reduceCtorEq]; done)) ?_
  obtain ⟨k1, hk⟩ := hk
  have t2 : GM z mX12_within (d) [.int x1, .int (nI 0), .int (nI 20)] (mrow M 54 (upd (M.1 54) 0 (nI 0))) (fun rs => rs = .inl (some (.int (k_within x1 (nI 0) (nI 20))), mrow M 54 (upd (M.1 54) 0 (nI 0)))) := by
    have q9 := c_k_within z d (mrow M 54 (upd (M.1 54) 0 (nI 0))) x1 (nI 0) (nI 20)
    try simp only [mput, mrow_same, mrow_hit, mrow_miss, mrow_sw, idr_eq, ne_eq, Nat.reduceEqDiff, not_false_eq_true, Nat.reduceLT, reduceCtorEq] at q9
    exact q9
  refine G.callS (as := [.int x1, .int (nI 0), .int (nI 20)]) (rest := [.ref 54]) oX12_within lk_EvenFindersModel_379 (by decide +kernel) rfl (Nat.le_of_ble_eq_true rfl) rfl ⟨Nat.le_of_ble_eq_true rfl, Nat.le_of_ble_eq_true rfl⟩ t2 (fun v9 N9 h3 => ?_) (fun E9 N9 h3 => by cases h3)
  cases h3
  show G z mX12_pins (d + 1) 0 0 13 [some (.ref 54), some (.int x1), some (.int x2), some (.int x3), some (.int x4), none, none] [.int (k_within x1 (nI 0) (nI 20)), .ref 54] (mrow M 54 (upd (M.1 54) 0 (nI 0))) Q
  refine G.if_eq (off := (35)) (tgt := 48) (by decide +kernel) rfl (fun c4 => ?_) (fun c4 => ?_)
  · skip
    rw [if_pos c4] at hk
    refine G.sl [(.iconst 0, 1, 0, 0, 0, nI 0), (.iconst 1, 1, 0, 0, 0, nI 1), (.iconst 1, 1, 0, 0, 0, nI 1)] [] (pc2 := 51) (ls2 := [some (.ref 54), some (.int x1), some (.int x2), some (.int x3), some (.int x4), none, none]) (st2 := [.int (nI 1), .int (nI 1), .int (nI 0), .ref 54]) (M2 := mrow M 54 (upd (M.1 54) 0 (nI 0))) (Ps := []) (by decide +kernel) rfl rfl trivial ?_
    have t5 : GM z mX12_may (d) [.ref 54, .int (nI 0), .int (nI 1), .int (nI 1)] (mrow M 54 (upd (M.1 54) 0 (nI 0))) (fun rs => rs = .inl (some (.int (nI 0)), mrow (mrow M 54 (upd (upd (M.1 54) 0 (nI 0)) 0 (nI 1))) 55 (upd (M.1 55) 1 ((M.1 55 1) + nI 1)))) := by
      have q9 := m_may_1_f z d (mrow M 54 (upd (M.1 54) 0 (nI 0))) (nI 1) (by first | rfl | (simp only [mput, mrow_same, mrow_hit, mrow_miss, mrow_sw, idr_eq, ne_eq, Nat.reduceEqDiff, not_false_eq_true, Nat.reduceLT, reduceCtorEq, pk_us]; done)) (by decide)
      try simp only [mput, mrow_same, mrow_hit, mrow_miss, mrow_sw, idr_eq, ne_eq, Nat.reduceEqDiff, not_false_eq_true, Nat.reduceLT, reduceCtorEq] at q9
      exact q9
    refine G.callV (as := [.int (nI 0), .int (nI 1), .int (nI 1)]) (rest := []) (a := 54) oX12_may lk_EvenFindersModel_213 (by decide +kernel) rfl rfl ⟨rfl, rfl⟩ (Nat.le_of_ble_eq_true rfl) rfl ⟨Nat.le_of_ble_eq_true rfl, Nat.le_of_ble_eq_true rfl⟩ t5 (fun v9 N9 h6 => ?_) (fun E9 N9 h6 => by cases h6)
    cases h6
    show G z mX12_pins (d + 1) 0 0 54 [some (.ref 54), some (.int x1), some (.int x2), some (.int x3), some (.int x4), none, none] [.int (nI 0)] (mrow (mrow M 54 (upd (upd (M.1 54) 0 (nI 0)) 0 (nI 1))) 55 (upd (M.1 55) 1 ((M.1 55 1) + nI 1))) Q
    refine G.if_ne (off := (5)) (tgt := 59) (by decide +kernel) rfl (fun h9 => absurd (by decide) h9) (fun _ => ?_)
    refine G.sl [(.lconst 0, 1, 0, 0, 0, 0)] [] (pc2 := 58) (ls2 := [some (.ref 54), some (.int x1), some (.int x2), some (.int x3), some (.int x4), none, none]) (st2 := [.long 0]) (M2 := mrow (mrow M 54 (upd (upd (M.1 54) 0 (nI 0)) 0 (nI 1))) 55 (upd (M.1 55) 1 ((M.1 55 1) + nI 1))) (Ps := []) (by decide +kernel) rfl rfl trivial ?_
    exact G.retl (by decide +kernel) rfl (Nat.le_of_ble_eq_true rfl) (Nat.le_of_ble_eq_true rfl) ((by rw [hQ]; simp only [k_pins, if_pos c4, mrow_self]))
  · skip
    rw [if_neg c4] at hk
    refine G.sl [(.iload_n 2, 1, 2, 0, 0, 0), (.iconst 0, 1, 0, 0, 0, nI 0), (.iload_n 1, 1, 1, 0, 0, 0)] [] (pc2 := 19) (ls2 := [some (.ref 54), some (.int x1), some (.int x2), some (.int x3), some (.int x4), none, none]) (st2 := [.int x1, .int (nI 0), .int x2, .ref 54]) (M2 := mrow M 54 (upd (M.1 54) 0 (nI 0))) (Ps := []) (by decide +kernel) rfl rfl trivial ?_
    obtain ⟨k7, hk⟩ := hk
    have t8 : GM z mX12_within (d) [.int x2, .int (nI 0), .int x1] (mrow M 54 (upd (M.1 54) 0 (nI 0))) (fun rs => rs = .inl (some (.int (k_within x2 (nI 0) x1)), mrow M 54 (upd (M.1 54) 0 (nI 0)))) := by
      have q9 := c_k_within z d (mrow M 54 (upd (M.1 54) 0 (nI 0))) x2 (nI 0) x1
      try simp only [mput, mrow_same, mrow_hit, mrow_miss, mrow_sw, idr_eq, ne_eq, Nat.reduceEqDiff, not_false_eq_true, Nat.reduceLT, reduceCtorEq] at q9
      exact q9
    refine G.callS (as := [.int x2, .int (nI 0), .int x1]) (rest := [.ref 54]) oX12_within lk_EvenFindersModel_379 (by decide +kernel) rfl (Nat.le_of_ble_eq_true rfl) rfl ⟨Nat.le_of_ble_eq_true rfl, Nat.le_of_ble_eq_true rfl⟩ t8 (fun v9 N9 h9 => ?_) (fun E9 N9 h9 => by cases h9)
    cases h9
    show G z mX12_pins (d + 1) 0 0 22 [some (.ref 54), some (.int x1), some (.int x2), some (.int x3), some (.int x4), none, none] [.int (k_within x2 (nI 0) x1), .ref 54] (mrow M 54 (upd (M.1 54) 0 (nI 0))) Q
    refine G.if_eq (off := (26)) (tgt := 48) (by decide +kernel) rfl (fun c10 => ?_) (fun c10 => ?_)
    · skip
      rw [if_pos c10] at hk
      refine G.sl [(.iconst 0, 1, 0, 0, 0, nI 0), (.iconst 1, 1, 0, 0, 0, nI 1), (.iconst 1, 1, 0, 0, 0, nI 1)] [] (pc2 := 51) (ls2 := [some (.ref 54), some (.int x1), some (.int x2), some (.int x3), some (.int x4), none, none]) (st2 := [.int (nI 1), .int (nI 1), .int (nI 0), .ref 54]) (M2 := mrow M 54 (upd (M.1 54) 0 (nI 0))) (Ps := []) (by decide +kernel) rfl rfl trivial ?_
      have t11 : GM z mX12_may (d) [.ref 54, .int (nI 0), .int (nI 1), .int (nI 1)] (mrow M 54 (upd (M.1 54) 0 (nI 0))) (fun rs => rs = .inl (some (.int (nI 0)), mrow (mrow M 54 (upd (upd (M.1 54) 0 (nI 0)) 0 (nI 1))) 55 (upd (M.1 55) 1 ((M.1 55 1) + nI 1)))) := by
        have q9 := m_may_1_f z d (mrow M 54 (upd (M.1 54) 0 (nI 0))) (nI 1) (by first | rfl | (simp only [mput, mrow_same, mrow_hit, mrow_miss, mrow_sw, idr_eq, ne_eq, Nat.reduceEqDiff, not_false_eq_true, Nat.reduceLT, reduceCtorEq, pk_us]; done)) (by decide)
        try simp only [mput, mrow_same, mrow_hit, mrow_miss, mrow_sw, idr_eq, ne_eq, Nat.reduceEqDiff, not_false_eq_true, Nat.reduceLT, reduceCtorEq] at q9
        exact q9
      refine G.callV (as := [.int (nI 0), .int (nI 1), .int (nI 1)]) (rest := []) (a := 54) oX12_may lk_EvenFindersModel_213 (by decide +kernel) rfl rfl ⟨rfl, rfl⟩ (Nat.le_of_ble_eq_true rfl) rfl ⟨Nat.le_of_ble_eq_true rfl, Nat.le_of_ble_eq_true rfl⟩ t11 (fun v9 N9 h12 => ?_) (fun E9 N9 h12 => by cases h12)
      cases h12
      show G z mX12_pins (d + 1) 0 0 54 [some (.ref 54), some (.int x1), some (.int x2), some (.int x3), some (.int x4), none, none] [.int (nI 0)] (mrow (mrow M 54 (upd (upd (M.1 54) 0 (nI 0)) 0 (nI 1))) 55 (upd (M.1 55) 1 ((M.1 55 1) + nI 1))) Q
      refine G.if_ne (off := (5)) (tgt := 59) (by decide +kernel) rfl (fun h9 => absurd (by decide) h9) (fun _ => ?_)
      refine G.sl [(.lconst 0, 1, 0, 0, 0, 0)] [] (pc2 := 58) (ls2 := [some (.ref 54), some (.int x1), some (.int x2), some (.int x3), some (.int x4), none, none]) (st2 := [.long 0]) (M2 := mrow (mrow M 54 (upd (upd (M.1 54) 0 (nI 0)) 0 (nI 1))) 55 (upd (M.1 55) 1 ((M.1 55 1) + nI 1))) (Ps := []) (by decide +kernel) rfl rfl trivial ?_
      exact G.retl (by decide +kernel) rfl (Nat.le_of_ble_eq_true rfl) (Nat.le_of_ble_eq_true rfl) ((by rw [hQ]; simp only [k_pins, if_neg c4, if_pos c10, mrow_self]))
    · skip
      rw [if_neg c10] at hk
      refine G.sl [(.iload_n 3, 1, 3, 0, 0, 0), (.iconst 0, 1, 0, 0, 0, nI 0), (.iload_n 1, 1, 1, 0, 0, 0)] [] (pc2 := 28) (ls2 := [some (.ref 54), some (.int x1), some (.int x2), some (.int x3), some (.int x4), none, none]) (st2 := [.int x1, .int (nI 0), .int x3, .ref 54]) (M2 := mrow M 54 (upd (M.1 54) 0 (nI 0))) (Ps := []) (by decide +kernel) rfl rfl trivial ?_
      obtain ⟨k13, hk⟩ := hk
      have t14 : GM z mX12_within (d) [.int x3, .int (nI 0), .int x1] (mrow M 54 (upd (M.1 54) 0 (nI 0))) (fun rs => rs = .inl (some (.int (k_within x3 (nI 0) x1)), mrow M 54 (upd (M.1 54) 0 (nI 0)))) := by
        have q9 := c_k_within z d (mrow M 54 (upd (M.1 54) 0 (nI 0))) x3 (nI 0) x1
        try simp only [mput, mrow_same, mrow_hit, mrow_miss, mrow_sw, idr_eq, ne_eq, Nat.reduceEqDiff, not_false_eq_true, Nat.reduceLT, reduceCtorEq] at q9
        exact q9
      refine G.callS (as := [.int x3, .int (nI 0), .int x1]) (rest := [.ref 54]) oX12_within lk_EvenFindersModel_379 (by decide +kernel) rfl (Nat.le_of_ble_eq_true rfl) rfl ⟨Nat.le_of_ble_eq_true rfl, Nat.le_of_ble_eq_true rfl⟩ t14 (fun v9 N9 h15 => ?_) (fun E9 N9 h15 => by cases h15)
      cases h15
      show G z mX12_pins (d + 1) 0 0 31 [some (.ref 54), some (.int x1), some (.int x2), some (.int x3), some (.int x4), none, none] [.int (k_within x3 (nI 0) x1), .ref 54] (mrow M 54 (upd (M.1 54) 0 (nI 0))) Q
      refine G.if_eq (off := (17)) (tgt := 48) (by decide +kernel) rfl (fun c16 => ?_) (fun c16 => ?_)
      · skip
        rw [if_pos c16] at hk
        refine G.sl [(.iconst 0, 1, 0, 0, 0, nI 0), (.iconst 1, 1, 0, 0, 0, nI 1), (.iconst 1, 1, 0, 0, 0, nI 1)] [] (pc2 := 51) (ls2 := [some (.ref 54), some (.int x1), some (.int x2), some (.int x3), some (.int x4), none, none]) (st2 := [.int (nI 1), .int (nI 1), .int (nI 0), .ref 54]) (M2 := mrow M 54 (upd (M.1 54) 0 (nI 0))) (Ps := []) (by decide +kernel) rfl rfl trivial ?_
        have t17 : GM z mX12_may (d) [.ref 54, .int (nI 0), .int (nI 1), .int (nI 1)] (mrow M 54 (upd (M.1 54) 0 (nI 0))) (fun rs => rs = .inl (some (.int (nI 0)), mrow (mrow M 54 (upd (upd (M.1 54) 0 (nI 0)) 0 (nI 1))) 55 (upd (M.1 55) 1 ((M.1 55 1) + nI 1)))) := by
          have q9 := m_may_1_f z d (mrow M 54 (upd (M.1 54) 0 (nI 0))) (nI 1) (by first | rfl | (simp only [mput, mrow_same, mrow_hit, mrow_miss, mrow_sw, idr_eq, ne_eq, Nat.reduceEqDiff, not_false_eq_true, Nat.reduceLT, reduceCtorEq, pk_us]; done)) (by decide)
          try simp only [mput, mrow_same, mrow_hit, mrow_miss, mrow_sw, idr_eq, ne_eq, Nat.reduceEqDiff, not_false_eq_true, Nat.reduceLT, reduceCtorEq] at q9
          exact q9
        refine G.callV (as := [.int (nI 0), .int (nI 1), .int (nI 1)]) (rest := []) (a := 54) oX12_may lk_EvenFindersModel_213 (by decide +kernel) rfl rfl ⟨rfl, rfl⟩ (Nat.le_of_ble_eq_true rfl) rfl ⟨Nat.le_of_ble_eq_true rfl, Nat.le_of_ble_eq_true rfl⟩ t17 (fun v9 N9 h18 => ?_) (fun E9 N9 h18 => by cases h18)
        cases h18
        show G z mX12_pins (d + 1) 0 0 54 [some (.ref 54), some (.int x1), some (.int x2), some (.int x3), some (.int x4), none, none] [.int (nI 0)] (mrow (mrow M 54 (upd (upd (M.1 54) 0 (nI 0)) 0 (nI 1))) 55 (upd (M.1 55) 1 ((M.1 55 1) + nI 1))) Q
        refine G.if_ne (off := (5)) (tgt := 59) (by decide +kernel) rfl (fun h9 => absurd (by decide) h9) (fun _ => ?_)
        refine G.sl [(.lconst 0, 1, 0, 0, 0, 0)] [] (pc2 := 58) (ls2 := [some (.ref 54), some (.int x1), some (.int x2), some (.int x3), some (.int x4), none, none]) (st2 := [.long 0]) (M2 := mrow (mrow M 54 (upd (upd (M.1 54) 0 (nI 0)) 0 (nI 1))) 55 (upd (M.1 55) 1 ((M.1 55 1) + nI 1))) (Ps := []) (by decide +kernel) rfl rfl trivial ?_
        exact G.retl (by decide +kernel) rfl (Nat.le_of_ble_eq_true rfl) (Nat.le_of_ble_eq_true rfl) ((by rw [hQ]; simp only [k_pins, if_neg c4, if_neg c10, if_pos c16, mrow_self]))
      · skip
        rw [if_neg c16] at hk
        refine G.sl [(.iload 4, 2, 4, 0, 0, 0), (.iconst 0, 1, 0, 0, 0, nI 0), (.iconst 1, 1, 0, 0, 0, nI 1)] [] (pc2 := 38) (ls2 := [some (.ref 54), some (.int x1), some (.int x2), some (.int x3), some (.int x4), none, none]) (st2 := [.int (nI 1), .int (nI 0), .int x4, .ref 54]) (M2 := mrow M 54 (upd (M.1 54) 0 (nI 0))) (Ps := []) (by decide +kernel) rfl rfl trivial ?_
        obtain ⟨k19, hk⟩ := hk
        have t20 : GM z mX12_within (d) [.int x4, .int (nI 0), .int (nI 1)] (mrow M 54 (upd (M.1 54) 0 (nI 0))) (fun rs => rs = .inl (some (.int (k_within x4 (nI 0) (nI 1))), mrow M 54 (upd (M.1 54) 0 (nI 0)))) := by
          have q9 := c_k_within z d (mrow M 54 (upd (M.1 54) 0 (nI 0))) x4 (nI 0) (nI 1)
          try simp only [mput, mrow_same, mrow_hit, mrow_miss, mrow_sw, idr_eq, ne_eq, Nat.reduceEqDiff, not_false_eq_true, Nat.reduceLT, reduceCtorEq] at q9
          exact q9
        refine G.callS (as := [.int x4, .int (nI 0), .int (nI 1)]) (rest := [.ref 54]) oX12_within lk_EvenFindersModel_379 (by decide +kernel) rfl (Nat.le_of_ble_eq_true rfl) rfl ⟨Nat.le_of_ble_eq_true rfl, Nat.le_of_ble_eq_true rfl⟩ t20 (fun v9 N9 h21 => ?_) (fun E9 N9 h21 => by cases h21)
        cases h21
        show G z mX12_pins (d + 1) 0 0 41 [some (.ref 54), some (.int x1), some (.int x2), some (.int x3), some (.int x4), none, none] [.int (k_within x4 (nI 0) (nI 1)), .ref 54] (mrow M 54 (upd (M.1 54) 0 (nI 0))) Q
        refine G.if_eq (off := (7)) (tgt := 48) (by decide +kernel) rfl (fun c22 => ?_) (fun c22 => ?_)
        · skip
          rw [if_pos c22] at hk
          refine G.sl [(.iconst 0, 1, 0, 0, 0, nI 0), (.iconst 1, 1, 0, 0, 0, nI 1), (.iconst 1, 1, 0, 0, 0, nI 1)] [] (pc2 := 51) (ls2 := [some (.ref 54), some (.int x1), some (.int x2), some (.int x3), some (.int x4), none, none]) (st2 := [.int (nI 1), .int (nI 1), .int (nI 0), .ref 54]) (M2 := mrow M 54 (upd (M.1 54) 0 (nI 0))) (Ps := []) (by decide +kernel) rfl rfl trivial ?_
          have t23 : GM z mX12_may (d) [.ref 54, .int (nI 0), .int (nI 1), .int (nI 1)] (mrow M 54 (upd (M.1 54) 0 (nI 0))) (fun rs => rs = .inl (some (.int (nI 0)), mrow (mrow M 54 (upd (upd (M.1 54) 0 (nI 0)) 0 (nI 1))) 55 (upd (M.1 55) 1 ((M.1 55 1) + nI 1)))) := by
            have q9 := m_may_1_f z d (mrow M 54 (upd (M.1 54) 0 (nI 0))) (nI 1) (by first | rfl | (simp only [mput, mrow_same, mrow_hit, mrow_miss, mrow_sw, idr_eq, ne_eq, Nat.reduceEqDiff, not_false_eq_true, Nat.reduceLT, reduceCtorEq, pk_us]; done)) (by decide)
            try simp only [mput, mrow_same, mrow_hit, mrow_miss, mrow_sw, idr_eq, ne_eq, Nat.reduceEqDiff, not_false_eq_true, Nat.reduceLT, reduceCtorEq] at q9
            exact q9
          refine G.callV (as := [.int (nI 0), .int (nI 1), .int (nI 1)]) (rest := []) (a := 54) oX12_may lk_EvenFindersModel_213 (by decide +kernel) rfl rfl ⟨rfl, rfl⟩ (Nat.le_of_ble_eq_true rfl) rfl ⟨Nat.le_of_ble_eq_true rfl, Nat.le_of_ble_eq_true rfl⟩ t23 (fun v9 N9 h24 => ?_) (fun E9 N9 h24 => by cases h24)
          cases h24
          show G z mX12_pins (d + 1) 0 0 54 [some (.ref 54), some (.int x1), some (.int x2), some (.int x3), some (.int x4), none, none] [.int (nI 0)] (mrow (mrow M 54 (upd (upd (M.1 54) 0 (nI 0)) 0 (nI 1))) 55 (upd (M.1 55) 1 ((M.1 55 1) + nI 1))) Q
          refine G.if_ne (off := (5)) (tgt := 59) (by decide +kernel) rfl (fun h9 => absurd (by decide) h9) (fun _ => ?_)
          refine G.sl [(.lconst 0, 1, 0, 0, 0, 0)] [] (pc2 := 58) (ls2 := [some (.ref 54), some (.int x1), some (.int x2), some (.int x3), some (.int x4), none, none]) (st2 := [.long 0]) (M2 := mrow (mrow M 54 (upd (upd (M.1 54) 0 (nI 0)) 0 (nI 1))) 55 (upd (M.1 55) 1 ((M.1 55 1) + nI 1))) (Ps := []) (by decide +kernel) rfl rfl trivial ?_
          exact G.retl (by decide +kernel) rfl (Nat.le_of_ble_eq_true rfl) (Nat.le_of_ble_eq_true rfl) ((by rw [hQ]; simp only [k_pins, if_neg c4, if_neg c10, if_neg c16, if_pos c22, mrow_self]))
        · skip
          rw [if_neg c22] at hk
          refine G.sl [(.iconst 1, 1, 0, 0, 0, nI 1), (.goto 4, 3, 49, 0, 0, 0), (.iconst 1, 1, 0, 0, 0, nI 1), (.iconst 1, 1, 0, 0, 0, nI 1)] [] (pc2 := 51) (ls2 := [some (.ref 54), some (.int x1), some (.int x2), some (.int x3), some (.int x4), none, none]) (st2 := [.int (nI 1), .int (nI 1), .int (nI 1), .ref 54]) (M2 := mrow M 54 (upd (M.1 54) 0 (nI 0))) (Ps := []) (by decide +kernel) rfl rfl trivial ?_
          have t25 : GM z mX12_may (d) [.ref 54, .int (nI 1), .int (nI 1), .int (nI 1)] (mrow M 54 (upd (M.1 54) 0 (nI 0))) (fun rs => rs = .inl (some (.int (nI 1)), mrow M 54 (upd (M.1 54) 0 (nI 0)))) := by
            have q9 := m_may_1_t z d (mrow M 54 (upd (M.1 54) 0 (nI 0))) (nI 1) (by first | rfl | (simp only [mput, mrow_same, mrow_hit, mrow_miss, mrow_sw, idr_eq, ne_eq, Nat.reduceEqDiff, not_false_eq_true, Nat.reduceLT, reduceCtorEq, pk_us]; done))
            try simp only [mput, mrow_same, mrow_hit, mrow_miss, mrow_sw, idr_eq, ne_eq, Nat.reduceEqDiff, not_false_eq_true, Nat.reduceLT, reduceCtorEq] at q9
            exact q9
          refine G.callV (as := [.int (nI 1), .int (nI 1), .int (nI 1)]) (rest := []) (a := 54) oX12_may lk_EvenFindersModel_213 (by decide +kernel) rfl rfl ⟨rfl, rfl⟩ (Nat.le_of_ble_eq_true rfl) rfl ⟨Nat.le_of_ble_eq_true rfl, Nat.le_of_ble_eq_true rfl⟩ t25 (fun v9 N9 h26 => ?_) (fun E9 N9 h26 => by cases h26)
          cases h26
          show G z mX12_pins (d + 1) 0 0 54 [some (.ref 54), some (.int x1), some (.int x2), some (.int x3), some (.int x4), none, none] [.int (nI 1)] (mrow M 54 (upd (M.1 54) 0 (nI 0))) Q
          refine G.if_ne (off := (5)) (tgt := 59) (by decide +kernel) rfl (fun _ => ?_) (fun h9 => absurd h9 (by decide))
          refine G.sl [(.iload_n 1, 1, 1, 0, 0, 0), (.iload_n 3, 1, 3, 0, 0, 0)] [] (pc2 := 61) (ls2 := [some (.ref 54), some (.int x1), some (.int x2), some (.int x3), some (.int x4), none, none]) (st2 := [.int x3, .int x1]) (M2 := mrow M 54 (upd (M.1 54) 0 (nI 0))) (Ps := []) (by decide +kernel) rfl rfl trivial ?_
          obtain ⟨k27, hk⟩ := hk
          have t28 : GM z mX12_ways (d) [.int x1, .int x3] (mrow M 54 (upd (M.1 54) 0 (nI 0))) (fun rs => rs = .inl (some (.long (k_ways x1 x3)), mrow M 54 (upd (M.1 54) 0 (nI 0)))) := by
            have q9 := c_k_ways z d (mrow M 54 (upd (M.1 54) 0 (nI 0))) x1 x3 k27
            try simp only [mput, mrow_same, mrow_hit, mrow_miss, mrow_sw, idr_eq, ne_eq, Nat.reduceEqDiff, not_false_eq_true, Nat.reduceLT, reduceCtorEq] at q9
            exact q9
          refine G.callS (as := [.int x1, .int x3]) (rest := []) oX12_ways lk_EvenFindersModel_415 (by decide +kernel) rfl (Nat.le_of_ble_eq_true rfl) rfl ⟨Nat.le_of_ble_eq_true rfl, Nat.le_of_ble_eq_true rfl⟩ t28 (fun v9 N9 h29 => ?_) (fun E9 N9 h29 => by cases h29)
          cases h29
          show G z mX12_pins (d + 1) 0 0 64 [some (.ref 54), some (.int x1), some (.int x2), some (.int x3), some (.int x4), none, none] [.long (k_ways x1 x3)] (mrow M 54 (upd (M.1 54) 0 (nI 0))) Q
          refine G.sl [(.lstore 5, 2, 5, 0, 0, 0), (.lload 5, 2, 5, 0, 0, 0), (.iload_n 1, 1, 1, 0, 0, 0), (.iload_n 2, 1, 2, 0, 0, 0), (.isub, 1, 0, 0, 0, 0), (.iload_n 3, 1, 3, 0, 0, 0)] [] (pc2 := 72) (ls2 := [some (.ref 54), some (.int x1), some (.int x2), some (.int x3), some (.int x4), some (.long (k_ways x1 x3)), none]) (st2 := [.int x3, .int (x1 - x2), .long (k_ways x1 x3)]) (M2 := mrow M 54 (upd (M.1 54) 0 (nI 0))) (Ps := []) (by decide +kernel) rfl rfl trivial ?_
          obtain ⟨k30, hk⟩ := hk
          have t31 : GM z mX12_ways (d) [.int (x1 - x2), .int x3] (mrow M 54 (upd (M.1 54) 0 (nI 0))) (fun rs => rs = .inl (some (.long (k_ways (x1 - x2) x3)), mrow M 54 (upd (M.1 54) 0 (nI 0)))) := by
            have q9 := c_k_ways z d (mrow M 54 (upd (M.1 54) 0 (nI 0))) (x1 - x2) x3 k30
            try simp only [mput, mrow_same, mrow_hit, mrow_miss, mrow_sw, idr_eq, ne_eq, Nat.reduceEqDiff, not_false_eq_true, Nat.reduceLT, reduceCtorEq] at q9
            exact q9
          refine G.callS (as := [.int (x1 - x2), .int x3]) (rest := [.long (k_ways x1 x3)]) oX12_ways lk_EvenFindersModel_415 (by decide +kernel) rfl (Nat.le_of_ble_eq_true rfl) rfl ⟨Nat.le_of_ble_eq_true rfl, Nat.le_of_ble_eq_true rfl⟩ t31 (fun v9 N9 h32 => ?_) (fun E9 N9 h32 => by cases h32)
          cases h32
          show G z mX12_pins (d + 1) 0 0 75 [some (.ref 54), some (.int x1), some (.int x2), some (.int x3), some (.int x4), some (.long (k_ways x1 x3)), none] [.long (k_ways (x1 - x2) x3), .long (k_ways x1 x3)] (mrow M 54 (upd (M.1 54) 0 (nI 0))) Q
          refine G.sl [(.lsub, 1, 0, 0, 0, 0), (.lload 5, 2, 5, 0, 0, 0), (.iload 4, 2, 4, 0, 0, 0)] [] (pc2 := 80) (ls2 := [some (.ref 54), some (.int x1), some (.int x2), some (.int x3), some (.int x4), some (.long (k_ways x1 x3)), none]) (st2 := [.int x4, .long (k_ways x1 x3), .long ((k_ways x1 x3) - (k_ways (x1 - x2) x3))]) (M2 := mrow M 54 (upd (M.1 54) 0 (nI 0))) (Ps := []) (by decide +kernel) rfl rfl trivial ?_
          obtain ⟨k33, hk⟩ := hk
          have t34 : GM z mX12_least (d) [.long ((k_ways x1 x3) - (k_ways (x1 - x2) x3)), .long (k_ways x1 x3), .int x4] (mrow M 54 (upd (M.1 54) 0 (nI 0))) (fun rs => rs = .inl (some (.long (k_least ((k_ways x1 x3) - (k_ways (x1 - x2) x3)) (k_ways x1 x3) x4)), mrow M 54 (upd (M.1 54) 0 (nI 0)))) := by
            have q9 := c_k_least z d (mrow M 54 (upd (M.1 54) 0 (nI 0))) ((k_ways x1 x3) - (k_ways (x1 - x2) x3)) (k_ways x1 x3) x4 k33
            try simp only [mput, mrow_same, mrow_hit, mrow_miss, mrow_sw, idr_eq, ne_eq, Nat.reduceEqDiff, not_false_eq_true, Nat.reduceLT, reduceCtorEq] at q9
            exact q9
          refine G.callS (as := [.long ((k_ways x1 x3) - (k_ways (x1 - x2) x3)), .long (k_ways x1 x3), .int x4]) (rest := []) oX12_least lk_EvenFindersModel_419 (by decide +kernel) rfl (Nat.le_of_ble_eq_true rfl) rfl ⟨Nat.le_of_ble_eq_true rfl, Nat.le_of_ble_eq_true rfl⟩ t34 (fun v9 N9 h35 => ?_) (fun E9 N9 h35 => by cases h35)
          cases h35
          show G z mX12_pins (d + 1) 0 0 83 [some (.ref 54), some (.int x1), some (.int x2), some (.int x3), some (.int x4), some (.long (k_ways x1 x3)), none] [.long (k_least ((k_ways x1 x3) - (k_ways (x1 - x2) x3)) (k_ways x1 x3) x4)] (mrow M 54 (upd (M.1 54) 0 (nI 0))) Q
          refine G.mem (M' := mrow (mrow M 54 (upd (M.1 54) 0 (nI 0))) 55 (M.1 55)) (((mrow_id (N := mrow M 54 (upd (M.1 54) 0 (nI 0))) (c := 55) (f := M.1 55) (by first | rfl | (simp only [mput, mrow_same, mrow_hit, mrow_miss, mrow_sw, idr_eq, ne_eq, Nat.reduceEqDiff, not_false_eq_true, Nat.reduceLT, reduceCtorEq]; done))).symm).trans (by first | rfl | (simp only [mput, mrow_same, mrow_hit, mrow_miss, mrow_sw, idr_eq, ne_eq, Nat.reduceEqDiff, not_false_eq_true, Nat.reduceLT, reduceCtorEq]; done))) ?_
          exact G.retl (by decide +kernel) rfl (Nat.le_of_ble_eq_true rfl) (Nat.le_of_ble_eq_true rfl) ((by rw [hQ]; simp only [k_pins, if_neg c4, if_neg c10, if_neg c16, if_neg c22, mrow_self]))
set_option maxHeartbeats 4000000 in
set_option maxRecDepth 3000 in
theorem c_k_hasBy (z : Zp) (d : Nat) (M : Mem) (x0 : Int32) (x1 : Int32) (x2 : Int32) (x3 : Int32) : GM z mX12_hasBy (d) [.int x0, .int x1, .int x2, .int x3] M (fun rs => rs = .inl (some (.int (k_hasBy x0 x1 x2 x3)), M)) := by
  refine GM.of oX12_hasBy.1 (Nat.le_of_ble_eq_true rfl) ?_
  show G z mX12_hasBy (d) 0 0 0 [some (.int x0), some (.int x1), some (.int x2), some (.int x3)] [] M _
  obtain ⟨Q, hQ⟩ : ∃ Q : Rs → Prop, Q = (fun rs => rs = .inl (some (.int (k_hasBy x0 x1 x2 x3)), M)) := ⟨_, rfl⟩
  rw [← hQ]
  refine G.sl [(.iload_n 0, 1, 0, 0, 0, 0), (.iconst 1, 1, 0, 0, 0, nI 1)] [] (pc2 := 2) (ls2 := [some (.int x0), some (.int x1), some (.int x2), some (.int x3)]) (st2 := [.int (nI 1), .int x0]) (M2 := M) (Ps := []) (by decide +kernel) rfl rfl trivial ?_
  refine G.ic_ne (off := (7)) (tgt := 9) (by decide +kernel) rfl (fun c1 => ?_) (fun c1 => ?_)
  · skip
    refine G.sl [(.iload_n 1, 1, 1, 0, 0, 0), (.iconst 1, 1, 0, 0, 0, nI 1)] [] (pc2 := 11) (ls2 := [some (.int x0), some (.int x1), some (.int x2), some (.int x3)]) (st2 := [.int (nI 1), .int x1]) (M2 := M) (Ps := []) (by decide +kernel) rfl rfl trivial ?_
    refine G.ic_ne (off := (9)) (tgt := 20) (by decide +kernel) rfl (fun c2 => ?_) (fun c2 => ?_)
    · skip
      refine G.sl [(.iload_n 3, 1, 3, 0, 0, 0), (.ineg, 1, 0, 0, 0, 0)] [] (pc2 := 22) (ls2 := [some (.int x0), some (.int x1), some (.int x2), some (.int x3)]) (st2 := [.int (-x3)]) (M2 := M) (Ps := []) (by decide +kernel) rfl rfl trivial ?_
      exact G.reti (by decide +kernel) rfl rfl (Nat.le_of_ble_eq_true rfl) (Nat.le_of_ble_eq_true rfl) ((by rw [hQ]; simp only [k_hasBy, if_neg c1, if_neg c2, mrow_self]))
    · skip
      refine G.sl [(.iload_n 2, 1, 2, 0, 0, 0), (.iload_n 3, 1, 3, 0, 0, 0), (.isub, 1, 0, 0, 0, 0), (.goto 5, 3, 22, 0, 0, 0)] [] (pc2 := 22) (ls2 := [some (.int x0), some (.int x1), some (.int x2), some (.int x3)]) (st2 := [.int (x2 - x3)]) (M2 := M) (Ps := []) (by decide +kernel) rfl rfl trivial ?_
      exact G.reti (by decide +kernel) rfl rfl (Nat.le_of_ble_eq_true rfl) (Nat.le_of_ble_eq_true rfl) ((by rw [hQ]; simp only [k_hasBy, if_neg c1, if_pos c2, mrow_self]))
  · skip
    refine G.sl [(.iconst 0, 1, 0, 0, 0, nI 0), (.goto 16, 3, 22, 0, 0, 0)] [] (pc2 := 22) (ls2 := [some (.int x0), some (.int x1), some (.int x2), some (.int x3)]) (st2 := [.int (nI 0)]) (M2 := M) (Ps := []) (by decide +kernel) rfl rfl trivial ?_
    exact G.reti (by decide +kernel) rfl rfl (Nat.le_of_ble_eq_true rfl) (Nat.le_of_ble_eq_true rfl) ((by rw [hQ]; simp only [k_hasBy, if_pos c1, mrow_self]))
set_option maxHeartbeats 4000000 in
set_option maxRecDepth 3000 in
theorem lp_k_takes_54_59 (z : Zp) (d : Nat) (M : Mem) (Q : Rs → Prop) (nn : Nat) (x1 : Int32) (x2 : Int32) (x3 : Int32) (hnn : nn = 4) (hX : G z mX12_takes (d + 1) 0 0 156 [none, some (.int x1), some (.int x2), some (.int x3), some (.int ((k_takes_59 x1 x2 x3 nn).1)), some (.int ((k_takes_59 x1 x2 x3 nn).2)), none, none, none] [] M Q) : G z mX12_takes (d + 1) 0 0 59 [none, some (.int x1), some (.int x2), some (.int x3), some (.int (nI 0)), some (.int ((-1))), some (.int (nI 0)), none, none] [] M Q := by
  refine down (n := nn) (P := fun i6 => G z mX12_takes (d + 1) 0 0 59 [none, some (.int x1), some (.int x2), some (.int x3), some (.int ((k_takes_59 x1 x2 x3 i6).1)), some (.int ((k_takes_59 x1 x2 x3 i6).2)), some (.int (nI i6)), none, none] [] M Q) ?_ ?_ 0 (Nat.zero_le _)
  · skip
    refine G.sl [(.iload 6, 2, 6, 0, 0, 0), (.iconst 4, 1, 0, 0, 0, nI 4)] [] (pc2 := 62) (ls2 := [none, some (.int x1), some (.int x2), some (.int x3), some (.int ((k_takes_59 x1 x2 x3 nn).1)), some (.int ((k_takes_59 x1 x2 x3 nn).2)), some (.int (nI nn)), none, none]) (st2 := [.int (nI 4), .int (nI nn)]) (M2 := M) (Ps := []) (by decide +kernel) rfl rfl trivial ?_
    refine G.ic_ge (off := (94)) (tgt := 156) (by decide +kernel) rfl (fun _ => ?_) (fun h9 => absurd (nI_le (by omega) (by omega)) h9)
    refine G.loc (ls2 := [none, some (.int x1), some (.int x2), some (.int x3), some (.int ((k_takes_59 x1 x2 x3 nn).1)), some (.int ((k_takes_59 x1 x2 x3 nn).2)), none, none, none]) (by simp [subL]) ?_
    exact hX
  · skip
    intro i6 hi ih
    rcases g21 : k_takes_59 x1 x2 x3 i6 with ⟨s4, s5⟩
    try simp only [g21]
    show G z mX12_takes (d + 1) 0 0 59 [none, some (.int x1), some (.int x2), some (.int x3), some (.int s4), some (.int s5), some (.int (nI i6)), none, none] [] M Q
    refine G.sl [(.iload 6, 2, 6, 0, 0, 0), (.iconst 4, 1, 0, 0, 0, nI 4)] [] (pc2 := 62) (ls2 := [none, some (.int x1), some (.int x2), some (.int x3), some (.int s4), some (.int s5), some (.int (nI i6)), none, none]) (st2 := [.int (nI 4), .int (nI i6)]) (M2 := M) (Ps := []) (by decide +kernel) rfl rfl trivial ?_
    refine G.ic_ge (off := (94)) (tgt := 156) (by decide +kernel) rfl (fun h9 => absurd h9 (nI_ge (by omega) (by omega))) (fun _ => ?_)
    refine G.sl [(.iload 6, 2, 6, 0, 0, 0), (.iconst 2, 1, 0, 0, 0, nI 2), (.idiv, 1, 0, 0, 0, 0), (.istore 7, 2, 7, 0, 0, 0), (.iload 6, 2, 6, 0, 0, 0), (.iconst 2, 1, 0, 0, 0, nI 2), (.irem, 1, 0, 0, 0, 0), (.istore 8, 2, 8, 0, 0, 0), (.iconst 1, 1, 0, 0, 0, nI 1), (.iload 7, 2, 7, 0, 0, 0), (.isub, 1, 0, 0, 0, 0), (.iload 8, 2, 8, 0, 0, 0), (.iload_n 1, 1, 1, 0, 0, 0), (.iload_n 2, 1, 2, 0, 0, 0)] [] (pc2 := 85) (ls2 := [none, some (.int x1), some (.int x2), some (.int x3), some (.int s4), some (.int s5), some (.int (nI i6)), some (.int ((nI i6) / (nI 2))), some (.int ((nI i6) - (nI i6) / (nI 2) * (nI 2)))]) (st2 := [.int x2, .int x1, .int ((nI i6) - (nI i6) / (nI 2) * (nI 2)), .int ((nI 1) - ((nI i6) / (nI 2)))]) (M2 := M) (Ps := [¬ (nI 2) = 0, ¬ (nI 2) = 0]) (by decide +kernel) rfl rfl ⟨(by decide), (by decide), trivial⟩ ?_
    have t23 : GM z mX12_hasBy (d) [.int ((nI 1) - ((nI i6) / (nI 2))), .int ((nI i6) - (nI i6) / (nI 2) * (nI 2)), .int x1, .int x2] M (fun rs => rs = .inl (some (.int (k_hasBy ((nI 1) - ((nI i6) / (nI 2))) ((nI i6) - (nI i6) / (nI 2) * (nI 2)) x1 x2)), M)) := by
      have q9 := c_k_hasBy z d M ((nI 1) - ((nI i6) / (nI 2))) ((nI i6) - (nI i6) / (nI 2) * (nI 2)) x1 x2
      try simp only [mput, mrow_same, mrow_hit, mrow_miss, mrow_sw, idr_eq, ne_eq, Nat.reduceEqDiff, not_false_eq_true, Nat.reduceLT, reduceCtorEq] at q9
      exact q9
    refine G.callS (as := [.int ((nI 1) - ((nI i6) / (nI 2))), .int ((nI i6) - (nI i6) / (nI 2) * (nI 2)), .int x1, .int x2]) (rest := []) oX12_hasBy lk_EvenFindersModel_422 (by decide +kernel) rfl (Nat.le_of_ble_eq_true rfl) rfl ⟨Nat.le_of_ble_eq_true rfl, Nat.le_of_ble_eq_true rfl⟩ t23 (fun v9 N9 h24 => ?_) (fun E9 N9 h24 => by cases h24)
    cases h24
    show G z mX12_takes (d + 1) 0 0 88 [none, some (.int x1), some (.int x2), some (.int x3), some (.int s4), some (.int s5), some (.int (nI i6)), some (.int ((nI i6) / (nI 2))), some (.int ((nI i6) - (nI i6) / (nI 2) * (nI 2)))] [.int (k_hasBy ((nI 1) - ((nI i6) / (nI 2))) ((nI i6) - (nI i6) / (nI 2) * (nI 2)) x1 x2)] M Q
    refine G.sl [(.iload 7, 2, 7, 0, 0, 0), (.iload 8, 2, 8, 0, 0, 0), (.iload_n 1, 1, 1, 0, 0, 0), (.iload_n 2, 1, 2, 0, 0, 0)] [] (pc2 := 94) (ls2 := [none, some (.int x1), some (.int x2), some (.int x3), some (.int s4), some (.int s5), some (.int (nI i6)), some (.int ((nI i6) / (nI 2))), some (.int ((nI i6) - (nI i6) / (nI 2) * (nI 2)))]) (st2 := [.int x2, .int x1, .int ((nI i6) - (nI i6) / (nI 2) * (nI 2)), .int ((nI i6) / (nI 2)), .int (k_hasBy ((nI 1) - ((nI i6) / (nI 2))) ((nI i6) - (nI i6) / (nI 2) * (nI 2)) x1 x2)]) (M2 := M) (Ps := []) (by decide +kernel) rfl rfl trivial ?_
    have t26 : GM z mX12_hasBy (d) [.int ((nI i6) / (nI 2)), .int ((nI i6) - (nI i6) / (nI 2) * (nI 2)), .int x1, .int x2] M (fun rs => rs = .inl (some (.int (k_hasBy ((nI i6) / (nI 2)) ((nI i6) - (nI i6) / (nI 2) * (nI 2)) x1 x2)), M)) := by
      have q9 := c_k_hasBy z d M ((nI i6) / (nI 2)) ((nI i6) - (nI i6) / (nI 2) * (nI 2)) x1 x2
      try simp only [mput, mrow_same, mrow_hit, mrow_miss, mrow_sw, idr_eq, ne_eq, Nat.reduceEqDiff, not_false_eq_true, Nat.reduceLT, reduceCtorEq] at q9
      exact q9
    refine G.callS (as := [.int ((nI i6) / (nI 2)), .int ((nI i6) - (nI i6) / (nI 2) * (nI 2)), .int x1, .int x2]) (rest := [.int (k_hasBy ((nI 1) - ((nI i6) / (nI 2))) ((nI i6) - (nI i6) / (nI 2) * (nI 2)) x1 x2)]) oX12_hasBy lk_EvenFindersModel_422 (by decide +kernel) rfl (Nat.le_of_ble_eq_true rfl) rfl ⟨Nat.le_of_ble_eq_true rfl, Nat.le_of_ble_eq_true rfl⟩ t26 (fun v9 N9 h27 => ?_) (fun E9 N9 h27 => by cases h27)
    cases h27
    show G z mX12_takes (d + 1) 0 0 97 [none, some (.int x1), some (.int x2), some (.int x3), some (.int s4), some (.int s5), some (.int (nI i6)), some (.int ((nI i6) / (nI 2))), some (.int ((nI i6) - (nI i6) / (nI 2) * (nI 2)))] [.int (k_hasBy ((nI i6) / (nI 2)) ((nI i6) - (nI i6) / (nI 2) * (nI 2)) x1 x2), .int (k_hasBy ((nI 1) - ((nI i6) / (nI 2))) ((nI i6) - (nI i6) / (nI 2) * (nI 2)) x1 x2)] M Q
    refine G.ic_gt (off := (53)) (tgt := 150) (by decide +kernel) rfl (fun c28 => ?_) (fun c28 => ?_)
    · skip
      refine G.sl [(.iinc 6 1, 3, 6, 0, 0, nI 1), (.goto (-94), 3, 59, 0, 0, 0)] [] (pc2 := 59) (ls2 := [none, some (.int x1), some (.int x2), some (.int x3), some (.int s4), some (.int s5), some (.int ((nI i6) + nI 1)), some (.int ((nI i6) / (nI 2))), some (.int ((nI i6) - (nI i6) / (nI 2) * (nI 2)))]) (st2 := []) (M2 := M) (Ps := []) (by decide +kernel) rfl rfl trivial ?_
      refine G.loc (ls2 := [none, some (.int x1), some (.int x2), some (.int x3), some (.int s4), some (.int s5), some (.int ((nI i6) + nI 1)), none, none]) (by simp [subL]) ?_
      rw [nI_add i6 1]
      simp only [k_takes_59, g21, if_pos c28] at ih
      exact ih
    · skip
      refine G.sl [(.iconst 1, 1, 0, 0, 0, nI 1), (.iload 8, 2, 8, 0, 0, 0), (.isub, 1, 0, 0, 0, 0), (.iload 7, 2, 7, 0, 0, 0), (.iload_n 1, 1, 1, 0, 0, 0), (.iload_n 2, 1, 2, 0, 0, 0)] [] (pc2 := 108) (ls2 := [none, some (.int x1), some (.int x2), some (.int x3), some (.int s4), some (.int s5), some (.int (nI i6)), some (.int ((nI i6) / (nI 2))), some (.int ((nI i6) - (nI i6) / (nI 2) * (nI 2)))]) (st2 := [.int x2, .int x1, .int ((nI i6) / (nI 2)), .int ((nI 1) - ((nI i6) - (nI i6) / (nI 2) * (nI 2)))]) (M2 := M) (Ps := []) (by decide +kernel) rfl rfl trivial ?_
      have t30 : GM z mX12_hasBy (d) [.int ((nI 1) - ((nI i6) - (nI i6) / (nI 2) * (nI 2))), .int ((nI i6) / (nI 2)), .int x1, .int x2] M (fun rs => rs = .inl (some (.int (k_hasBy ((nI 1) - ((nI i6) - (nI i6) / (nI 2) * (nI 2))) ((nI i6) / (nI 2)) x1 x2)), M)) := by
        have q9 := c_k_hasBy z d M ((nI 1) - ((nI i6) - (nI i6) / (nI 2) * (nI 2))) ((nI i6) / (nI 2)) x1 x2
        try simp only [mput, mrow_same, mrow_hit, mrow_miss, mrow_sw, idr_eq, ne_eq, Nat.reduceEqDiff, not_false_eq_true, Nat.reduceLT, reduceCtorEq] at q9
        exact q9
      refine G.callS (as := [.int ((nI 1) - ((nI i6) - (nI i6) / (nI 2) * (nI 2))), .int ((nI i6) / (nI 2)), .int x1, .int x2]) (rest := []) oX12_hasBy lk_EvenFindersModel_422 (by decide +kernel) rfl (Nat.le_of_ble_eq_true rfl) rfl ⟨Nat.le_of_ble_eq_true rfl, Nat.le_of_ble_eq_true rfl⟩ t30 (fun v9 N9 h31 => ?_) (fun E9 N9 h31 => by cases h31)
      cases h31
      show G z mX12_takes (d + 1) 0 0 111 [none, some (.int x1), some (.int x2), some (.int x3), some (.int s4), some (.int s5), some (.int (nI i6)), some (.int ((nI i6) / (nI 2))), some (.int ((nI i6) - (nI i6) / (nI 2) * (nI 2)))] [.int (k_hasBy ((nI 1) - ((nI i6) - (nI i6) / (nI 2) * (nI 2))) ((nI i6) / (nI 2)) x1 x2)] M Q
      refine G.sl [(.iload 8, 2, 8, 0, 0, 0), (.iload 7, 2, 7, 0, 0, 0), (.iload_n 1, 1, 1, 0, 0, 0), (.iload_n 2, 1, 2, 0, 0, 0)] [] (pc2 := 117) (ls2 := [none, some (.int x1), some (.int x2), some (.int x3), some (.int s4), some (.int s5), some (.int (nI i6)), some (.int ((nI i6) / (nI 2))), some (.int ((nI i6) - (nI i6) / (nI 2) * (nI 2)))]) (st2 := [.int x2, .int x1, .int ((nI i6) / (nI 2)), .int ((nI i6) - (nI i6) / (nI 2) * (nI 2)), .int (k_hasBy ((nI 1) - ((nI i6) - (nI i6) / (nI 2) * (nI 2))) ((nI i6) / (nI 2)) x1 x2)]) (M2 := M) (Ps := []) (by decide +kernel) rfl rfl trivial ?_
      have t33 : GM z mX12_hasBy (d) [.int ((nI i6) - (nI i6) / (nI 2) * (nI 2)), .int ((nI i6) / (nI 2)), .int x1, .int x2] M (fun rs => rs = .inl (some (.int (k_hasBy ((nI i6) - (nI i6) / (nI 2) * (nI 2)) ((nI i6) / (nI 2)) x1 x2)), M)) := by
        have q9 := c_k_hasBy z d M ((nI i6) - (nI i6) / (nI 2) * (nI 2)) ((nI i6) / (nI 2)) x1 x2
        try simp only [mput, mrow_same, mrow_hit, mrow_miss, mrow_sw, idr_eq, ne_eq, Nat.reduceEqDiff, not_false_eq_true, Nat.reduceLT, reduceCtorEq] at q9
        exact q9
      refine G.callS (as := [.int ((nI i6) - (nI i6) / (nI 2) * (nI 2)), .int ((nI i6) / (nI 2)), .int x1, .int x2]) (rest := [.int (k_hasBy ((nI 1) - ((nI i6) - (nI i6) / (nI 2) * (nI 2))) ((nI i6) / (nI 2)) x1 x2)]) oX12_hasBy lk_EvenFindersModel_422 (by decide +kernel) rfl (Nat.le_of_ble_eq_true rfl) rfl ⟨Nat.le_of_ble_eq_true rfl, Nat.le_of_ble_eq_true rfl⟩ t33 (fun v9 N9 h34 => ?_) (fun E9 N9 h34 => by cases h34)
      cases h34
      show G z mX12_takes (d + 1) 0 0 120 [none, some (.int x1), some (.int x2), some (.int x3), some (.int s4), some (.int s5), some (.int (nI i6)), some (.int ((nI i6) / (nI 2))), some (.int ((nI i6) - (nI i6) / (nI 2) * (nI 2)))] [.int (k_hasBy ((nI i6) - (nI i6) / (nI 2) * (nI 2)) ((nI i6) / (nI 2)) x1 x2), .int (k_hasBy ((nI 1) - ((nI i6) - (nI i6) / (nI 2) * (nI 2))) ((nI i6) / (nI 2)) x1 x2)] M Q
      refine G.ic_le (off := (6)) (tgt := 126) (by decide +kernel) rfl (fun c35 => ?_) (fun c35 => ?_)
      · skip
        refine G.sl [(.iinc 4 1, 3, 4, 0, 0, nI 1), (.iload 5, 2, 5, 0, 0, 0), (.iconst (-1), 1, 0, 0, 0, (-1))] [] (pc2 := 132) (ls2 := [none, some (.int x1), some (.int x2), some (.int x3), some (.int (s4 + nI 1)), some (.int s5), some (.int (nI i6)), some (.int ((nI i6) / (nI 2))), some (.int ((nI i6) - (nI i6) / (nI 2) * (nI 2)))]) (st2 := [.int ((-1)), .int s5]) (M2 := M) (Ps := []) (by decide +kernel) rfl rfl trivial ?_
        refine G.ic_ne (off := (14)) (tgt := 146) (by decide +kernel) rfl (fun c36 => ?_) (fun c36 => ?_)
        · skip
          refine G.sl [(.iload 5, 2, 5, 0, 0, 0), (.istore 5, 2, 5, 0, 0, 0), (.iinc 6 1, 3, 6, 0, 0, nI 1), (.goto (-94), 3, 59, 0, 0, 0)] [] (pc2 := 59) (ls2 := [none, some (.int x1), some (.int x2), some (.int x3), some (.int (s4 + nI 1)), some (.int s5), some (.int ((nI i6) + nI 1)), some (.int ((nI i6) / (nI 2))), some (.int ((nI i6) - (nI i6) / (nI 2) * (nI 2)))]) (st2 := []) (M2 := M) (Ps := []) (by decide +kernel) rfl rfl trivial ?_
          refine G.loc (ls2 := [none, some (.int x1), some (.int x2), some (.int x3), some (.int (s4 + nI 1)), some (.int s5), some (.int ((nI i6) + nI 1)), none, none]) (by simp [subL]) ?_
          rw [nI_add i6 1]
          simp only [k_takes_59, g21, if_neg c28, if_pos c35, if_neg c36] at ih
          exact ih
        · skip
          refine G.sl [(.bipush 10, 2, 0, 0, 0, nI 10), (.iload 7, 2, 7, 0, 0, 0), (.imul, 1, 0, 0, 0, 0), (.iload 8, 2, 8, 0, 0, 0), (.iadd, 1, 0, 0, 0, 0), (.goto 5, 3, 148, 0, 0, 0), (.istore 5, 2, 5, 0, 0, 0), (.iinc 6 1, 3, 6, 0, 0, nI 1), (.goto (-94), 3, 59, 0, 0, 0)] [] (pc2 := 59) (ls2 := [none, some (.int x1), some (.int x2), some (.int x3), some (.int (s4 + nI 1)), some (.int (((nI 10) * ((nI i6) / (nI 2))) + ((nI i6) - (nI i6) / (nI 2) * (nI 2)))), some (.int ((nI i6) + nI 1)), some (.int ((nI i6) / (nI 2))), some (.int ((nI i6) - (nI i6) / (nI 2) * (nI 2)))]) (st2 := []) (M2 := M) (Ps := []) (by decide +kernel) rfl rfl trivial ?_
          refine G.loc (ls2 := [none, some (.int x1), some (.int x2), some (.int x3), some (.int (s4 + nI 1)), some (.int (((nI 10) * ((nI i6) / (nI 2))) + ((nI i6) - (nI i6) / (nI 2) * (nI 2)))), some (.int ((nI i6) + nI 1)), none, none]) (by simp [subL]) ?_
          rw [nI_add i6 1]
          simp only [k_takes_59, g21, if_neg c28, if_pos c35, if_pos c36] at ih
          exact ih
      · skip
        refine G.sl [(.goto 27, 3, 150, 0, 0, 0), (.iinc 6 1, 3, 6, 0, 0, nI 1), (.goto (-94), 3, 59, 0, 0, 0)] [] (pc2 := 59) (ls2 := [none, some (.int x1), some (.int x2), some (.int x3), some (.int s4), some (.int s5), some (.int ((nI i6) + nI 1)), some (.int ((nI i6) / (nI 2))), some (.int ((nI i6) - (nI i6) / (nI 2) * (nI 2)))]) (st2 := []) (M2 := M) (Ps := []) (by decide +kernel) rfl rfl trivial ?_
        refine G.loc (ls2 := [none, some (.int x1), some (.int x2), some (.int x3), some (.int s4), some (.int s5), some (.int ((nI i6) + nI 1)), none, none]) (by simp [subL]) ?_
        rw [nI_add i6 1]
        simp only [k_takes_59, g21, if_neg c28, if_neg c35] at ih
        exact ih
