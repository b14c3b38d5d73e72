set_option maxHeartbeats 4000000 in
set_option maxRecDepth 3000 in
theorem c_k_isDone_54 (z : Zp) (d : Nat) (M : Mem) (x1 : Int32) (x2 : Int32) (x3 : Int32) (nt : Nat) (hnt : nt ≤ 10) (ct : M.1 54 22 = nI nt) (nf : Nat) (hnf : nf ≤ 6) (cf : M.1 54 23 = nI nf) (hk : k_isDone_ok (M.1 54) (M.1 60) (M.1 61) (M.1 65) (M.1 66) (M.1 67) (M.1 68) (M.1 72) nt nf x1 x2 x3) : GM z mX12_isDone (d + 6) [.ref 54, .int x1, .int x2, .int x3] M (fun rs => rs = .inl (some (.int ((k_isDone (M.1 54) (M.1 60) (M.1 61) (M.1 65) (M.1 66) (M.1 67) (M.1 68) (M.1 72) nt nf x1 x2 x3).1)), mrow (mrow (mrow M 67 ((k_isDone (M.1 54) (M.1 60) (M.1 61) (M.1 65) (M.1 66) (M.1 67) (M.1 68) (M.1 72) nt nf x1 x2 x3).2.1)) 68 ((k_isDone (M.1 54) (M.1 60) (M.1 61) (M.1 65) (M.1 66) (M.1 67) (M.1 68) (M.1 72) nt nf x1 x2 x3).2.2.1)) 72 ((k_isDone (M.1 54) (M.1 60) (M.1 61) (M.1 65) (M.1 66) (M.1 67) (M.1 68) (M.1 72) nt nf x1 x2 x3).2.2.2))) := by
  simp only [k_isDone_ok] at hk
  refine GM.of oX12_isDone.1 (Nat.le_of_ble_eq_true rfl) ?_
  show G z mX12_isDone (d + 6) 0 0 0 [some (.ref 54), some (.int x1), some (.int x2), some (.int x3)] [] M _
  obtain ⟨Q, hQ⟩ : ∃ Q : Rs → Prop, Q = (fun rs => rs = .inl (some (.int ((k_isDone (M.1 54) (M.1 60) (M.1 61) (M.1 65) (M.1 66) (M.1 67) (M.1 68) (M.1 72) nt nf x1 x2 x3).1)), mrow (mrow (mrow M 67 ((k_isDone (M.1 54) (M.1 60) (M.1 61) (M.1 65) (M.1 66) (M.1 67) (M.1 68) (M.1 72) nt nf x1 x2 x3).2.1)) 68 ((k_isDone (M.1 54) (M.1 60) (M.1 61) (M.1 65) (M.1 66) (M.1 67) (M.1 68) (M.1 72) nt nf x1 x2 x3).2.2.1)) 72 ((k_isDone (M.1 54) (M.1 60) (M.1 61) (M.1 65) (M.1 66) (M.1 67) (M.1 68) (M.1 72) nt nf x1 x2 x3).2.2.2))) := ⟨_, rfl⟩
  rw [← hQ]
  refine G.sl [(.iload_n 1, 1, 1, 0, 0, 0)] [] (pc2 := 1) (ls2 := [some (.ref 54), some (.int x1), some (.int x2), some (.int x3)]) (st2 := [.int x1]) (M2 := M) (Ps := []) (by decide +kernel) rfl rfl trivial ?_
  refine G.if_ne (off := (10)) (tgt := 11) (by decide +kernel) rfl (fun c1 => ?_) (fun c1 => ?_)
  · skip
    rw [if_neg c1] at hk
    refine G.sl [(.iload_n 1, 1, 1, 0, 0, 0), (.iconst 1, 1, 0, 0, 0, nI 1)] [] (pc2 := 13) (ls2 := [some (.ref 54), some (.int x1), some (.int x2), some (.int x3)]) (st2 := [.int (nI 1), .int x1]) (M2 := M) (Ps := []) (by decide +kernel) rfl rfl trivial ?_
    refine G.ic_ne (off := (10)) (tgt := 23) (by decide +kernel) rfl (fun c2 => ?_) (fun c2 => ?_)
    · skip
      rw [if_neg c2] at hk
      refine G.sl [(.iload_n 1, 1, 1, 0, 0, 0), (.iconst 2, 1, 0, 0, 0, nI 2)] [] (pc2 := 25) (ls2 := [some (.ref 54), some (.int x1), some (.int x2), some (.int x3)]) (st2 := [.int (nI 2), .int x1]) (M2 := M) (Ps := []) (by decide +kernel) rfl rfl trivial ?_
      refine G.ic_ne (off := (10)) (tgt := 35) (by decide +kernel) rfl (fun c3 => ?_) (fun c3 => ?_)
      · skip
        rw [if_neg c3] at hk
        refine G.sl [(.iload_n 1, 1, 1, 0, 0, 0), (.iconst 3, 1, 0, 0, 0, nI 3)] [] (pc2 := 37) (ls2 := [some (.ref 54), some (.int x1), some (.int x2), some (.int x3)]) (st2 := [.int (nI 3), .int x1]) (M2 := M) (Ps := []) (by decide +kernel) rfl rfl trivial ?_
        refine G.ic_ne (off := (12)) (tgt := 49) (by decide +kernel) rfl (fun c4 => ?_) (fun c4 => ?_)
        · skip
          rw [if_neg c4] at hk
          refine G.sl [(.aload_n 0, 1, 0, 0, 0, 0), (.getfield 68, 3, 11, 41, 164, 0), (.bipush 50, 2, 0, 0, 0, nI 50), (.iaload, 1, 0, 0, 0, 0), (.sipush 400, 3, 0, 0, 0, nI 400)] [50] (pc2 := 59) (ls2 := [some (.ref 54), some (.int x1), some (.int x2), some (.int x3)]) (st2 := [.int (nI 400), .int (M.1 72 50)]) (M2 := M) (Ps := [(nI 50) = nI 50 ∧ 50 < 51]) (by decide +kernel) rfl rfl ⟨⟨rfl, (by omega)⟩, trivial⟩ ?_
          refine G.ic_ne (off := (5)) (tgt := 64) (by decide +kernel) rfl (fun c5 => ?_) (fun c5 => ?_)
          · skip
            rw [if_neg c5] at hk
            refine G.sl [(.aload_n 0, 1, 0, 0, 0, 0)] [] (pc2 := 65) (ls2 := [some (.ref 54), some (.int x1), some (.int x2), some (.int x3)]) (st2 := [.ref 54]) (M2 := M) (Ps := []) (by decide +kernel) rfl rfl trivial ?_
            obtain ⟨k6, hk⟩ := hk
            rcases g7 : k_passes (M.1 61) (M.1 72) nt nf with ⟨u8, r9⟩
            have t10 : GM z mX12_passes (d + 5) [.ref 54] M (fun rs => rs = .inl (none, mrow M 72 r9)) := by
              have q9 := c_k_passes_54 z (d + 5) M nt hnt ct nf hnf cf k6
              try simp only [mput, mrow_same, mrow_hit, mrow_miss, mrow_sw, idr_eq, ne_eq, Nat.reduceEqDiff, not_false_eq_true, Nat.reduceLT, reduceCtorEq, g7] at q9
              exact q9
            refine G.callV (as := []) (rest := []) (a := 54) oX12_passes lk_EvenFindersModel_373 (by decide +kernel) rfl rfl ⟨rfl, rfl⟩ (Nat.le_of_ble_eq_true rfl) rfl ⟨Nat.le_of_ble_eq_true rfl, Nat.le_of_ble_eq_true rfl⟩ t10 (fun v9 N9 h11 => ?_) (fun E9 N9 h11 => by cases h11)
            cases h11
            show G z mX12_isDone (d + 6) 0 0 68 [some (.ref 54), some (.int x1), some (.int x2), some (.int x3)] [] (mrow M 72 r9) Q
            refine G.sl [(.iconst 1, 1, 0, 0, 0, nI 1)] [] (pc2 := 69) (ls2 := [some (.ref 54), some (.int x1), some (.int x2), some (.int x3)]) (st2 := [.int (nI 1)]) (M2 := mrow M 72 r9) (Ps := []) (by decide +kernel) rfl rfl trivial ?_
            refine G.mem (M' := mrow (mrow (mrow M 67 (M.1 67)) 68 (M.1 68)) 72 r9) ((((mrow_id (N := mrow M 72 r9) (c := 67) (f := M.1 67) (by first | rfl | (simp only [mput, mrow_same, mrow_hit, mrow_miss, mrow_sw, idr_eq, ne_eq, Nat.reduceEqDiff, not_false_eq_true, Nat.reduceLT, reduceCtorEq]; done))).symm).trans (mrow_id (N := mrow (mrow M 72 r9) 67 (M.1 67)) (c := 68) (f := M.1 68) (by first | rfl | (simp only [mput, mrow_same, mrow_hit, mrow_miss, mrow_sw, idr_eq, ne_eq, Nat.reduceEqDiff, not_false_eq_true, Nat.reduceLT, reduceCtorEq]; done))).symm).trans (by first | rfl | (simp only [mput, mrow_same, mrow_hit, mrow_miss, mrow_sw, idr_eq, ne_eq, Nat.reduceEqDiff, not_false_eq_true, Nat.reduceLT, reduceCtorEq]; done))) ?_
            exact G.reti (by decide +kernel) rfl rfl (Nat.le_of_ble_eq_true rfl) (Nat.le_of_ble_eq_true rfl) ((by rw [hQ]; simp only [k_isDone, if_neg c1, if_neg c2, if_neg c3, if_neg c4, if_neg c5, g7, mrow_self]))
          · skip
            rw [if_pos c5] at hk
            refine G.sl [(.iconst 0, 1, 0, 0, 0, nI 0)] [] (pc2 := 63) (ls2 := [some (.ref 54), some (.int x1), some (.int x2), some (.int x3)]) (st2 := [.int (nI 0)]) (M2 := M) (Ps := []) (by decide +kernel) rfl rfl trivial ?_
            refine G.mem (M' := mrow (mrow (mrow M 67 (M.1 67)) 68 (M.1 68)) 72 (M.1 72)) (((((mrow_id (N := M) (c := 67) (f := M.1 67) (by first | rfl | (simp only [mput, mrow_same, mrow_hit, mrow_miss, mrow_sw, idr_eq, ne_eq, Nat.reduceEqDiff, not_false_eq_true, Nat.reduceLT, reduceCtorEq]; done))).symm).trans (mrow_id (N := mrow M 67 (M.1 67)) (c := 68) (f := M.1 68) (by first | rfl | (simp only [mput, mrow_same, mrow_hit, mrow_miss, mrow_sw, idr_eq, ne_eq, Nat.reduceEqDiff, not_false_eq_true, Nat.reduceLT, reduceCtorEq]; done))).symm).trans (mrow_id (N := mrow (mrow M 67 (M.1 67)) 68 (M.1 68)) (c := 72) (f := M.1 72) (by first | rfl | (simp only [mput, mrow_same, mrow_hit, mrow_miss, mrow_sw, idr_eq, ne_eq, Nat.reduceEqDiff, not_false_eq_true, Nat.reduceLT, reduceCtorEq]; done))).symm).trans (by first | rfl | (simp only [mput, mrow_same, mrow_hit, mrow_miss, mrow_sw, idr_eq, ne_eq, Nat.reduceEqDiff, not_false_eq_true, Nat.reduceLT, reduceCtorEq]; done))) ?_
            exact G.reti (by decide +kernel) rfl rfl (Nat.le_of_ble_eq_true rfl) (Nat.le_of_ble_eq_true rfl) ((by rw [hQ]; simp only [k_isDone, if_neg c1, if_neg c2, if_neg c3, if_neg c4, if_pos c5, mrow_self]))
        · skip
          rw [if_pos c4] at hk
          refine G.sl [(.aload_n 0, 1, 0, 0, 0, 0), (.iload_n 2, 1, 2, 0, 0, 0), (.iload_n 3, 1, 3, 0, 0, 0), (.bipush (-99), 2, 0, 0, 0, (-99))] [] (pc2 := 45) (ls2 := [some (.ref 54), some (.int x1), some (.int x2), some (.int x3)]) (st2 := [.int ((-99)), .int x3, .int x2, .ref 54]) (M2 := M) (Ps := []) (by decide +kernel) rfl rfl trivial ?_
          obtain ⟨k12, k13, k14, k15, hk⟩ := hk
          refine G.eq (st' := [.int ((-99)), .int (nI (ix x3)), .int (nI (ix x2)), .ref 54]) ?_ rfl (by rw [← (show x2 = nI (ix x2) from (ixE k12)), ← (show x3 = nI (ix x3) from (ixE k14))]) rfl
          rcases g17 : k_letsLie_m99 (M.1 61) (M.1 72) (ix x2) (ix x3) with ⟨v18, r19⟩
          have ev18 : v18 = 0 ∨ v18 = 1 := by
            have q9 := k_letsLie_m99_01 (M.1 61) (M.1 72) (ix x2) (ix x3)
            rw [g17] at q9
            exact q9
          have t20 : GM z mX12_letsLie (d + 5) [.ref 54, .int (nI (ix x2)), .int (nI (ix x3)), .int ((-99))] M (fun rs => rs = .inl (some (.int v18), mrow M 72 r19)) := by
            have q9 := c_k_letsLie_m99_54 z (d + 5) M (ix x2) (ix x3) k13 k15
            try simp only [mput, mrow_same, mrow_hit, mrow_miss, mrow_sw, idr_eq, ne_eq, Nat.reduceEqDiff, not_false_eq_true, Nat.reduceLT, reduceCtorEq, g17] at q9
            exact q9
          refine G.callV (as := [.int (nI (ix x2)), .int (nI (ix x3)), .int ((-99))]) (rest := []) (a := 54) oX12_letsLie lk_EvenFindersModel_362 (by decide +kernel) rfl rfl ⟨rfl, rfl⟩ (Nat.le_of_ble_eq_true rfl) rfl ⟨Nat.le_of_ble_eq_true rfl, Nat.le_of_ble_eq_true rfl⟩ t20 (fun v9 N9 h21 => ?_) (fun E9 N9 h21 => by cases h21)
          cases h21
          show G z mX12_isDone (d + 6) 0 0 48 [some (.ref 54), some (.int x1), some (.int x2), some (.int x3)] [.int v18] (mrow M 72 r19) Q
          refine G.mem (M' := mrow (mrow (mrow M 67 (M.1 67)) 68 (M.1 68)) 72 r19) ((((mrow_id (N := mrow M 72 r19) (c := 67) (f := M.1 67) (by first | rfl | (simp only [mput, mrow_same, mrow_hit, mrow_miss, mrow_sw, idr_eq, ne_eq, Nat.reduceEqDiff, not_false_eq_true, Nat.reduceLT, reduceCtorEq]; done))).symm).trans (mrow_id (N := mrow (mrow M 72 r19) 67 (M.1 67)) (c := 68) (f := M.1 68) (by first | rfl | (simp only [mput, mrow_same, mrow_hit, mrow_miss, mrow_sw, idr_eq, ne_eq, Nat.reduceEqDiff, not_false_eq_true, Nat.reduceLT, reduceCtorEq]; done))).symm).trans (by first | rfl | (simp only [mput, mrow_same, mrow_hit, mrow_miss, mrow_sw, idr_eq, ne_eq, Nat.reduceEqDiff, not_false_eq_true, Nat.reduceLT, reduceCtorEq]; done))) ?_
          exact G.reti (by decide +kernel) rfl (nar01 ev18) (Nat.le_of_ble_eq_true rfl) (Nat.le_of_ble_eq_true rfl) ((by rw [hQ]; simp only [k_isDone, if_neg c1, if_neg c2, if_neg c3, if_pos c4, g17, mrow_self]))
      · skip
        rw [if_pos c3] at hk
        refine G.sl [(.aload_n 0, 1, 0, 0, 0, 0), (.iload_n 2, 1, 2, 0, 0, 0), (.iload_n 3, 1, 3, 0, 0, 0)] [] (pc2 := 31) (ls2 := [some (.ref 54), some (.int x1), some (.int x2), some (.int x3)]) (st2 := [.int x3, .int x2, .ref 54]) (M2 := M) (Ps := []) (by decide +kernel) rfl rfl trivial ?_
        obtain ⟨k22, k23, k24, k25, hk⟩ := hk
        refine G.eq (st' := [.int (nI (ix x3)), .int (nI (ix x2)), .ref 54]) ?_ rfl (by rw [← (show x2 = nI (ix x2) from (ixE k22)), ← (show x3 = nI (ix x3) from (ixE k24))]) rfl
        rcases g27 : k_loses (M.1 61) (M.1 72) (ix x2) (ix x3) with ⟨v28, r29⟩
        have ev28 : v28 = 0 ∨ v28 = 1 := by
          have q9 := k_loses_01 (M.1 61) (M.1 72) (ix x2) (ix x3)
          rw [g27] at q9
          exact q9
        have t30 : GM z mX12_loses (d + 5) [.ref 54, .int (nI (ix x2)), .int (nI (ix x3))] M (fun rs => rs = .inl (some (.int v28), mrow M 72 r29)) := by
          have q9 := c_k_loses_54 z (d + 4) M (ix x2) (ix x3) k23 k25
          try simp only [mput, mrow_same, mrow_hit, mrow_miss, mrow_sw, idr_eq, ne_eq, Nat.reduceEqDiff, not_false_eq_true, Nat.reduceLT, reduceCtorEq, g27] at q9
          exact q9
        refine G.callV (as := [.int (nI (ix x2)), .int (nI (ix x3))]) (rest := []) (a := 54) oX12_loses lk_EvenFindersModel_370 (by decide +kernel) rfl rfl ⟨rfl, rfl⟩ (Nat.le_of_ble_eq_true rfl) rfl ⟨Nat.le_of_ble_eq_true rfl, Nat.le_of_ble_eq_true rfl⟩ t30 (fun v9 N9 h31 => ?_) (fun E9 N9 h31 => by cases h31)
        cases h31
        show G z mX12_isDone (d + 6) 0 0 34 [some (.ref 54), some (.int x1), some (.int x2), some (.int x3)] [.int v28] (mrow M 72 r29) Q
        refine G.mem (M' := mrow (mrow (mrow M 67 (M.1 67)) 68 (M.1 68)) 72 r29) ((((mrow_id (N := mrow M 72 r29) (c := 67) (f := M.1 67) (by first | rfl | (simp only [mput, mrow_same, mrow_hit, mrow_miss, mrow_sw, idr_eq, ne_eq, Nat.reduceEqDiff, not_false_eq_true, Nat.reduceLT, reduceCtorEq]; done))).symm).trans (mrow_id (N := mrow (mrow M 72 r29) 67 (M.1 67)) (c := 68) (f := M.1 68) (by first | rfl | (simp only [mput, mrow_same, mrow_hit, mrow_miss, mrow_sw, idr_eq, ne_eq, Nat.reduceEqDiff, not_false_eq_true, Nat.reduceLT, reduceCtorEq]; done))).symm).trans (by first | rfl | (simp only [mput, mrow_same, mrow_hit, mrow_miss, mrow_sw, idr_eq, ne_eq, Nat.reduceEqDiff, not_false_eq_true, Nat.reduceLT, reduceCtorEq]; done))) ?_
        exact G.reti (by decide +kernel) rfl (nar01 ev28) (Nat.le_of_ble_eq_true rfl) (Nat.le_of_ble_eq_true rfl) ((by rw [hQ]; simp only [k_isDone, if_neg c1, if_neg c2, if_pos c3, g27, mrow_self]))
    · skip
      rw [if_pos c2] at hk
      refine G.sl [(.aload_n 0, 1, 0, 0, 0, 0), (.iload_n 2, 1, 2, 0, 0, 0), (.iload_n 3, 1, 3, 0, 0, 0)] [] (pc2 := 19) (ls2 := [some (.ref 54), some (.int x1), some (.int x2), some (.int x3)]) (st2 := [.int x3, .int x2, .ref 54]) (M2 := M) (Ps := []) (by decide +kernel) rfl rfl trivial ?_
      obtain ⟨k32, k33, k34, k35, hk⟩ := hk
      obtain ⟨k36, hk⟩ := hk
      refine G.eq (st' := [.int (nI (ix x3)), .int (nI (ix x2)), .ref 54]) ?_ rfl (by rw [← (show x2 = nI (ix x2) from (ixE k32)), ← (show x3 = nI (ix x3) from (ixE k34))]) rfl
      rcases g37 : k_finds (M.1 54) (M.1 61) (M.1 65) (M.1 66) (M.1 67) (M.1 68) (M.1 72) nt (ix x2) (ix x3) with ⟨v38, r39, r40, r41⟩
      have ev38 : v38 = 0 ∨ v38 = 1 := by
        have q9 := k_finds_01 (M.1 54) (M.1 61) (M.1 65) (M.1 66) (M.1 67) (M.1 68) (M.1 72) nt (ix x2) (ix x3)
        rw [g37] at q9
        exact q9
      have t42 : GM z mX12_finds (d + 5) [.ref 54, .int (nI (ix x2)), .int (nI (ix x3))] M (fun rs => rs = .inl (some (.int v38), mrow (mrow (mrow M 67 r39) 68 r40) 72 r41)) := by
        have q9 := c_k_finds_54 z d M (ix x2) (ix x3) nt hnt ct k33 k35 k36
        try simp only [mput, mrow_same, mrow_hit, mrow_miss, mrow_sw, idr_eq, ne_eq, Nat.reduceEqDiff, not_false_eq_true, Nat.reduceLT, reduceCtorEq, g37] at q9
        exact q9
      refine G.callV (as := [.int (nI (ix x2)), .int (nI (ix x3))]) (rest := []) (a := 54) oX12_finds lk_EvenFindersModel_368 (by decide +kernel) rfl rfl ⟨rfl, rfl⟩ (Nat.le_of_ble_eq_true rfl) rfl ⟨Nat.le_of_ble_eq_true rfl, Nat.le_of_ble_eq_true rfl⟩ t42 (fun v9 N9 h43 => ?_) (fun E9 N9 h43 => by cases h43)
      cases h43
      show G z mX12_isDone (d + 6) 0 0 22 [some (.ref 54), some (.int x1), some (.int x2), some (.int x3)] [.int v38] (mrow (mrow (mrow M 67 r39) 68 r40) 72 r41) Q
      exact G.reti (by decide +kernel) rfl (nar01 ev38) (Nat.le_of_ble_eq_true rfl) (Nat.le_of_ble_eq_true rfl) ((by rw [hQ]; simp only [k_isDone, if_neg c1, if_pos c2, g37, mrow_self]))
  · skip
    rw [if_pos c1] at hk
    refine G.sl [(.aload_n 0, 1, 0, 0, 0, 0), (.iload_n 2, 1, 2, 0, 0, 0), (.iload_n 3, 1, 3, 0, 0, 0)] [] (pc2 := 7) (ls2 := [some (.ref 54), some (.int x1), some (.int x2), some (.int x3)]) (st2 := [.int x3, .int x2, .ref 54]) (M2 := M) (Ps := []) (by decide +kernel) rfl rfl trivial ?_
    obtain ⟨k44, k45, k46, k47, hk⟩ := hk
    refine G.eq (st' := [.int (nI (ix x3)), .int (nI (ix x2)), .ref 54]) ?_ rfl (by rw [← (show x2 = nI (ix x2) from (ixE k44)), ← (show x3 = nI (ix x3) from (ixE k46))]) rfl
    rcases g49 : k_walks (M.1 60) (M.1 72) nt (ix x2) (ix x3) with ⟨v50, r51⟩
    have ev50 : v50 = 0 ∨ v50 = 1 := by
      have q9 := k_walks_01 (M.1 60) (M.1 72) nt (ix x2) (ix x3)
      rw [g49] at q9
      exact q9
    have t52 : GM z mX12_walks (d + 5) [.ref 54, .int (nI (ix x2)), .int (nI (ix x3))] M (fun rs => rs = .inl (some (.int v50), mrow M 72 r51)) := by
      have q9 := c_k_walks_54 z (d + 5) M (ix x2) (ix x3) nt hnt ct k45 k47
      try simp only [mput, mrow_same, mrow_hit, mrow_miss, mrow_sw, idr_eq, ne_eq, Nat.reduceEqDiff, not_false_eq_true, Nat.reduceLT, reduceCtorEq, g49] at q9
      exact q9
    refine G.callV (as := [.int (nI (ix x2)), .int (nI (ix x3))]) (rest := []) (a := 54) oX12_walks lk_EvenFindersModel_365 (by decide +kernel) rfl rfl ⟨rfl, rfl⟩ (Nat.le_of_ble_eq_true rfl) rfl ⟨Nat.le_of_ble_eq_true rfl, Nat.le_of_ble_eq_true rfl⟩ t52 (fun v9 N9 h53 => ?_) (fun E9 N9 h53 => by cases h53)
    cases h53
    show G z mX12_isDone (d + 6) 0 0 10 [some (.ref 54), some (.int x1), some (.int x2), some (.int x3)] [.int v50] (mrow M 72 r51) Q
    refine G.mem (M' := mrow (mrow (mrow M 67 (M.1 67)) 68 (M.1 68)) 72 r51) ((((mrow_id (N := mrow M 72 r51) (c := 67) (f := M.1 67) (by first | rfl | (simp only [mput, mrow_same, mrow_hit, mrow_miss, mrow_sw, idr_eq, ne_eq, Nat.reduceEqDiff, not_false_eq_true, Nat.reduceLT, reduceCtorEq]; done))).symm).trans (mrow_id (N := mrow (mrow M 72 r51) 67 (M.1 67)) (c := 68) (f := M.1 68) (by first | rfl | (simp only [mput, mrow_same, mrow_hit, mrow_miss, mrow_sw, idr_eq, ne_eq, Nat.reduceEqDiff, not_false_eq_true, Nat.reduceLT, reduceCtorEq]; done))).symm).trans (by first | rfl | (simp only [mput, mrow_same, mrow_hit, mrow_miss, mrow_sw, idr_eq, ne_eq, Nat.reduceEqDiff, not_false_eq_true, Nat.reduceLT, reduceCtorEq]; done))) ?_
    exact G.reti (by decide +kernel) rfl (nar01 ev50) (Nat.le_of_ble_eq_true rfl) (Nat.le_of_ble_eq_true rfl) ((by rw [hQ]; simp only [k_isDone, if_pos c1, g49, mrow_self]))
set_option maxHeartbeats 4000000 in
set_option maxRecDepth 3000 in
theorem lp_k_goesSteps_54_st_50 (z : Zp) (d : Nat) (M : Mem) (Q : Rs → Prop) (x2 : Int32) (x3 : Int32) (x4 : Int32) (fz : (Nat → Int32) → (Nat → Int32) → (Nat → Int32) → (Nat → Int32) → (Nat → Int32) → (Nat → Int32) → (Nat → Int32) → (Nat → Int32) → (Nat → Int32) → Int32 → Int32 → Int32 × (Nat → Int32) × (Nat → Int32) × (Nat → Int32) × (Nat → Int32)) (gz : (Nat → Int32) → (Nat → Int32) → (Nat → Int32) → (Nat → Int32) → (Nat → Int32) → (Nat → Int32) → (Nat → Int32) → (Nat → Int32) → (Nat → Int32) → Int32 → Int32 → Prop) (Hz : ∀ (j : Nat) (M : Mem) (x1 : Int32) (x2 : Int32), gz (M.1 54) (M.1 60) (M.1 61) (M.1 65) (M.1 66) (M.1 67) (M.1 68) (M.1 70) (M.1 72) x1 x2 → GM z mX12_goesSteps (d + j) [.ref 54, .int x1, .int x2] M (fun rs => rs = .inl (none, mrow (mrow (mrow (mrow M 54 ((fz (M.1 54) (M.1 60) (M.1 61) (M.1 65) (M.1 66) (M.1 67) (M.1 68) (M.1 70) (M.1 72) x1 x2).2.1)) 67 ((fz (M.1 54) (M.1 60) (M.1 61) (M.1 65) (M.1 66) (M.1 67) (M.1 68) (M.1 70) (M.1 72) x1 x2).2.2.1)) 68 ((fz (M.1 54) (M.1 60) (M.1 61) (M.1 65) (M.1 66) (M.1 67) (M.1 68) (M.1 70) (M.1 72) x1 x2).2.2.2.1)) 72 ((fz (M.1 54) (M.1 60) (M.1 61) (M.1 65) (M.1 66) (M.1 67) (M.1 68) (M.1 70) (M.1 72) x1 x2).2.2.2.2)))) : ∀ (k0 : Nat) (s5 : Int32) (q54 : (Nat → Int32)) (q67 : (Nat → Int32)) (q68 : (Nat → Int32)) (q72 : (Nat → Int32)), k_goesSteps_st_50_ok fz gz (M.1 60) (M.1 61) (M.1 65) (M.1 66) (M.1 70) x2 x3 x4 k0 s5 q54 q67 q68 q72 → (match k_goesSteps_st_50 fz (M.1 60) (M.1 61) (M.1 65) (M.1 66) (M.1 70) x2 x3 x4 k0 s5 q54 q67 q68 q72 with | (s5', q54', q67', q68', q72') => G z mX12_goesSteps (d + 7) 0 0 88 [some (.ref 54), none, some (.int x2), none, some (.int x4), none] [] (mrow (mrow (mrow (mrow M 54 (q54')) 67 (q67')) 68 (q68')) 72 (q72')) Q) → G z mX12_goesSteps (d + 7) 0 0 50 [some (.ref 54), none, some (.int x2), some (.int x3), some (.int x4), some (.int s5)] [] (mrow (mrow (mrow (mrow M 54 q54) 67 q67) 68 q68) 72 q72) Q := by
  intro k0
  induction k0 with
  | zero =>
      intro s5 q54 q67 q68 q72 hk hX
      exact (by simpa only [k_goesSteps_st_50_ok] using hk : False).elim
  | succ k0 ih =>
      intro s5 q54 q67 q68 q72 hk hX
      simp only [k_goesSteps_st_50_ok] at hk
      obtain ⟨k22, k23, hk⟩ := hk
      refine G.sl [(.iload 5, 2, 5, 0, 0, 0), (.aload_n 0, 1, 0, 0, 0, 0), (.getfield 62, 3, 11, 33, 156, 0), (.iload_n 3, 1, 3, 0, 0, 0), (.iconst 1, 1, 0, 0, 0, nI 1), (.iadd, 1, 0, 0, 0, 0), (.iaload, 1, 0, 0, 0, 0)] [(ix x3) + 1] (pc2 := 60) (ls2 := [some (.ref 54), none, some (.int x2), some (.int x3), some (.int x4), some (.int s5)]) (st2 := [.int (M.1 70 ((ix x3) + 1)), .int s5]) (M2 := mrow (mrow (mrow (mrow M 54 q54) 67 q67) 68 q68) 72 q72) (Ps := [(x3 + (nI 1)) = nI ((ix x3) + 1) ∧ ((ix x3) + 1) < 150]) (by decide +kernel) rfl rfl ⟨⟨(nAdd (ixE k22) rfl), k23⟩, trivial⟩ ?_
      refine G.ic_ge (off := (28)) (tgt := 88) (by decide +kernel) rfl (fun c24 => ?_) (fun c24 => ?_)
      · skip
        rw [if_pos c24] at hk
        refine G.loc (ls2 := [some (.ref 54), none, some (.int x2), none, some (.int x4), none]) (by simp [subL]) ?_
        simp only [k_goesSteps_st_50, if_pos c24] at hX
        exact hX
      · skip
        rw [if_neg c24] at hk
        refine G.sl [(.aload_n 0, 1, 0, 0, 0, 0), (.getfield 323, 3, 11, 37, 160, 0), (.sipush 200, 3, 0, 0, 0, nI 200)] [] (pc2 := 70) (ls2 := [some (.ref 54), none, some (.int x2), some (.int x3), some (.int x4), some (.int s5)]) (st2 := [.int (nI 200), .int (q54 37)]) (M2 := mrow (mrow (mrow (mrow M 54 q54) 67 q67) 68 q68) 72 q72) (Ps := []) (by decide +kernel) rfl rfl trivial ?_
        refine G.ic_ge (off := (18)) (tgt := 88) (by decide +kernel) rfl (fun c25 => ?_) (fun c25 => ?_)
        · skip
          rw [if_pos c25] at hk
          refine G.loc (ls2 := [some (.ref 54), none, some (.int x2), none, some (.int x4), none]) (by simp [subL]) ?_
          simp only [k_goesSteps_st_50, if_neg c24, if_pos c25] at hX
          exact hX
        · skip
          rw [if_neg c25] at hk
          refine G.sl [(.aload_n 0, 1, 0, 0, 0, 0), (.iload_n 3, 1, 3, 0, 0, 0), (.iconst 3, 1, 0, 0, 0, nI 3), (.iadd, 1, 0, 0, 0, 0), (.iload 4, 2, 4, 0, 0, 0)] [] (pc2 := 79) (ls2 := [some (.ref 54), none, some (.int x2), some (.int x3), some (.int x4), some (.int s5)]) (st2 := [.int x4, .int (x3 + (nI 3)), .ref 54]) (M2 := mrow (mrow (mrow (mrow M 54 q54) 67 q67) 68 q68) 72 q72) (Ps := []) (by decide +kernel) rfl rfl trivial ?_
          obtain ⟨k26, hk⟩ := hk
          rcases g27 : fz q54 (M.1 60) (M.1 61) (M.1 65) (M.1 66) q67 q68 (M.1 70) q72 (x3 + (nI 3)) x4 with ⟨u28, r29, r30, r31, r32⟩
          try simp only [g27] at hk
          have t33 : GM z mX12_goesSteps (d + 6) [.ref 54, .int (x3 + (nI 3)), .int x4] (mrow (mrow (mrow (mrow M 54 q54) 67 q67) 68 q68) 72 q72) (fun rs => rs = .inl (none, mrow (mrow (mrow (mrow M 54 r29) 67 r30) 68 r31) 72 r32)) := by
            have q9 := Hz 6 (mrow (mrow (mrow (mrow M 54 q54) 67 q67) 68 q68) 72 q72) (x3 + (nI 3)) x4
            try simp only [mput, mrow_same, mrow_hit, mrow_miss, mrow_sw, idr_eq, ne_eq, Nat.reduceEqDiff, not_false_eq_true, Nat.reduceLT, reduceCtorEq, g27] at q9
            exact q9 (by first | exact k26 | (simp only [mput, mrow_same, mrow_hit, mrow_miss, mrow_sw, idr_eq, ne_eq, Nat.reduceEqDiff, not_false_eq_true, Nat.reduceLT, reduceCtorEq]; exact k26))
          refine G.callV (as := [.int (x3 + (nI 3)), .int x4]) (rest := []) (a := 54) oX12_goesSteps lk_EvenFindersModel_332 (by decide +kernel) rfl rfl ⟨rfl, rfl⟩ (Nat.le_of_ble_eq_true rfl) rfl ⟨Nat.le_of_ble_eq_true rfl, Nat.le_of_ble_eq_true rfl⟩ t33 (fun v9 N9 h34 => ?_) (fun E9 N9 h34 => by cases h34)
          cases h34
          show G z mX12_goesSteps (d + 7) 0 0 82 [some (.ref 54), none, some (.int x2), some (.int x3), some (.int x4), some (.int s5)] [] (mrow (mrow (mrow (mrow M 54 r29) 67 r30) 68 r31) 72 r32) Q
          refine G.sl [(.iinc 5 1, 3, 5, 0, 0, nI 1), (.goto (-35), 3, 50, 0, 0, 0)] [] (pc2 := 50) (ls2 := [some (.ref 54), none, some (.int x2), some (.int x3), some (.int x4), some (.int (s5 + nI 1))]) (st2 := []) (M2 := mrow (mrow (mrow (mrow M 54 r29) 67 r30) 68 r31) 72 r32) (Ps := []) (by decide +kernel) rfl rfl trivial ?_
          simp only [k_goesSteps_st_50, if_neg c24, if_neg c25, g27] at hX
          exact ih (s5 + nI 1) r29 r30 r31 r32 hk hX
set_option maxHeartbeats 4000000 in
set_option maxRecDepth 3000 in
theorem lp_k_goesSteps_54_st_2 (z : Zp) (d : Nat) (M : Mem) (Q : Rs → Prop) (x2 : Int32) (fz : (Nat → Int32) → (Nat → Int32) → (Nat → Int32) → (Nat → Int32) → (Nat → Int32) → (Nat → Int32) → (Nat → Int32) → (Nat → Int32) → (Nat → Int32) → Int32 → Int32 → Int32 × (Nat → Int32) × (Nat → Int32) × (Nat → Int32) × (Nat → Int32)) (gz : (Nat → Int32) → (Nat → Int32) → (Nat → Int32) → (Nat → Int32) → (Nat → Int32) → (Nat → Int32) → (Nat → Int32) → (Nat → Int32) → (Nat → Int32) → Int32 → Int32 → Prop) (Hz : ∀ (j : Nat) (M : Mem) (x1 : Int32) (x2 : Int32), gz (M.1 54) (M.1 60) (M.1 61) (M.1 65) (M.1 66) (M.1 67) (M.1 68) (M.1 70) (M.1 72) x1 x2 → GM z mX12_goesSteps (d + j) [.ref 54, .int x1, .int x2] M (fun rs => rs = .inl (none, mrow (mrow (mrow (mrow M 54 ((fz (M.1 54) (M.1 60) (M.1 61) (M.1 65) (M.1 66) (M.1 67) (M.1 68) (M.1 70) (M.1 72) x1 x2).2.1)) 67 ((fz (M.1 54) (M.1 60) (M.1 61) (M.1 65) (M.1 66) (M.1 67) (M.1 68) (M.1 70) (M.1 72) x1 x2).2.2.1)) 68 ((fz (M.1 54) (M.1 60) (M.1 61) (M.1 65) (M.1 66) (M.1 67) (M.1 68) (M.1 70) (M.1 72) x1 x2).2.2.2.1)) 72 ((fz (M.1 54) (M.1 60) (M.1 61) (M.1 65) (M.1 66) (M.1 67) (M.1 68) (M.1 70) (M.1 72) x1 x2).2.2.2.2)))) : ∀ (k0 : Nat) (s3 : Int32) (q54 : (Nat → Int32)) (q67 : (Nat → Int32)) (q68 : (Nat → Int32)) (q72 : (Nat → Int32)), k_goesSteps_st_2_ok fz gz (M.1 60) (M.1 61) (M.1 65) (M.1 66) (M.1 70) x2 k0 s3 q54 q67 q68 q72 → (match k_goesSteps_st_2 fz (M.1 60) (M.1 61) (M.1 65) (M.1 66) (M.1 70) x2 k0 s3 q54 q67 q68 q72 with | (s3', q54', q67', q68', q72') => G z mX12_goesSteps (d + 7) 0 0 152 [none, none, none, none, none, none] [] (mrow (mrow (mrow (mrow M 54 (q54')) 67 (q67')) 68 (q68')) 72 (q72')) Q) → G z mX12_goesSteps (d + 7) 0 0 2 [some (.ref 54), none, some (.int x2), some (.int s3), none, none] [] (mrow (mrow (mrow (mrow M 54 q54) 67 q67) 68 q68) 72 q72) Q := by
  intro k0
  induction k0 with
  | zero =>
      intro s3 q54 q67 q68 q72 hk hX
      exact (by simpa only [k_goesSteps_st_2_ok] using hk : False).elim
  | succ k0 ih =>
      intro s3 q54 q67 q68 q72 hk hX
      simp only [k_goesSteps_st_2_ok] at hk
      refine G.sl [(.iload_n 3, 1, 3, 0, 0, 0), (.iload_n 2, 1, 2, 0, 0, 0)] [] (pc2 := 4) (ls2 := [some (.ref 54), none, some (.int x2), some (.int s3), none, none]) (st2 := [.int x2, .int s3]) (M2 := mrow (mrow (mrow (mrow M 54 q54) 67 q67) 68 q68) 72 q72) (Ps := []) (by decide +kernel) rfl rfl trivial ?_
      refine G.ic_ge (off := (148)) (tgt := 152) (by decide +kernel) rfl (fun c1 => ?_) (fun c1 => ?_)
      · skip
        rw [if_pos c1] at hk
        refine G.loc (ls2 := [none, none, none, none, none, none]) (by simp [subL]) ?_
        simp only [k_goesSteps_st_2, if_pos c1] at hX
        exact hX
      · skip
        rw [if_neg c1] at hk
        refine G.sl [(.aload_n 0, 1, 0, 0, 0, 0), (.getfield 323, 3, 11, 37, 160, 0), (.sipush 200, 3, 0, 0, 0, nI 200)] [] (pc2 := 14) (ls2 := [some (.ref 54), none, some (.int x2), some (.int s3), none, none]) (st2 := [.int (nI 200), .int (q54 37)]) (M2 := mrow (mrow (mrow (mrow M 54 q54) 67 q67) 68 q68) 72 q72) (Ps := []) (by decide +kernel) rfl rfl trivial ?_
        refine G.ic_ge (off := (138)) (tgt := 152) (by decide +kernel) rfl (fun c2 => ?_) (fun c2 => ?_)
        · skip
          rw [if_pos c2] at hk
          refine G.loc (ls2 := [none, none, none, none, none, none]) (by simp [subL]) ?_
          simp only [k_goesSteps_st_2, if_neg c1, if_pos c2] at hX
          exact hX
        · skip
          rw [if_neg c2] at hk
          obtain ⟨k3, k4, hk⟩ := hk
          refine G.sl [(.aload_n 0, 1, 0, 0, 0, 0), (.dup, 1, 0, 0, 0, 0), (.getfield 323, 3, 11, 37, 160, 0), (.iconst 1, 1, 0, 0, 0, nI 1), (.iadd, 1, 0, 0, 0, 0), (.putfield 323, 3, 11, 37, 160, 0), (.aload_n 0, 1, 0, 0, 0, 0), (.getfield 62, 3, 11, 33, 156, 0), (.iload_n 3, 1, 3, 0, 0, 0), (.iaload, 1, 0, 0, 0, 0), (.iconst 5, 1, 0, 0, 0, nI 5)] [ix s3] (pc2 := 34) (ls2 := [some (.ref 54), none, some (.int x2), some (.int s3), none, none]) (st2 := [.int (nI 5), .int (M.1 70 (ix s3))]) (M2 := mput (mrow (mrow (mrow (mrow M 54 q54) 67 q67) 68 q68) 72 q72) 54 37 ((q54 37) + (nI 1))) (Ps := [s3 = nI (ix s3) ∧ (ix s3) < 150]) (by decide +kernel) rfl rfl ⟨⟨(ixE k3), k4⟩, trivial⟩ ?_
          refine G.mem (M' := mrow (mrow (mrow (mrow M 54 (upd q54 37 ((q54 37) + (nI 1)))) 67 q67) 68 q68) 72 q72) (by first | rfl | (simp only [mput, mrow_same, mrow_hit, mrow_miss, mrow_sw, idr_eq, ne_eq, Nat.reduceEqDiff, not_false_eq_true, Nat.reduceLT, reduceCtorEq]; done)) ?_
          refine G.ic_ne (off := (60)) (tgt := 94) (by decide +kernel) rfl (fun c5 => ?_) (fun c5 => ?_)
          · skip
            rw [if_neg c5] at hk
            obtain ⟨k6, k7, hk⟩ := hk
            refine G.sl [(.aload_n 0, 1, 0, 0, 0, 0), (.aload_n 0, 1, 0, 0, 0, 0), (.getfield 62, 3, 11, 33, 156, 0), (.iload_n 3, 1, 3, 0, 0, 0), (.iaload, 1, 0, 0, 0, 0), (.aload_n 0, 1, 0, 0, 0, 0), (.getfield 62, 3, 11, 33, 156, 0), (.iload_n 3, 1, 3, 0, 0, 0), (.iconst 1, 1, 0, 0, 0, nI 1), (.iadd, 1, 0, 0, 0, 0), (.iaload, 1, 0, 0, 0, 0), (.aload_n 0, 1, 0, 0, 0, 0), (.getfield 62, 3, 11, 33, 156, 0), (.iload_n 3, 1, 3, 0, 0, 0), (.iconst 2, 1, 0, 0, 0, nI 2), (.iadd, 1, 0, 0, 0, 0), (.iaload, 1, 0, 0, 0, 0)] [ix s3, (ix s3) + 1, (ix s3) + 2] (pc2 := 117) (ls2 := [some (.ref 54), none, some (.int x2), some (.int s3), none, none]) (st2 := [.int (M.1 70 ((ix s3) + 2)), .int (M.1 70 ((ix s3) + 1)), .int (M.1 70 (ix s3)), .ref 54]) (M2 := mrow (mrow (mrow (mrow M 54 (upd q54 37 ((q54 37) + (nI 1)))) 67 q67) 68 q68) 72 q72) (Ps := [s3 = nI (ix s3) ∧ (ix s3) < 150, (s3 + (nI 1)) = nI ((ix s3) + 1) ∧ ((ix s3) + 1) < 150, (s3 + (nI 2)) = nI ((ix s3) + 2) ∧ ((ix s3) + 2) < 150]) (by decide +kernel) rfl rfl ⟨⟨(ixE k3), k4⟩, ⟨(nAdd (ixE k3) rfl), k6⟩, ⟨(nAdd (ixE k3) rfl), k7⟩, trivial⟩ ?_
            obtain ⟨k8, k9, k10, k11, hk⟩ := hk
            obtain ⟨k12, hk⟩ := hk
            rcases g13 : k_isDone (upd q54 37 ((q54 37) + (nI 1))) (M.1 60) (M.1 61) (M.1 65) (M.1 66) q67 q68 q72 (ix (q54 22)) (ix (q54 23)) (M.1 70 (ix s3)) (M.1 70 ((ix s3) + 1)) (M.1 70 ((ix s3) + 2)) with ⟨v14, r15, r16, r17⟩
            try simp only [g13] at hk
            have ev14 : v14 = 0 ∨ v14 = 1 := by
              have q9 := k_isDone_01 (upd q54 37 ((q54 37) + (nI 1))) (M.1 60) (M.1 61) (M.1 65) (M.1 66) q67 q68 q72 (ix (q54 22)) (ix (q54 23)) (M.1 70 (ix s3)) (M.1 70 ((ix s3) + 1)) (M.1 70 ((ix s3) + 2))
              rw [g13] at q9
              exact q9
            have t18 : GM z mX12_isDone (d + 6) [.ref 54, .int (M.1 70 (ix s3)), .int (M.1 70 ((ix s3) + 1)), .int (M.1 70 ((ix s3) + 2))] (mrow (mrow (mrow (mrow M 54 (upd q54 37 ((q54 37) + (nI 1)))) 67 q67) 68 q68) 72 q72) (fun rs => rs = .inl (some (.int v14), mrow (mrow (mrow (mrow M 54 (upd q54 37 ((q54 37) + (nI 1)))) 67 r15) 68 r16) 72 r17)) := by
              have q9 := c_k_isDone_54 z d (mrow (mrow (mrow (mrow M 54 (upd q54 37 ((q54 37) + (nI 1)))) 67 q67) 68 q68) 72 q72) (M.1 70 (ix s3)) (M.1 70 ((ix s3) + 1)) (M.1 70 ((ix s3) + 2)) (ix (q54 22)) k9 (ixE k8) (ix (q54 23)) k11 (ixE k10) k12
              try simp only [mput, mrow_same, mrow_hit, mrow_miss, mrow_sw, idr_eq, ne_eq, Nat.reduceEqDiff, not_false_eq_true, Nat.reduceLT, reduceCtorEq, g13] at q9
              exact q9
            refine G.callV (as := [.int (M.1 70 (ix s3)), .int (M.1 70 ((ix s3) + 1)), .int (M.1 70 ((ix s3) + 2))]) (rest := []) (a := 54) oX12_isDone lk_EvenFindersModel_335 (by decide +kernel) rfl rfl ⟨rfl, rfl⟩ (Nat.le_of_ble_eq_true rfl) rfl ⟨Nat.le_of_ble_eq_true rfl, Nat.le_of_ble_eq_true rfl⟩ t18 (fun v9 N9 h19 => ?_) (fun E9 N9 h19 => by cases h19)
            cases h19
            show G z mX12_goesSteps (d + 7) 0 0 120 [some (.ref 54), none, some (.int x2), some (.int s3), none, none] [.int v14] (mrow (mrow (mrow (mrow M 54 (upd q54 37 ((q54 37) + (nI 1)))) 67 r15) 68 r16) 72 r17) Q
            refine G.if_eq (off := (16)) (tgt := 136) (by decide +kernel) rfl (fun c20 => ?_) (fun c20 => ?_)
            · skip
              rw [if_pos c20] at hk
              refine G.sl [(.aload_n 0, 1, 0, 0, 0, 0), (.dup, 1, 0, 0, 0, 0), (.getfield 329, 3, 11, 39, 162, 0), (.iconst 1, 1, 0, 0, 0, nI 1), (.iadd, 1, 0, 0, 0, 0), (.putfield 329, 3, 11, 39, 162, 0), (.iinc 3 3, 3, 3, 0, 0, nI 3), (.goto (-147), 3, 2, 0, 0, 0)] [] (pc2 := 2) (ls2 := [some (.ref 54), none, some (.int x2), some (.int (s3 + nI 3)), none, none]) (st2 := []) (M2 := mput (mrow (mrow (mrow (mrow M 54 (upd q54 37 ((q54 37) + (nI 1)))) 67 r15) 68 r16) 72 r17) 54 39 ((q54 39) + (nI 1))) (Ps := []) (by decide +kernel) rfl rfl trivial ?_
              refine G.mem (M' := mrow (mrow (mrow (mrow M 54 (upd (upd q54 37 ((q54 37) + (nI 1))) 39 ((q54 39) + (nI 1)))) 67 r15) 68 r16) 72 r17) (by first | rfl | (simp only [mput, mrow_same, mrow_hit, mrow_miss, mrow_sw, idr_eq, ne_eq, Nat.reduceEqDiff, not_false_eq_true, Nat.reduceLT, reduceCtorEq]; done)) ?_
              simp only [k_goesSteps_st_2, if_neg c1, if_neg c2, if_neg c5, g13, if_pos c20] at hX
              exact ih (s3 + nI 3) (upd (upd q54 37 ((q54 37) + (nI 1))) 39 ((q54 39) + (nI 1))) r15 r16 r17 hk hX
            · skip
              rw [if_neg c20] at hk
              refine G.sl [(.aload_n 0, 1, 0, 0, 0, 0), (.dup, 1, 0, 0, 0, 0), (.getfield 326, 3, 11, 38, 161, 0), (.iconst 1, 1, 0, 0, 0, nI 1), (.iadd, 1, 0, 0, 0, 0), (.putfield 326, 3, 11, 38, 161, 0), (.goto 13, 3, 146, 0, 0, 0), (.iinc 3 3, 3, 3, 0, 0, nI 3), (.goto (-147), 3, 2, 0, 0, 0)] [] (pc2 := 2) (ls2 := [some (.ref 54), none, some (.int x2), some (.int (s3 + nI 3)), none, none]) (st2 := []) (M2 := mput (mrow (mrow (mrow (mrow M 54 (upd q54 37 ((q54 37) + (nI 1)))) 67 r15) 68 r16) 72 r17) 54 38 ((q54 38) + (nI 1))) (Ps := []) (by decide +kernel) rfl rfl trivial ?_
              refine G.mem (M' := mrow (mrow (mrow (mrow M 54 (upd (upd q54 37 ((q54 37) + (nI 1))) 38 ((q54 38) + (nI 1)))) 67 r15) 68 r16) 72 r17) (by first | rfl | (simp only [mput, mrow_same, mrow_hit, mrow_miss, mrow_sw, idr_eq, ne_eq, Nat.reduceEqDiff, not_false_eq_true, Nat.reduceLT, reduceCtorEq]; done)) ?_
              simp only [k_goesSteps_st_2, if_neg c1, if_neg c2, if_neg c5, g13, if_neg c20] at hX
              exact ih (s3 + nI 3) (upd (upd q54 37 ((q54 37) + (nI 1))) 38 ((q54 38) + (nI 1))) r15 r16 r17 hk hX
          · skip
            rw [if_pos c5] at hk
            obtain ⟨k21, hk⟩ := hk
            refine G.sl [(.aload_n 0, 1, 0, 0, 0, 0), (.getfield 62, 3, 11, 33, 156, 0), (.iload_n 3, 1, 3, 0, 0, 0), (.iconst 2, 1, 0, 0, 0, nI 2), (.iadd, 1, 0, 0, 0, 0), (.iaload, 1, 0, 0, 0, 0), (.istore 4, 2, 4, 0, 0, 0), (.iconst 0, 1, 0, 0, 0, nI 0), (.istore 5, 2, 5, 0, 0, 0)] [(ix s3) + 2] (pc2 := 50) (ls2 := [some (.ref 54), none, some (.int x2), some (.int s3), some (.int (M.1 70 ((ix s3) + 2))), some (.int (nI 0))]) (st2 := []) (M2 := mrow (mrow (mrow (mrow M 54 (upd q54 37 ((q54 37) + (nI 1)))) 67 q67) 68 q68) 72 q72) (Ps := [(s3 + (nI 2)) = nI ((ix s3) + 2) ∧ ((ix s3) + 2) < 150]) (by decide +kernel) rfl rfl ⟨⟨(nAdd (ixE k3) rfl), k21⟩, trivial⟩ ?_
            obtain ⟨k35, hk⟩ := hk
            refine G.mem (M' := mrow (mrow (mrow (mrow (mrow (mrow (mrow (mrow M 54 (upd q54 37 ((q54 37) + (nI 1)))) 67 q67) 68 q68) 72 q72) 54 ((mrow (mrow (mrow (mrow M 54 (upd q54 37 ((q54 37) + (nI 1)))) 67 q67) 68 q68) 72 q72).1 54)) 67 ((mrow (mrow (mrow (mrow M 54 (upd q54 37 ((q54 37) + (nI 1)))) 67 q67) 68 q68) 72 q72).1 67)) 68 ((mrow (mrow (mrow (mrow M 54 (upd q54 37 ((q54 37) + (nI 1)))) 67 q67) 68 q68) 72 q72).1 68)) 72 ((mrow (mrow (mrow (mrow M 54 (upd q54 37 ((q54 37) + (nI 1)))) 67 q67) 68 q68) 72 q72).1 72)) (by simp only [mrow_self]) ?_
            refine lp_k_goesSteps_54_st_50 z d (mrow (mrow (mrow (mrow M 54 (upd q54 37 ((q54 37) + (nI 1)))) 67 q67) 68 q68) 72 q72) Q x2 s3 (M.1 70 ((ix s3) + 2)) fz gz Hz FU (nI 0) ((mrow (mrow (mrow (mrow M 54 (upd q54 37 ((q54 37) + (nI 1)))) 67 q67) 68 q68) 72 q72).1 54) ((mrow (mrow (mrow (mrow M 54 (upd q54 37 ((q54 37) + (nI 1)))) 67 q67) 68 q68) 72 q72).1 67) ((mrow (mrow (mrow (mrow M 54 (upd q54 37 ((q54 37) + (nI 1)))) 67 q67) 68 q68) 72 q72).1 68) ((mrow (mrow (mrow (mrow M 54 (upd q54 37 ((q54 37) + (nI 1)))) 67 q67) 68 q68) 72 q72).1 72) (by first | (simp only [mput, mrow_same, mrow_hit, mrow_miss, mrow_sw, idr_eq, ne_eq, Nat.reduceEqDiff, not_false_eq_true, Nat.reduceLT, reduceCtorEq]; exact k35) | exact k35) ?_
            try simp only [mput, mrow_same, mrow_hit, mrow_miss, mrow_sw, idr_eq, ne_eq, Nat.reduceEqDiff, not_false_eq_true, Nat.reduceLT, reduceCtorEq]
            rcases g36 : k_goesSteps_st_50 fz (M.1 60) (M.1 61) (M.1 65) (M.1 66) (M.1 70) x2 s3 (M.1 70 ((ix s3) + 2)) FU (nI 0) (upd q54 37 ((q54 37) + (nI 1))) q67 q68 q72 with ⟨v37, r38, r39, r40, r41⟩
            try simp only [g36] at hk
            show G z mX12_goesSteps (d + 7) 0 0 88 [some (.ref 54), none, some (.int x2), none, some (.int (M.1 70 ((ix s3) + 2))), none] [] (mrow (mrow (mrow (mrow M 54 r38) 67 r39) 68 r40) 72 r41) Q
            refine G.sl [(.iload 4, 2, 4, 0, 0, 0), (.istore_n 3, 1, 3, 0, 0, 0), (.goto (-89), 3, 2, 0, 0, 0)] [] (pc2 := 2) (ls2 := [some (.ref 54), none, some (.int x2), some (.int (M.1 70 ((ix s3) + 2))), some (.int (M.1 70 ((ix s3) + 2))), none]) (st2 := []) (M2 := mrow (mrow (mrow (mrow M 54 r38) 67 r39) 68 r40) 72 r41) (Ps := []) (by decide +kernel) rfl rfl trivial ?_
            refine G.loc (ls2 := [some (.ref 54), none, some (.int x2), some (.int (M.1 70 ((ix s3) + 2))), none, none]) (by simp [subL]) ?_
            simp only [k_goesSteps_st_2, if_neg c1, if_neg c2, if_pos c5, g36] at hX
            exact ih (M.1 70 ((ix s3) + 2)) r38 r39 r40 r41 hk hX
set_option maxHeartbeats 4000000 in
set_option maxRecDepth 3000 in
theorem c_k_goesSteps_54_st (z : Zp) (d : Nat) (M : Mem) (x1 : Int32) (x2 : Int32) (fz : (Nat → Int32) → (Nat → Int32) → (Nat → Int32) → (Nat → Int32) → (Nat → Int32) → (Nat → Int32) → (Nat → Int32) → (Nat → Int32) → (Nat → Int32) → Int32 → Int32 → Int32 × (Nat → Int32) × (Nat → Int32) × (Nat → Int32) × (Nat → Int32)) (gz : (Nat → Int32) → (Nat → Int32) → (Nat → Int32) → (Nat → Int32) → (Nat → Int32) → (Nat → Int32) → (Nat → Int32) → (Nat → Int32) → (Nat → Int32) → Int32 → Int32 → Prop) (Hz : ∀ (j : Nat) (M : Mem) (x1 : Int32) (x2 : Int32), gz (M.1 54) (M.1 60) (M.1 61) (M.1 65) (M.1 66) (M.1 67) (M.1 68) (M.1 70) (M.1 72) x1 x2 → GM z mX12_goesSteps (d + j) [.ref 54, .int x1, .int x2] M (fun rs => rs = .inl (none, mrow (mrow (mrow (mrow M 54 ((fz (M.1 54) (M.1 60) (M.1 61) (M.1 65) (M.1 66) (M.1 67) (M.1 68) (M.1 70) (M.1 72) x1 x2).2.1)) 67 ((fz (M.1 54) (M.1 60) (M.1 61) (M.1 65) (M.1 66) (M.1 67) (M.1 68) (M.1 70) (M.1 72) x1 x2).2.2.1)) 68 ((fz (M.1 54) (M.1 60) (M.1 61) (M.1 65) (M.1 66) (M.1 67) (M.1 68) (M.1 70) (M.1 72) x1 x2).2.2.2.1)) 72 ((fz (M.1 54) (M.1 60) (M.1 61) (M.1 65) (M.1 66) (M.1 67) (M.1 68) (M.1 70) (M.1 72) x1 x2).2.2.2.2)))) (hk : k_goesSteps_st_ok fz gz (M.1 54) (M.1 60) (M.1 61) (M.1 65) (M.1 66) (M.1 67) (M.1 68) (M.1 70) (M.1 72) x1 x2) : GM z mX12_goesSteps (d + 7) [.ref 54, .int x1, .int x2] M (fun rs => rs = .inl (none, mrow (mrow (mrow (mrow M 54 ((k_goesSteps_st fz (M.1 54) (M.1 60) (M.1 61) (M.1 65) (M.1 66) (M.1 67) (M.1 68) (M.1 70) (M.1 72) x1 x2).2.1)) 67 ((k_goesSteps_st fz (M.1 54) (M.1 60) (M.1 61) (M.1 65) (M.1 66) (M.1 67) (M.1 68) (M.1 70) (M.1 72) x1 x2).2.2.1)) 68 ((k_goesSteps_st fz (M.1 54) (M.1 60) (M.1 61) (M.1 65) (M.1 66) (M.1 67) (M.1 68) (M.1 70) (M.1 72) x1 x2).2.2.2.1)) 72 ((k_goesSteps_st fz (M.1 54) (M.1 60) (M.1 61) (M.1 65) (M.1 66) (M.1 67) (M.1 68) (M.1 70) (M.1 72) x1 x2).2.2.2.2))) := by
  simp only [k_goesSteps_st_ok] at hk
  refine GM.of oX12_goesSteps.1 (Nat.le_of_ble_eq_true rfl) ?_
  show G z mX12_goesSteps (d + 7) 0 0 0 [some (.ref 54), some (.int x1), some (.int x2), none, none, none] [] M _
  obtain ⟨Q, hQ⟩ : ∃ Q : Rs → Prop, Q = (fun rs => rs = .inl (none, mrow (mrow (mrow (mrow M 54 ((k_goesSteps_st fz (M.1 54) (M.1 60) (M.1 61) (M.1 65) (M.1 66) (M.1 67) (M.1 68) (M.1 70) (M.1 72) x1 x2).2.1)) 67 ((k_goesSteps_st fz (M.1 54) (M.1 60) (M.1 61) (M.1 65) (M.1 66) (M.1 67) (M.1 68) (M.1 70) (M.1 72) x1 x2).2.2.1)) 68 ((k_goesSteps_st fz (M.1 54) (M.1 60) (M.1 61) (M.1 65) (M.1 66) (M.1 67) (M.1 68) (M.1 70) (M.1 72) x1 x2).2.2.2.1)) 72 ((k_goesSteps_st fz (M.1 54) (M.1 60) (M.1 61) (M.1 65) (M.1 66) (M.1 67) (M.1 68) (M.1 70) (M.1 72) x1 x2).2.2.2.2))) := ⟨_, rfl⟩
  rw [← hQ]
  refine G.sl [(.iload_n 1, 1, 1, 0, 0, 0), (.istore_n 3, 1, 3, 0, 0, 0)] [] (pc2 := 2) (ls2 := [some (.ref 54), some (.int x1), some (.int x2), some (.int x1), none, none]) (st2 := []) (M2 := M) (Ps := []) (by decide +kernel) rfl rfl trivial ?_
  refine G.loc (ls2 := [some (.ref 54), none, some (.int x2), some (.int x1), none, none]) (by simp [subL]) ?_
  obtain ⟨k42, hk⟩ := hk
  refine G.mem (M' := mrow (mrow (mrow (mrow M 54 (M.1 54)) 67 (M.1 67)) 68 (M.1 68)) 72 (M.1 72)) (by simp only [mrow_self]) ?_
  refine lp_k_goesSteps_54_st_2 z d M Q x2 fz gz Hz FU x1 (M.1 54) (M.1 67) (M.1 68) (M.1 72) (by first | (simp only [mput, mrow_same, mrow_hit, mrow_miss, mrow_sw, idr_eq, ne_eq, Nat.reduceEqDiff, not_false_eq_true, Nat.reduceLT, reduceCtorEq]; exact k42) | exact k42) ?_
  try simp only [mput, mrow_same, mrow_hit, mrow_miss, mrow_sw, idr_eq, ne_eq, Nat.reduceEqDiff, not_false_eq_true, Nat.reduceLT, reduceCtorEq]
  rcases g43 : k_goesSteps_st_2 fz (M.1 60) (M.1 61) (M.1 65) (M.1 66) (M.1 70) x2 FU x1 (M.1 54) (M.1 67) (M.1 68) (M.1 72) with ⟨v44, r45, r46, r47, r48⟩
  show G z mX12_goesSteps (d + 7) 0 0 152 [none, none, none, none, none, none] [] (mrow (mrow (mrow (mrow M 54 r45) 67 r46) 68 r47) 72 r48) Q
  exact G.retv (by decide +kernel) rfl (Nat.le_of_ble_eq_true rfl) (Nat.le_of_ble_eq_true rfl) ((by rw [hQ]; simp only [k_goesSteps_st, g43, mrow_self]))
theorem c_k_goesSteps_54_rec (z : Zp)  : ∀ (k0 d : Nat) (M : Mem) (x1 : Int32) (x2 : Int32), k_goesSteps_rec_ok k0 (M.1 54) (M.1 60) (M.1 61) (M.1 65) (M.1 66) (M.1 67) (M.1 68) (M.1 70) (M.1 72) x1 x2 → GM z mX12_goesSteps (d + 7 * k0) [.ref 54, .int x1, .int x2] M (fun rs => rs = .inl (none, mrow (mrow (mrow (mrow M 54 ((k_goesSteps_rec k0 (M.1 54) (M.1 60) (M.1 61) (M.1 65) (M.1 66) (M.1 67) (M.1 68) (M.1 70) (M.1 72) x1 x2).2.1)) 67 ((k_goesSteps_rec k0 (M.1 54) (M.1 60) (M.1 61) (M.1 65) (M.1 66) (M.1 67) (M.1 68) (M.1 70) (M.1 72) x1 x2).2.2.1)) 68 ((k_goesSteps_rec k0 (M.1 54) (M.1 60) (M.1 61) (M.1 65) (M.1 66) (M.1 67) (M.1 68) (M.1 70) (M.1 72) x1 x2).2.2.2.1)) 72 ((k_goesSteps_rec k0 (M.1 54) (M.1 60) (M.1 61) (M.1 65) (M.1 66) (M.1 67) (M.1 68) (M.1 70) (M.1 72) x1 x2).2.2.2.2))) := by
  intro k0
  induction k0 with
  | zero =>
    intro d M x1 x2  hk
    exact (by simpa only [k_goesSteps_rec_ok] using hk : False).elim
  | succ k0 ih =>
    intro d M x1 x2  hk
    have e9 : d + 7 * (k0 + 1) = (d + 7 * k0) + 7 := by omega
    rw [e9]
    simp only [k_goesSteps_rec_ok] at hk
    have q9 := c_k_goesSteps_54_st z (d + 7 * k0) M x1 x2  (k_goesSteps_rec k0) (k_goesSteps_rec_ok k0) (fun j M x1 x2  hk => by
      have q9 := ih (d + j) M x1 x2  hk
      rw [show d + j + 7 * k0 = d + 7 * k0 + j by omega] at q9
      exact q9)  hk
    simp only [k_goesSteps_rec]
    exact q9
theorem c_k_goesSteps_54 (z : Zp) (d : Nat) (M : Mem) (x1 : Int32) (x2 : Int32)  (hk : k_goesSteps_ok (M.1 54) (M.1 60) (M.1 61) (M.1 65) (M.1 66) (M.1 67) (M.1 68) (M.1 70) (M.1 72) x1 x2) : GM z mX12_goesSteps (d + 70) [.ref 54, .int x1, .int x2] M (fun rs => rs = .inl (none, mrow (mrow (mrow (mrow M 54 ((k_goesSteps (M.1 54) (M.1 60) (M.1 61) (M.1 65) (M.1 66) (M.1 67) (M.1 68) (M.1 70) (M.1 72) x1 x2).2.1)) 67 ((k_goesSteps (M.1 54) (M.1 60) (M.1 61) (M.1 65) (M.1 66) (M.1 67) (M.1 68) (M.1 70) (M.1 72) x1 x2).2.2.1)) 68 ((k_goesSteps (M.1 54) (M.1 60) (M.1 61) (M.1 65) (M.1 66) (M.1 67) (M.1 68) (M.1 70) (M.1 72) x1 x2).2.2.2.1)) 72 ((k_goesSteps (M.1 54) (M.1 60) (M.1 61) (M.1 65) (M.1 66) (M.1 67) (M.1 68) (M.1 70) (M.1 72) x1 x2).2.2.2.2))) := by
  have q9 := c_k_goesSteps_54_rec z  (cN 10) d M x1 x2  hk
  rw [show d + 7 * cN 10 = d + 70 from by rw [cN_eq]] at q9
  exact q9
set_option maxHeartbeats 4000000 in
set_option maxRecDepth 3000 in
theorem lp_k_copies_L51_L51_54_72_71_3 (z : Zp) (d : Nat) (M : Mem) (Q : Rs → Prop) (n3 : Nat) (b3 : n3 < 3000) (hk : ∀ i4, i4 < n3 → k_copies_L51_L51_3_ok (M.1 72) (M.1 71) n3 i4) (hX : G z mX12_copies (d) 0 0 23 [none, none, none, none, none] [] (mrow M 71 (k_copies_L51_L51_3 (M.1 72) (M.1 71) n3 n3)) Q) : G z mX12_copies (d) 0 0 3 [none, some (.ref 72), some (.ref 71), some (.int (nI n3)), some (.int (nI 0))] [] M Q := by
  refine G.mem (M' := mrow M 71 (M.1 71)) (by simp only [mrow_self]) ?_
  refine down (n := n3) (P := fun i4 => G z mX12_copies (d) 0 0 3 [none, some (.ref 72), some (.ref 71), some (.int (nI n3)), some (.int (nI i4))] [] (mrow M 71 (k_copies_L51_L51_3 (M.1 72) (M.1 71) n3 i4)) Q) ?_ ?_ 0 (Nat.zero_le _)
  · skip
    refine G.sl [(.iload 4, 2, 4, 0, 0, 0), (.iload_n 3, 1, 3, 0, 0, 0)] [] (pc2 := 6) (ls2 := [none, some (.ref 72), some (.ref 71), some (.int (nI n3)), some (.int (nI n3))]) (st2 := [.int (nI n3), .int (nI n3)]) (M2 := mrow M 71 (k_copies_L51_L51_3 (M.1 72) (M.1 71) n3 n3)) (Ps := []) (by decide +kernel) rfl rfl trivial ?_
    refine G.ic_ge (off := (17)) (tgt := 23) (by decide +kernel) rfl (fun _ => ?_) (fun h9 => absurd (nI_le (by omega) (by omega)) h9)
    refine G.loc (ls2 := [none, none, none, none, none]) (by simp [subL]) ?_
    exact hX
  · skip
    intro i4 hi ih
    have hk := hk i4 hi
    simp only [k_copies_L51_L51_3_ok] at hk
    show G z mX12_copies (d) 0 0 3 [none, some (.ref 72), some (.ref 71), some (.int (nI n3)), some (.int (nI i4))] [] (mrow M 71 (k_copies_L51_L51_3 (M.1 72) (M.1 71) n3 i4)) Q
    refine G.sl [(.iload 4, 2, 4, 0, 0, 0), (.iload_n 3, 1, 3, 0, 0, 0)] [] (pc2 := 6) (ls2 := [none, some (.ref 72), some (.ref 71), some (.int (nI n3)), some (.int (nI i4))]) (st2 := [.int (nI n3), .int (nI i4)]) (M2 := mrow M 71 (k_copies_L51_L51_3 (M.1 72) (M.1 71) n3 i4)) (Ps := []) (by decide +kernel) rfl rfl trivial ?_
    refine G.ic_ge (off := (17)) (tgt := 23) (by decide +kernel) rfl (fun h9 => absurd h9 (nI_ge (by omega) (by omega))) (fun _ => ?_)
    obtain ⟨k1, hk⟩ := hk
    refine G.sl [(.aload_n 2, 1, 2, 0, 0, 0), (.iload 4, 2, 4, 0, 0, 0), (.aload_n 1, 1, 1, 0, 0, 0), (.iload 4, 2, 4, 0, 0, 0), (.iaload, 1, 0, 0, 0, 0), (.iastore, 1, 0, 0, 0, 0), (.iinc 4 1, 3, 4, 0, 0, nI 1), (.goto (-17), 3, 3, 0, 0, 0)] [i4, i4] (pc2 := 3) (ls2 := [none, some (.ref 72), some (.ref 71), some (.int (nI n3)), some (.int ((nI i4) + nI 1))]) (st2 := []) (M2 := mput (mrow M 71 (k_copies_L51_L51_3 (M.1 72) (M.1 71) n3 i4)) 71 i4 (M.1 72 i4)) (Ps := [(nI i4) = nI i4 ∧ i4 < 51, (nI i4) = nI i4 ∧ i4 < 51]) (by decide +kernel) rfl rfl ⟨⟨rfl, k1⟩, ⟨rfl, k1⟩, trivial⟩ ?_
    refine G.mem (M' := mrow M 71 (upd (k_copies_L51_L51_3 (M.1 72) (M.1 71) n3 i4) i4 (M.1 72 i4))) (by first | rfl | (simp only [mput, mrow_same, mrow_hit, mrow_miss, mrow_sw, idr_eq, ne_eq, Nat.reduceEqDiff, not_false_eq_true, Nat.reduceLT, reduceCtorEq]; done)) ?_
    rw [nI_add i4 1]
    simp only [k_copies_L51_L51_3] at ih
    exact ih
set_option maxHeartbeats 4000000 in
set_option maxRecDepth 3000 in
theorem c_k_copies_L51_L51_54_72_71 (z : Zp) (d : Nat) (M : Mem) (n3 : Nat) (b3 : n3 < 3000) (hk : k_copies_L51_L51_ok (M.1 72) (M.1 71) n3) : GM z mX12_copies (d) [.ref 54, .ref 72, .ref 71, .int (nI n3)] M (fun rs => rs = .inl (none, mrow M 71 ((k_copies_L51_L51 (M.1 72) (M.1 71) n3).2))) := by
  simp only [k_copies_L51_L51_ok] at hk
  refine GM.of oX12_copies.1 (Nat.le_of_ble_eq_true rfl) ?_
  show G z mX12_copies (d) 0 0 0 [some (.ref 54), some (.ref 72), some (.ref 71), some (.int (nI n3)), none] [] M _
  obtain ⟨Q, hQ⟩ : ∃ Q : Rs → Prop, Q = (fun rs => rs = .inl (none, mrow M 71 ((k_copies_L51_L51 (M.1 72) (M.1 71) n3).2))) := ⟨_, rfl⟩
  rw [← hQ]
  refine G.sl [(.iconst 0, 1, 0, 0, 0, nI 0), (.istore 4, 2, 4, 0, 0, 0)] [] (pc2 := 3) (ls2 := [some (.ref 54), some (.ref 72), some (.ref 71), some (.int (nI n3)), some (.int (nI 0))]) (st2 := []) (M2 := M) (Ps := []) (by decide +kernel) rfl rfl trivial ?_
  refine G.loc (ls2 := [none, some (.ref 72), some (.ref 71), some (.int (nI n3)), some (.int (nI 0))]) (by simp [subL]) ?_
  obtain ⟨k2, hk⟩ := hk
  refine lp_k_copies_L51_L51_54_72_71_3 z d M Q n3 (by omega) (by first | (simp only [mput, mrow_same, mrow_hit, mrow_miss, mrow_sw, idr_eq, ne_eq, Nat.reduceEqDiff, not_false_eq_true, Nat.reduceLT, reduceCtorEq]; exact k2) | exact k2) ?_
  try simp only [mput, mrow_same, mrow_hit, mrow_miss, mrow_sw, idr_eq, ne_eq, Nat.reduceEqDiff, not_false_eq_true, Nat.reduceLT, reduceCtorEq]
  show G z mX12_copies (d) 0 0 23 [none, none, none, none, none] [] (mrow M 71 (k_copies_L51_L51_3 (M.1 72) (M.1 71) n3 n3)) Q
  exact G.retv (by decide +kernel) rfl (Nat.le_of_ble_eq_true rfl) (Nat.le_of_ble_eq_true rfl) ((by rw [hQ]; simp only [k_copies_L51_L51, mrow_self]))
set_option maxHeartbeats 4000000 in
set_option maxRecDepth 3000 in
theorem c_k_work_54 (z : Zp) (d : Nat) (M : Mem) (x1 : Int32) (hk : k_work_ok (M.1 54) (M.1 55) (M.1 56) (M.1 60) (M.1 61) (M.1 65) (M.1 66) (M.1 67) (M.1 68) (M.1 69) (M.1 70) (M.1 71) (M.1 72) (M.1 73) x1) : GM z mX12_work (d + 71) [.ref 54, .int x1] M (fun rs => rs = .inl (some (.int ((k_work (M.1 54) (M.1 55) (M.1 56) (M.1 60) (M.1 61) (M.1 65) (M.1 66) (M.1 67) (M.1 68) (M.1 69) (M.1 70) (M.1 71) (M.1 72) (M.1 73) x1).1)), mrow (mrow (mrow (mrow (mrow (mrow (mrow (mrow (mrow M 54 ((k_work (M.1 54) (M.1 55) (M.1 56) (M.1 60) (M.1 61) (M.1 65) (M.1 66) (M.1 67) (M.1 68) (M.1 69) (M.1 70) (M.1 71) (M.1 72) (M.1 73) x1).2.1)) 55 ((k_work (M.1 54) (M.1 55) (M.1 56) (M.1 60) (M.1 61) (M.1 65) (M.1 66) (M.1 67) (M.1 68) (M.1 69) (M.1 70) (M.1 71) (M.1 72) (M.1 73) x1).2.2.1)) 67 ((k_work (M.1 54) (M.1 55) (M.1 56) (M.1 60) (M.1 61) (M.1 65) (M.1 66) (M.1 67) (M.1 68) (M.1 69) (M.1 70) (M.1 71) (M.1 72) (M.1 73) x1).2.2.2.1)) 68 ((k_work (M.1 54) (M.1 55) (M.1 56) (M.1 60) (M.1 61) (M.1 65) (M.1 66) (M.1 67) (M.1 68) (M.1 69) (M.1 70) (M.1 71) (M.1 72) (M.1 73) x1).2.2.2.2.1)) 69 ((k_work (M.1 54) (M.1 55) (M.1 56) (M.1 60) (M.1 61) (M.1 65) (M.1 66) (M.1 67) (M.1 68) (M.1 69) (M.1 70) (M.1 71) (M.1 72) (M.1 73) x1).2.2.2.2.2.1)) 70 ((k_work (M.1 54) (M.1 55) (M.1 56) (M.1 60) (M.1 61) (M.1 65) (M.1 66) (M.1 67) (M.1 68) (M.1 69) (M.1 70) (M.1 71) (M.1 72) (M.1 73) x1).2.2.2.2.2.2.1)) 71 ((k_work (M.1 54) (M.1 55) (M.1 56) (M.1 60) (M.1 61) (M.1 65) (M.1 66) (M.1 67) (M.1 68) (M.1 69) (M.1 70) (M.1 71) (M.1 72) (M.1 73) x1).2.2.2.2.2.2.2.1)) 72 ((k_work (M.1 54) (M.1 55) (M.1 56) (M.1 60) (M.1 61) (M.1 65) (M.1 66) (M.1 67) (M.1 68) (M.1 69) (M.1 70) (M.1 71) (M.1 72) (M.1 73) x1).2.2.2.2.2.2.2.2.1)) 73 ((k_work (M.1 54) (M.1 55) (M.1 56) (M.1 60) (M.1 61) (M.1 65) (M.1 66) (M.1 67) (M.1 68) (M.1 69) (M.1 70) (M.1 71) (M.1 72) (M.1 73) x1).2.2.2.2.2.2.2.2.2))) := by
  simp only [k_work_ok] at hk
  refine GM.of oX12_work.1 (Nat.le_of_ble_eq_true rfl) ?_
  show G z mX12_work (d + 71) 0 0 0 [some (.ref 54), some (.int x1), none, none] [] M _
  obtain ⟨Q, hQ⟩ : ∃ Q : Rs → Prop, Q = (fun rs => rs = .inl (some (.int ((k_work (M.1 54) (M.1 55) (M.1 56) (M.1 60) (M.1 61) (M.1 65) (M.1 66) (M.1 67) (M.1 68) (M.1 69) (M.1 70) (M.1 71) (M.1 72) (M.1 73) x1).1)), mrow (mrow (mrow (mrow (mrow (mrow (mrow (mrow (mrow M 54 ((k_work (M.1 54) (M.1 55) (M.1 56) (M.1 60) (M.1 61) (M.1 65) (M.1 66) (M.1 67) (M.1 68) (M.1 69) (M.1 70) (M.1 71) (M.1 72) (M.1 73) x1).2.1)) 55 ((k_work (M.1 54) (M.1 55) (M.1 56) (M.1 60) (M.1 61) (M.1 65) (M.1 66) (M.1 67) (M.1 68) (M.1 69) (M.1 70) (M.1 71) (M.1 72) (M.1 73) x1).2.2.1)) 67 ((k_work (M.1 54) (M.1 55) (M.1 56) (M.1 60) (M.1 61) (M.1 65) (M.1 66) (M.1 67) (M.1 68) (M.1 69) (M.1 70) (M.1 71) (M.1 72) (M.1 73) x1).2.2.2.1)) 68 ((k_work (M.1 54) (M.1 55) (M.1 56) (M.1 60) (M.1 61) (M.1 65) (M.1 66) (M.1 67) (M.1 68) (M.1 69) (M.1 70) (M.1 71) (M.1 72) (M.1 73) x1).2.2.2.2.1)) 69 ((k_work (M.1 54) (M.1 55) (M.1 56) (M.1 60) (M.1 61) (M.1 65) (M.1 66) (M.1 67) (M.1 68) (M.1 69) (M.1 70) (M.1 71) (M.1 72) (M.1 73) x1).2.2.2.2.2.1)) 70 ((k_work (M.1 54) (M.1 55) (M.1 56) (M.1 60) (M.1 61) (M.1 65) (M.1 66) (M.1 67) (M.1 68) (M.1 69) (M.1 70) (M.1 71) (M.1 72) (M.1 73) x1).2.2.2.2.2.2.1)) 71 ((k_work (M.1 54) (M.1 55) (M.1 56) (M.1 60) (M.1 61) (M.1 65) (M.1 66) (M.1 67) (M.1 68) (M.1 69) (M.1 70) (M.1 71) (M.1 72) (M.1 73) x1).2.2.2.2.2.2.2.1)) 72 ((k_work (M.1 54) (M.1 55) (M.1 56) (M.1 60) (M.1 61) (M.1 65) (M.1 66) (M.1 67) (M.1 68) (M.1 69) (M.1 70) (M.1 71) (M.1 72) (M.1 73) x1).2.2.2.2.2.2.2.2.1)) 73 ((k_work (M.1 54) (M.1 55) (M.1 56) (M.1 60) (M.1 61) (M.1 65) (M.1 66) (M.1 67) (M.1 68) (M.1 69) (M.1 70) (M.1 71) (M.1 72) (M.1 73) x1).2.2.2.2.2.2.2.2.2))) := ⟨_, rfl⟩
  rw [← hQ]
  refine G.sl [(.aload_n 0, 1, 0, 0, 0, 0), (.iconst 0, 1, 0, 0, 0, nI 0), (.putfield 3, 3, 11, 0, 123, 0), (.aload_n 0, 1, 0, 0, 0, 0), (.iload_n 1, 1, 1, 0, 0, 0)] [] (pc2 := 7) (ls2 := [some (.ref 54), some (.int x1), none, none]) (st2 := [.int x1, .ref 54]) (M2 := mput M 54 0 (nI 0)) (Ps := []) (by decide +kernel) rfl rfl trivial ?_
  refine G.mem (M' := mrow M 54 (upd (M.1 54) 0 (nI 0))) (by first | rfl | (simp only [mput, mrow_same, mrow_hit, mrow_miss, mrow_sw, idr_eq, ne_eq, Nat.reduceEqDiff, not_false_eq_true, Nat.reduceLT, reduceCtorEq]; done)) ?_
  refine G.if_lt (off := (22)) (tgt := 29) (by decide +kernel) rfl (fun c1 => ?_) (fun c1 => ?_)
  · skip
    rw [if_pos c1] at hk
    refine G.sl [(.iconst 0, 1, 0, 0, 0, nI 0), (.iconst 1, 1, 0, 0, 0, nI 1), (.iconst 1, 1, 0, 0, 0, nI 1)] [] (pc2 := 32) (ls2 := [some (.ref 54), some (.int x1), none, none]) (st2 := [.int (nI 1), .int (nI 1), .int (nI 0), .ref 54]) (M2 := mrow M 54 (upd (M.1 54) 0 (nI 0))) (Ps := []) (by decide +kernel) rfl rfl trivial ?_
    have t2 : GM z mX12_may (d + 70) [.ref 54, .int (nI 0), .int (nI 1), .int (nI 1)] (mrow M 54 (upd (M.1 54) 0 (nI 0))) (fun rs => rs = .inl (some (.int (nI 0)), mrow (mrow M 54 (upd (upd (M.1 54) 0 (nI 0)) 0 (nI 1))) 55 (upd (M.1 55) 1 ((M.1 55 1) + nI 1)))) := by
      have q9 := m_may_1_f z (d + 70) (mrow M 54 (upd (M.1 54) 0 (nI 0))) (nI 1) (by first | rfl | (simp only [mput, mrow_same, mrow_hit, mrow_miss, mrow_sw, idr_eq, ne_eq, Nat.reduceEqDiff, not_false_eq_true, Nat.reduceLT, reduceCtorEq, pk_us]; done)) (by decide)
      try simp only [mput, mrow_same, mrow_hit, mrow_miss, mrow_sw, idr_eq, ne_eq, Nat.reduceEqDiff, not_false_eq_true, Nat.reduceLT, reduceCtorEq] at q9
      exact q9
    refine G.callV (as := [.int (nI 0), .int (nI 1), .int (nI 1)]) (rest := []) (a := 54) oX12_may lk_EvenFindersModel_213 (by decide +kernel) rfl rfl ⟨rfl, rfl⟩ (Nat.le_of_ble_eq_true rfl) rfl ⟨Nat.le_of_ble_eq_true rfl, Nat.le_of_ble_eq_true rfl⟩ t2 (fun v9 N9 h3 => ?_) (fun E9 N9 h3 => by cases h3)
    cases h3
    show G z mX12_work (d + 71) 0 0 35 [some (.ref 54), some (.int x1), none, none] [.int (nI 0)] (mrow (mrow M 54 (upd (upd (M.1 54) 0 (nI 0)) 0 (nI 1))) 55 (upd (M.1 55) 1 ((M.1 55 1) + nI 1))) Q
    refine G.if_ne (off := (5)) (tgt := 40) (by decide +kernel) rfl (fun h9 => absurd (by decide) h9) (fun _ => ?_)
    refine G.sl [(.iconst 0, 1, 0, 0, 0, nI 0)] [] (pc2 := 39) (ls2 := [some (.ref 54), some (.int x1), none, none]) (st2 := [.int (nI 0)]) (M2 := mrow (mrow M 54 (upd (upd (M.1 54) 0 (nI 0)) 0 (nI 1))) 55 (upd (M.1 55) 1 ((M.1 55 1) + nI 1))) (Ps := []) (by decide +kernel) rfl rfl trivial ?_
    refine G.mem (M' := mrow (mrow (mrow (mrow (mrow (mrow (mrow (mrow (mrow M 54 (upd (upd (M.1 54) 0 (nI 0)) 0 (nI 1))) 55 (upd (M.1 55) 1 ((M.1 55 1) + nI 1))) 67 (M.1 67)) 68 (M.1 68)) 69 (M.1 69)) 70 (M.1 70)) 71 (M.1 71)) 72 (M.1 72)) 73 (M.1 73)) (((((((((mrow_id (N := mrow (mrow M 54 (upd (upd (M.1 54) 0 (nI 0)) 0 (nI 1))) 55 (upd (M.1 55) 1 ((M.1 55 1) + nI 1))) (c := 67) (f := M.1 67) (by first | rfl | (simp only [mput, mrow_same, mrow_hit, mrow_miss, mrow_sw, idr_eq, ne_eq, Nat.reduceEqDiff, not_false_eq_true, Nat.reduceLT, reduceCtorEq]; done))).symm).trans (mrow_id (N := mrow (mrow (mrow M 54 (upd (upd (M.1 54) 0 (nI 0)) 0 (nI 1))) 55 (upd (M.1 55) 1 ((M.1 55 1) + nI 1))) 67 (M.1 67)) (c := 68) (f := M.1 68) (by first | rfl | (simp only [mput, mrow_same, mrow_hit, mrow_miss, mrow_sw, idr_eq, ne_eq, Nat.reduceEqDiff, not_false_eq_true, Nat.reduceLT, reduceCtorEq]; done))).symm).trans (mrow_id (N := mrow (mrow (mrow (mrow M 54 (upd (upd (M.1 54) 0 (nI 0)) 0 (nI 1))) 55 (upd (M.1 55) 1 ((M.1 55 1) + nI 1))) 67 (M.1 67)) 68 (M.1 68)) (c := 69) (f := M.1 69) (by first | rfl | (simp only [mput, mrow_same, mrow_hit, mrow_miss, mrow_sw, idr_eq, ne_eq, Nat.reduceEqDiff, not_false_eq_true, Nat.reduceLT, reduceCtorEq]; done))).symm).trans (mrow_id (N := mrow (mrow (mrow (mrow (mrow M 54 (upd (upd (M.1 54) 0 (nI 0)) 0 (nI 1))) 55 (upd (M.1 55) 1 ((M.1 55 1) + nI 1))) 67 (M.1 67)) 68 (M.1 68)) 69 (M.1 69)) (c := 70) (f := M.1 70) (by first | rfl | (simp only [mput, mrow_same, mrow_hit, mrow_miss, mrow_sw, idr_eq, ne_eq, Nat.reduceEqDiff, not_false_eq_true, Nat.reduceLT, reduceCtorEq]; done))).symm).trans (mrow_id (N := mrow (mrow (mrow (mrow (mrow (mrow M 54 (upd (upd (M.1 54) 0 (nI 0)) 0 (nI 1))) 55 (upd (M.1 55) 1 ((M.1 55 1) + nI 1))) 67 (M.1 67)) 68 (M.1 68)) 69 (M.1 69)) 70 (M.1 70)) (c := 71) (f := M.1 71) (by first | rfl | (simp only [mput, mrow_same, mrow_hit, mrow_miss, mrow_sw, idr_eq, ne_eq, Nat.reduceEqDiff, not_false_eq_true, Nat.reduceLT, reduceCtorEq]; done))).symm).trans (mrow_id (N := mrow (mrow (mrow (mrow (mrow (mrow (mrow M 54 (upd (upd (M.1 54) 0 (nI 0)) 0 (nI 1))) 55 (upd (M.1 55) 1 ((M.1 55 1) + nI 1))) 67 (M.1 67)) 68 (M.1 68)) 69 (M.1 69)) 70 (M.1 70)) 71 (M.1 71)) (c := 72) (f := M.1 72) (by first | rfl | (simp only [mput, mrow_same, mrow_hit, mrow_miss, mrow_sw, idr_eq, ne_eq, Nat.reduceEqDiff, not_false_eq_true, Nat.reduceLT, reduceCtorEq]; done))).symm).trans (mrow_id (N := mrow (mrow (mrow (mrow (mrow (mrow (mrow (mrow M 54 (upd (upd (M.1 54) 0 (nI 0)) 0 (nI 1))) 55 (upd (M.1 55) 1 ((M.1 55 1) + nI 1))) 67 (M.1 67)) 68 (M.1 68)) 69 (M.1 69)) 70 (M.1 70)) 71 (M.1 71)) 72 (M.1 72)) (c := 73) (f := M.1 73) (by first | rfl | (simp only [mput, mrow_same, mrow_hit, mrow_miss, mrow_sw, idr_eq, ne_eq, Nat.reduceEqDiff, not_false_eq_true, Nat.reduceLT, reduceCtorEq]; done))).symm).trans (by first | rfl | (simp only [mput, mrow_same, mrow_hit, mrow_miss, mrow_sw, idr_eq, ne_eq, Nat.reduceEqDiff, not_false_eq_true, Nat.reduceLT, reduceCtorEq]; done))) ?_
    exact G.reti (by decide +kernel) rfl rfl (Nat.le_of_ble_eq_true rfl) (Nat.le_of_ble_eq_true rfl) ((by rw [hQ]; simp only [k_work, if_pos c1, mrow_self]))
  · skip
    rw [if_neg c1] at hk
    refine G.sl [(.iload_n 1, 1, 1, 0, 0, 0), (.aload_n 0, 1, 0, 0, 0, 0), (.getfield 98, 3, 11, 2, 125, 0)] [] (pc2 := 15) (ls2 := [some (.ref 54), some (.int x1), none, none]) (st2 := [.int (M.1 54 2), .int x1, .ref 54]) (M2 := mrow M 54 (upd (M.1 54) 0 (nI 0))) (Ps := []) (by decide +kernel) rfl rfl trivial ?_
    refine G.ic_gt (off := (14)) (tgt := 29) (by decide +kernel) rfl (fun c4 => ?_) (fun c4 => ?_)
    · skip
      rw [if_pos c4] at hk
      refine G.sl [(.iconst 0, 1, 0, 0, 0, nI 0), (.iconst 1, 1, 0, 0, 0, nI 1), (.iconst 1, 1, 0, 0, 0, nI 1)] [] (pc2 := 32) (ls2 := [some (.ref 54), some (.int x1), none, none]) (st2 := [.int (nI 1), .int (nI 1), .int (nI 0), .ref 54]) (M2 := mrow M 54 (upd (M.1 54) 0 (nI 0))) (Ps := []) (by decide +kernel) rfl rfl trivial ?_
      have t5 : GM z mX12_may (d + 70) [.ref 54, .int (nI 0), .int (nI 1), .int (nI 1)] (mrow M 54 (upd (M.1 54) 0 (nI 0))) (fun rs => rs = .inl (some (.int (nI 0)), mrow (mrow M 54 (upd (upd (M.1 54) 0 (nI 0)) 0 (nI 1))) 55 (upd (M.1 55) 1 ((M.1 55 1) + nI 1)))) := by
        have q9 := m_may_1_f z (d + 70) (mrow M 54 (upd (M.1 54) 0 (nI 0))) (nI 1) (by first | rfl | (simp only [mput, mrow_same, mrow_hit, mrow_miss, mrow_sw, idr_eq, ne_eq, Nat.reduceEqDiff, not_false_eq_true, Nat.reduceLT, reduceCtorEq, pk_us]; done)) (by decide)
        try simp only [mput, mrow_same, mrow_hit, mrow_miss, mrow_sw, idr_eq, ne_eq, Nat.reduceEqDiff, not_false_eq_true, Nat.reduceLT, reduceCtorEq] at q9
        exact q9
      refine G.callV (as := [.int (nI 0), .int (nI 1), .int (nI 1)]) (rest := []) (a := 54) oX12_may lk_EvenFindersModel_213 (by decide +kernel) rfl rfl ⟨rfl, rfl⟩ (Nat.le_of_ble_eq_true rfl) rfl ⟨Nat.le_of_ble_eq_true rfl, Nat.le_of_ble_eq_true rfl⟩ t5 (fun v9 N9 h6 => ?_) (fun E9 N9 h6 => by cases h6)
      cases h6
      show G z mX12_work (d + 71) 0 0 35 [some (.ref 54), some (.int x1), none, none] [.int (nI 0)] (mrow (mrow M 54 (upd (upd (M.1 54) 0 (nI 0)) 0 (nI 1))) 55 (upd (M.1 55) 1 ((M.1 55 1) + nI 1))) Q
      refine G.if_ne (off := (5)) (tgt := 40) (by decide +kernel) rfl (fun h9 => absurd (by decide) h9) (fun _ => ?_)
      refine G.sl [(.iconst 0, 1, 0, 0, 0, nI 0)] [] (pc2 := 39) (ls2 := [some (.ref 54), some (.int x1), none, none]) (st2 := [.int (nI 0)]) (M2 := mrow (mrow M 54 (upd (upd (M.1 54) 0 (nI 0)) 0 (nI 1))) 55 (upd (M.1 55) 1 ((M.1 55 1) + nI 1))) (Ps := []) (by decide +kernel) rfl rfl trivial ?_
      refine G.mem (M' := mrow (mrow (mrow (mrow (mrow (mrow (mrow (mrow (mrow M 54 (upd (upd (M.1 54) 0 (nI 0)) 0 (nI 1))) 55 (upd (M.1 55) 1 ((M.1 55 1) + nI 1))) 67 (M.1 67)) 68 (M.1 68)) 69 (M.1 69)) 70 (M.1 70)) 71 (M.1 71)) 72 (M.1 72)) 73 (M.1 73)) (((((((((mrow_id (N := mrow (mrow M 54 (upd (upd (M.1 54) 0 (nI 0)) 0 (nI 1))) 55 (upd (M.1 55) 1 ((M.1 55 1) + nI 1))) (c := 67) (f := M.1 67) (by first | rfl | (simp only [mput, mrow_same, mrow_hit, mrow_miss, mrow_sw, idr_eq, ne_eq, Nat.reduceEqDiff, not_false_eq_true, Nat.reduceLT, reduceCtorEq]; done))).symm).trans (mrow_id (N := mrow (mrow (mrow M 54 (upd (upd (M.1 54) 0 (nI 0)) 0 (nI 1))) 55 (upd (M.1 55) 1 ((M.1 55 1) + nI 1))) 67 (M.1 67)) (c := 68) (f := M.1 68) (by first | rfl | (simp only [mput, mrow_same, mrow_hit, mrow_miss, mrow_sw, idr_eq, ne_eq, Nat.reduceEqDiff, not_false_eq_true, Nat.reduceLT, reduceCtorEq]; done))).symm).trans (mrow_id (N := mrow (mrow (mrow (mrow M 54 (upd (upd (M.1 54) 0 (nI 0)) 0 (nI 1))) 55 (upd (M.1 55) 1 ((M.1 55 1) + nI 1))) 67 (M.1 67)) 68 (M.1 68)) (c := 69) (f := M.1 69) (by first | rfl | (simp only [mput, mrow_same, mrow_hit, mrow_miss, mrow_sw, idr_eq, ne_eq, Nat.reduceEqDiff, not_false_eq_true, Nat.reduceLT, reduceCtorEq]; done))).symm).trans (mrow_id (N := mrow (mrow (mrow (mrow (mrow M 54 (upd (upd (M.1 54) 0 (nI 0)) 0 (nI 1))) 55 (upd (M.1 55) 1 ((M.1 55 1) + nI 1))) 67 (M.1 67)) 68 (M.1 68)) 69 (M.1 69)) (c := 70) (f := M.1 70) (by first | rfl | (simp only [mput, mrow_same, mrow_hit, mrow_miss, mrow_sw, idr_eq, ne_eq, Nat.reduceEqDiff, not_false_eq_true, Nat.reduceLT, reduceCtorEq]; done))).symm).trans (mrow_id (N := mrow (mrow (mrow (mrow (mrow (mrow M 54 (upd (upd (M.1 54) 0 (nI 0)) 0 (nI 1))) 55 (upd (M.1 55) 1 ((M.1 55 1) + nI 1))) 67 (M.1 67)) 68 (M.1 68)) 69 (M.1 69)) 70 (M.1 70)) (c := 71) (f := M.1 71) (by first | rfl | (simp only [mput, mrow_same, mrow_hit, mrow_miss, mrow_sw, idr_eq, ne_eq, Nat.reduceEqDiff, not_false_eq_true, Nat.reduceLT, reduceCtorEq]; done))).symm).trans (mrow_id (N := mrow (mrow (mrow (mrow (mrow (mrow (mrow M 54 (upd (upd (M.1 54) 0 (nI 0)) 0 (nI 1))) 55 (upd (M.1 55) 1 ((M.1 55 1) + nI 1))) 67 (M.1 67)) 68 (M.1 68)) 69 (M.1 69)) 70 (M.1 70)) 71 (M.1 71)) (c := 72) (f := M.1 72) (by first | rfl | (simp only [mput, mrow_same, mrow_hit, mrow_miss, mrow_sw, idr_eq, ne_eq, Nat.reduceEqDiff, not_false_eq_true, Nat.reduceLT, reduceCtorEq]; done))).symm).trans (mrow_id (N := mrow (mrow (mrow (mrow (mrow (mrow (mrow (mrow M 54 (upd (upd (M.1 54) 0 (nI 0)) 0 (nI 1))) 55 (upd (M.1 55) 1 ((M.1 55 1) + nI 1))) 67 (M.1 67)) 68 (M.1 68)) 69 (M.1 69)) 70 (M.1 70)) 71 (M.1 71)) 72 (M.1 72)) (c := 73) (f := M.1 73) (by first | rfl | (simp only [mput, mrow_same, mrow_hit, mrow_miss, mrow_sw, idr_eq, ne_eq, Nat.reduceEqDiff, not_false_eq_true, Nat.reduceLT, reduceCtorEq]; done))).symm).trans (by first | rfl | (simp only [mput, mrow_same, mrow_hit, mrow_miss, mrow_sw, idr_eq, ne_eq, Nat.reduceEqDiff, not_false_eq_true, Nat.reduceLT, reduceCtorEq]; done))) ?_
      exact G.reti (by decide +kernel) rfl rfl (Nat.le_of_ble_eq_true rfl) (Nat.le_of_ble_eq_true rfl) ((by rw [hQ]; simp only [k_work, if_neg c1, if_pos c4, mrow_self]))
    · skip
      rw [if_neg c4] at hk
      refine G.sl [(.iload_n 1, 1, 1, 0, 0, 0), (.sipush 150, 3, 0, 0, 0, nI 150)] [] (pc2 := 22) (ls2 := [some (.ref 54), some (.int x1), none, none]) (st2 := [.int (nI 150), .int x1, .ref 54]) (M2 := mrow M 54 (upd (M.1 54) 0 (nI 0))) (Ps := []) (by decide +kernel) rfl rfl trivial ?_
      refine G.ic_gt (off := (7)) (tgt := 29) (by decide +kernel) rfl (fun c7 => ?_) (fun c7 => ?_)
      · skip
        rw [if_pos c7] at hk
        refine G.sl [(.iconst 0, 1, 0, 0, 0, nI 0), (.iconst 1, 1, 0, 0, 0, nI 1), (.iconst 1, 1, 0, 0, 0, nI 1)] [] (pc2 := 32) (ls2 := [some (.ref 54), some (.int x1), none, none]) (st2 := [.int (nI 1), .int (nI 1), .int (nI 0), .ref 54]) (M2 := mrow M 54 (upd (M.1 54) 0 (nI 0))) (Ps := []) (by decide +kernel) rfl rfl trivial ?_
        have t8 : GM z mX12_may (d + 70) [.ref 54, .int (nI 0), .int (nI 1), .int (nI 1)] (mrow M 54 (upd (M.1 54) 0 (nI 0))) (fun rs => rs = .inl (some (.int (nI 0)), mrow (mrow M 54 (upd (upd (M.1 54) 0 (nI 0)) 0 (nI 1))) 55 (upd (M.1 55) 1 ((M.1 55 1) + nI 1)))) := by
          have q9 := m_may_1_f z (d + 70) (mrow M 54 (upd (M.1 54) 0 (nI 0))) (nI 1) (by first | rfl | (simp only [mput, mrow_same, mrow_hit, mrow_miss, mrow_sw, idr_eq, ne_eq, Nat.reduceEqDiff, not_false_eq_true, Nat.reduceLT, reduceCtorEq, pk_us]; done)) (by decide)
          try simp only [mput, mrow_same, mrow_hit, mrow_miss, mrow_sw, idr_eq, ne_eq, Nat.reduceEqDiff, not_false_eq_true, Nat.reduceLT, reduceCtorEq] at q9
          exact q9
        refine G.callV (as := [.int (nI 0), .int (nI 1), .int (nI 1)]) (rest := []) (a := 54) oX12_may lk_EvenFindersModel_213 (by decide +kernel) rfl rfl ⟨rfl, rfl⟩ (Nat.le_of_ble_eq_true rfl) rfl ⟨Nat.le_of_ble_eq_true rfl, Nat.le_of_ble_eq_true rfl⟩ t8 (fun v9 N9 h9 => ?_) (fun E9 N9 h9 => by cases h9)
        cases h9
        show G z mX12_work (d + 71) 0 0 35 [some (.ref 54), some (.int x1), none, none] [.int (nI 0)] (mrow (mrow M 54 (upd (upd (M.1 54) 0 (nI 0)) 0 (nI 1))) 55 (upd (M.1 55) 1 ((M.1 55 1) + nI 1))) Q
        refine G.if_ne (off := (5)) (tgt := 40) (by decide +kernel) rfl (fun h9 => absurd (by decide) h9) (fun _ => ?_)
        refine G.sl [(.iconst 0, 1, 0, 0, 0, nI 0)] [] (pc2 := 39) (ls2 := [some (.ref 54), some (.int x1), none, none]) (st2 := [.int (nI 0)]) (M2 := mrow (mrow M 54 (upd (upd (M.1 54) 0 (nI 0)) 0 (nI 1))) 55 (upd (M.1 55) 1 ((M.1 55 1) + nI 1))) (Ps := []) (by decide +kernel) rfl rfl trivial ?_
        refine G.mem (M' := mrow (mrow (mrow (mrow (mrow (mrow (mrow (mrow (mrow M 54 (upd (upd (M.1 54) 0 (nI 0)) 0 (nI 1))) 55 (upd (M.1 55) 1 ((M.1 55 1) + nI 1))) 67 (M.1 67)) 68 (M.1 68)) 69 (M.1 69)) 70 (M.1 70)) 71 (M.1 71)) 72 (M.1 72)) 73 (M.1 73)) (((((((((mrow_id (N := mrow (mrow M 54 (upd (upd (M.1 54) 0 (nI 0)) 0 (nI 1))) 55 (upd (M.1 55) 1 ((M.1 55 1) + nI 1))) (c := 67) (f := M.1 67) (by first | rfl | (simp only [mput, mrow_same, mrow_hit, mrow_miss, mrow_sw, idr_eq, ne_eq, Nat.reduceEqDiff, not_false_eq_true, Nat.reduceLT, reduceCtorEq]; done))).symm).trans (mrow_id (N := mrow (mrow (mrow M 54 (upd (upd (M.1 54) 0 (nI 0)) 0 (nI 1))) 55 (upd (M.1 55) 1 ((M.1 55 1) + nI 1))) 67 (M.1 67)) (c := 68) (f := M.1 68) (by first | rfl | (simp only [mput, mrow_same, mrow_hit, mrow_miss, mrow_sw, idr_eq, ne_eq, Nat.reduceEqDiff, not_false_eq_true, Nat.reduceLT, reduceCtorEq]; done))).symm).trans (mrow_id (N := mrow (mrow (mrow (mrow M 54 (upd (upd (M.1 54) 0 (nI 0)) 0 (nI 1))) 55 (upd (M.1 55) 1 ((M.1 55 1) + nI 1))) 67 (M.1 67)) 68 (M.1 68)) (c := 69) (f := M.1 69) (by first | rfl | (simp only [mput, mrow_same, mrow_hit, mrow_miss, mrow_sw, idr_eq, ne_eq, Nat.reduceEqDiff, not_false_eq_true, Nat.reduceLT, reduceCtorEq]; done))).symm).trans (mrow_id (N := mrow (mrow (mrow (mrow (mrow M 54 (upd (upd (M.1 54) 0 (nI 0)) 0 (nI 1))) 55 (upd (M.1 55) 1 ((M.1 55 1) + nI 1))) 67 (M.1 67)) 68 (M.1 68)) 69 (M.1 69)) (c := 70) (f := M.1 70) (by first | rfl | (simp only [mput, mrow_same, mrow_hit, mrow_miss, mrow_sw, idr_eq, ne_eq, Nat.reduceEqDiff, not_false_eq_true, Nat.reduceLT, reduceCtorEq]; done))).symm).trans (mrow_id (N := mrow (mrow (mrow (mrow (mrow (mrow M 54 (upd (upd (M.1 54) 0 (nI 0)) 0 (nI 1))) 55 (upd (M.1 55) 1 ((M.1 55 1) + nI 1))) 67 (M.1 67)) 68 (M.1 68)) 69 (M.1 69)) 70 (M.1 70)) (c := 71) (f := M.1 71) (by first | rfl | (simp only [mput, mrow_same, mrow_hit, mrow_miss, mrow_sw, idr_eq, ne_eq, Nat.reduceEqDiff, not_false_eq_true, Nat.reduceLT, reduceCtorEq]; done))).symm).trans (mrow_id (N := mrow (mrow (mrow (mrow (mrow (mrow (mrow M 54 (upd (upd (M.1 54) 0 (nI 0)) 0 (nI 1))) 55 (upd (M.1 55) 1 ((M.1 55 1) + nI 1))) 67 (M.1 67)) 68 (M.1 68)) 69 (M.1 69)) 70 (M.1 70)) 71 (M.1 71)) (c := 72) (f := M.1 72) (by first | rfl | (simp only [mput, mrow_same, mrow_hit, mrow_miss, mrow_sw, idr_eq, ne_eq, Nat.reduceEqDiff, not_false_eq_true, Nat.reduceLT, reduceCtorEq]; done))).symm).trans (mrow_id (N := mrow (mrow (mrow (mrow (mrow (mrow (mrow (mrow M 54 (upd (upd (M.1 54) 0 (nI 0)) 0 (nI 1))) 55 (upd (M.1 55) 1 ((M.1 55 1) + nI 1))) 67 (M.1 67)) 68 (M.1 68)) 69 (M.1 69)) 70 (M.1 70)) 71 (M.1 71)) 72 (M.1 72)) (c := 73) (f := M.1 73) (by first | rfl | (simp only [mput, mrow_same, mrow_hit, mrow_miss, mrow_sw, idr_eq, ne_eq, Nat.reduceEqDiff, not_false_eq_true, Nat.reduceLT, reduceCtorEq]; done))).symm).trans (by first | rfl | (simp only [mput, mrow_same, mrow_hit, mrow_miss, mrow_sw, idr_eq, ne_eq, Nat.reduceEqDiff, not_false_eq_true, Nat.reduceLT, reduceCtorEq]; done))) ?_
        exact G.reti (by decide +kernel) rfl rfl (Nat.le_of_ble_eq_true rfl) (Nat.le_of_ble_eq_true rfl) ((by rw [hQ]; simp only [k_work, if_neg c1, if_neg c4, if_pos c7, mrow_self]))
      · skip
        rw [if_neg c7] at hk
        refine G.sl [(.iconst 1, 1, 0, 0, 0, nI 1), (.goto 4, 3, 30, 0, 0, 0), (.iconst 1, 1, 0, 0, 0, nI 1), (.iconst 1, 1, 0, 0, 0, nI 1)] [] (pc2 := 32) (ls2 := [some (.ref 54), some (.int x1), none, none]) (st2 := [.int (nI 1), .int (nI 1), .int (nI 1), .ref 54]) (M2 := mrow M 54 (upd (M.1 54) 0 (nI 0))) (Ps := []) (by decide +kernel) rfl rfl trivial ?_
        have t10 : GM z mX12_may (d + 70) [.ref 54, .int (nI 1), .int (nI 1), .int (nI 1)] (mrow M 54 (upd (M.1 54) 0 (nI 0))) (fun rs => rs = .inl (some (.int (nI 1)), mrow M 54 (upd (M.1 54) 0 (nI 0)))) := by
          have q9 := m_may_1_t z (d + 70) (mrow M 54 (upd (M.1 54) 0 (nI 0))) (nI 1) (by first | rfl | (simp only [mput, mrow_same, mrow_hit, mrow_miss, mrow_sw, idr_eq, ne_eq, Nat.reduceEqDiff, not_false_eq_true, Nat.reduceLT, reduceCtorEq, pk_us]; done))
          try simp only [mput, mrow_same, mrow_hit, mrow_miss, mrow_sw, idr_eq, ne_eq, Nat.reduceEqDiff, not_false_eq_true, Nat.reduceLT, reduceCtorEq] at q9
          exact q9
        refine G.callV (as := [.int (nI 1), .int (nI 1), .int (nI 1)]) (rest := []) (a := 54) oX12_may lk_EvenFindersModel_213 (by decide +kernel) rfl rfl ⟨rfl, rfl⟩ (Nat.le_of_ble_eq_true rfl) rfl ⟨Nat.le_of_ble_eq_true rfl, Nat.le_of_ble_eq_true rfl⟩ t10 (fun v9 N9 h11 => ?_) (fun E9 N9 h11 => by cases h11)
        cases h11
        show G z mX12_work (d + 71) 0 0 35 [some (.ref 54), some (.int x1), none, none] [.int (nI 1)] (mrow M 54 (upd (M.1 54) 0 (nI 0))) Q
        refine G.if_ne (off := (5)) (tgt := 40) (by decide +kernel) rfl (fun _ => ?_) (fun h9 => absurd h9 (by decide))
        refine G.sl [(.aload_n 0, 1, 0, 0, 0, 0), (.iload_n 1, 1, 1, 0, 0, 0)] [] (pc2 := 42) (ls2 := [some (.ref 54), some (.int x1), none, none]) (st2 := [.int x1, .ref 54]) (M2 := mrow M 54 (upd (M.1 54) 0 (nI 0))) (Ps := []) (by decide +kernel) rfl rfl trivial ?_
        obtain ⟨k12, hk⟩ := hk
        rcases g13 : k_begins (upd (M.1 54) 0 (nI 0)) x1 with ⟨u14, r15⟩
        try simp only [g13] at hk
        have t16 : GM z mX12_begins (d + 70) [.ref 54, .int x1] (mrow M 54 (upd (M.1 54) 0 (nI 0))) (fun rs => rs = .inl (none, mrow M 54 r15)) := by
          have q9 := c_k_begins_54 z (d + 70) (mrow M 54 (upd (M.1 54) 0 (nI 0))) x1
          try simp only [mput, mrow_same, mrow_hit, mrow_miss, mrow_sw, idr_eq, ne_eq, Nat.reduceEqDiff, not_false_eq_true, Nat.reduceLT, reduceCtorEq, g13] at q9
          exact q9
        refine G.callV (as := [.int x1]) (rest := []) (a := 54) oX12_begins lk_EvenFindersModel_217 (by decide +kernel) rfl rfl ⟨rfl, rfl⟩ (Nat.le_of_ble_eq_true rfl) rfl ⟨Nat.le_of_ble_eq_true rfl, Nat.le_of_ble_eq_true rfl⟩ t16 (fun v9 N9 h17 => ?_) (fun E9 N9 h17 => by cases h17)
        cases h17
        show G z mX12_work (d + 71) 0 0 45 [some (.ref 54), some (.int x1), none, none] [] (mrow M 54 r15) Q
        refine G.sl [(.aload_n 0, 1, 0, 0, 0, 0), (.getfield 178, 3, 11, 35, 158, 0), (.bipush 16, 2, 0, 0, 0, nI 16)] [] (pc2 := 51) (ls2 := [some (.ref 54), some (.int x1), none, none]) (st2 := [.int (nI 16), .int (r15 35)]) (M2 := mrow M 54 r15) (Ps := []) (by decide +kernel) rfl rfl trivial ?_
        refine G.ic_ne (off := (12)) (tgt := 63) (by decide +kernel) rfl (fun c18 => ?_) (fun c18 => ?_)
        · skip
          rw [if_neg c18] at hk
          refine G.sl [(.aload_n 0, 1, 0, 0, 0, 0), (.iconst 0, 1, 0, 0, 0, nI 0), (.putfield 295, 3, 11, 34, 157, 0)] [] (pc2 := 68) (ls2 := [some (.ref 54), some (.int x1), none, none]) (st2 := []) (M2 := mput (mrow M 54 r15) 54 34 (nI 0)) (Ps := []) (by decide +kernel) rfl rfl trivial ?_
          refine G.mem (M' := mrow M 54 (upd r15 34 (nI 0))) (by first | rfl | (simp only [mput, mrow_same, mrow_hit, mrow_miss, mrow_sw, idr_eq, ne_eq, Nat.reduceEqDiff, not_false_eq_true, Nat.reduceLT, reduceCtorEq]; done)) ?_
          refine G.loc (ls2 := [some (.ref 54), none, none, none]) (by simp [subL]) ?_
          obtain ⟨k37, hk⟩ := hk
          refine G.mem (M' := mrow (mrow (mrow M 54 (upd r15 34 (nI 0))) 54 ((mrow M 54 (upd r15 34 (nI 0))).1 54)) 69 ((mrow M 54 (upd r15 34 (nI 0))).1 69)) (by simp only [mrow_self]) ?_
          refine lp_k_work_54_68 z d (mrow M 54 (upd r15 34 (nI 0))) Q FU ((mrow M 54 (upd r15 34 (nI 0))).1 54) ((mrow M 54 (upd r15 34 (nI 0))).1 69) (by first | (simp only [mput, mrow_same, mrow_hit, mrow_miss, mrow_sw, idr_eq, ne_eq, Nat.reduceEqDiff, not_false_eq_true, Nat.reduceLT, reduceCtorEq]; exact k37) | exact k37) ?_
          try simp only [mput, mrow_same, mrow_hit, mrow_miss, mrow_sw, idr_eq, ne_eq, Nat.reduceEqDiff, not_false_eq_true, Nat.reduceLT, reduceCtorEq]
          rcases g38 : k_work_68 (M.1 56) FU (upd r15 34 (nI 0)) (M.1 69) with ⟨r39, r40⟩
          try simp only [g38] at hk
          show G z mX12_work (d + 71) 0 0 89 [some (.ref 54), none, none, none] [] (mrow (mrow M 54 r39) 69 r40) Q
          refine G.sl [(.aload_n 0, 1, 0, 0, 0, 0), (.iconst 0, 1, 0, 0, 0, nI 0)] [] (pc2 := 91) (ls2 := [some (.ref 54), none, none, none]) (st2 := [.int (nI 0), .ref 54]) (M2 := mrow (mrow M 54 r39) 69 r40) (Ps := []) (by decide +kernel) rfl rfl trivial ?_
          obtain ⟨k41, hk⟩ := hk
          rcases g42 : k_result r39 (nI 0) with ⟨v43, r44⟩
          try simp only [g42] at hk
          have t45 : GM z mX12_result (d + 70) [.ref 54, .int (nI 0)] (mrow (mrow M 54 r39) 69 r40) (fun rs => rs = .inl (some (.int v43), mrow (mrow M 54 r44) 69 r40)) := by
            have q9 := c_k_result_54 z (d + 69) (mrow (mrow M 54 r39) 69 r40) (nI 0)
            try simp only [mput, mrow_same, mrow_hit, mrow_miss, mrow_sw, idr_eq, ne_eq, Nat.reduceEqDiff, not_false_eq_true, Nat.reduceLT, reduceCtorEq, g42] at q9
            exact q9
          refine G.callV (as := [.int (nI 0)]) (rest := []) (a := 54) oX12_result lk_EvenFindersModel_242 (by decide +kernel) rfl rfl ⟨rfl, rfl⟩ (Nat.le_of_ble_eq_true rfl) rfl ⟨Nat.le_of_ble_eq_true rfl, Nat.le_of_ble_eq_true rfl⟩ t45 (fun v9 N9 h46 => ?_) (fun E9 N9 h46 => by cases h46)
          cases h46
          show G z mX12_work (d + 71) 0 0 94 [some (.ref 54), none, none, none] [.int v43] (mrow (mrow M 54 r44) 69 r40) Q
          refine G.sl [(.istore_n 2, 1, 2, 0, 0, 0), (.aload_n 0, 1, 0, 0, 0, 0), (.getfield 101, 3, 11, 5, 128, 0), (.iconst (-1), 1, 0, 0, 0, (-1))] [] (pc2 := 100) (ls2 := [some (.ref 54), none, some (.int v43), none]) (st2 := [.int ((-1)), .int (r44 5)]) (M2 := mrow (mrow M 54 r44) 69 r40) (Ps := []) (by decide +kernel) rfl rfl trivial ?_
          refine G.ic_eq (off := (5)) (tgt := 105) (by decide +kernel) rfl (fun c47 => ?_) (fun c47 => ?_)
          · skip
            rw [if_pos c47] at hk
            refine G.sl [(.aload_n 0, 1, 0, 0, 0, 0), (.aload_n 0, 1, 0, 0, 0, 0), (.getfield 59, 3, 11, 32, 155, 0), (.aload_n 0, 1, 0, 0, 0, 0), (.getfield 62, 3, 11, 33, 156, 0), (.aload_n 0, 1, 0, 0, 0, 0), (.getfield 295, 3, 11, 34, 157, 0)] [] (pc2 := 118) (ls2 := [some (.ref 54), none, some (.int v43), none]) (st2 := [.int (r44 34), .ref 70, .ref 69, .ref 54]) (M2 := mrow (mrow M 54 r44) 69 r40) (Ps := []) (by decide +kernel) rfl rfl trivial ?_
            obtain ⟨k48, k49, hk⟩ := hk
            obtain ⟨k50, hk⟩ := hk
            refine G.eq (st' := [.int (nI (ix (r44 34))), .ref 70, .ref 69, .ref 54]) ?_ rfl (by rw [← (show r44 34 = nI (ix (r44 34)) from (ixE k48))]) rfl
            rcases g51 : k_copies_L150_L150 r40 (M.1 70) (ix (r44 34)) with ⟨u52, r53⟩
            try simp only [g51] at hk
            have t54 : GM z mX12_copies (d + 70) [.ref 54, .ref 69, .ref 70, .int (nI (ix (r44 34)))] (mrow (mrow M 54 r44) 69 r40) (fun rs => rs = .inl (none, mrow (mrow (mrow M 54 r44) 69 r40) 70 r53)) := by
              have q9 := c_k_copies_L150_L150_54_69_70 z (d + 70) (mrow (mrow M 54 r44) 69 r40) (ix (r44 34)) k49 k50
              try simp only [mput, mrow_same, mrow_hit, mrow_miss, mrow_sw, idr_eq, ne_eq, Nat.reduceEqDiff, not_false_eq_true, Nat.reduceLT, reduceCtorEq, g51] at q9
              exact q9
            refine G.callV (as := [.ref 69, .ref 70, .int (nI (ix (r44 34)))]) (rest := []) (a := 54) oX12_copies lk_EvenFindersModel_168 (by decide +kernel) rfl rfl ⟨rfl, rfl⟩ (Nat.le_of_ble_eq_true rfl) rfl ⟨Nat.le_of_ble_eq_true rfl, Nat.le_of_ble_eq_true rfl⟩ t54 (fun v9 N9 h55 => ?_) (fun E9 N9 h55 => by cases h55)
            cases h55
            show G z mX12_work (d + 71) 0 0 121 [some (.ref 54), none, some (.int v43), none] [] (mrow (mrow (mrow M 54 r44) 69 r40) 70 r53) Q
            refine G.sl [(.iconst 0, 1, 0, 0, 0, nI 0), (.istore_n 3, 1, 3, 0, 0, 0)] [] (pc2 := 123) (ls2 := [some (.ref 54), none, some (.int v43), some (.int (nI 0))]) (st2 := []) (M2 := mrow (mrow (mrow M 54 r44) 69 r40) 70 r53) (Ps := []) (by decide +kernel) rfl rfl trivial ?_
            refine G.loc (ls2 := [some (.ref 54), none, none, some (.int (nI 0))]) (by simp [subL]) ?_
            obtain ⟨k58, hk⟩ := hk
            refine lp_k_work_54_123 z d (mrow (mrow (mrow M 54 r44) 69 r40) 70 r53) Q (cN 51) (cN_eq 51) (by first | (simp only [mput, mrow_same, mrow_hit, mrow_miss, mrow_sw, idr_eq, ne_eq, Nat.reduceEqDiff, not_false_eq_true, Nat.reduceLT, reduceCtorEq]; exact k58) | exact k58) ?_
            try simp only [mput, mrow_same, mrow_hit, mrow_miss, mrow_sw, idr_eq, ne_eq, Nat.reduceEqDiff, not_false_eq_true, Nat.reduceLT, reduceCtorEq]
            show G z mX12_work (d + 71) 0 0 155 [some (.ref 54), none, none, none] [] (mrow (mrow (mrow (mrow M 54 r44) 69 r40) 70 r53) 73 (k_work_123 r44 (M.1 71) (M.1 73) (cN 51))) Q
            refine G.sl [(.aload_n 0, 1, 0, 0, 0, 0), (.dup, 1, 0, 0, 0, 0), (.getfield 178, 3, 11, 35, 158, 0), (.iconst 1, 1, 0, 0, 0, nI 1), (.iadd, 1, 0, 0, 0, 0), (.putfield 178, 3, 11, 35, 158, 0), (.aload_n 0, 1, 0, 0, 0, 0)] [] (pc2 := 166) (ls2 := [some (.ref 54), none, none, none]) (st2 := [.ref 54]) (M2 := mput (mrow (mrow (mrow (mrow M 54 r44) 69 r40) 70 r53) 73 (k_work_123 r44 (M.1 71) (M.1 73) (cN 51))) 54 35 ((r44 35) + (nI 1))) (Ps := []) (by decide +kernel) rfl rfl trivial ?_
            refine G.mem (M' := mrow (mrow (mrow (mrow M 54 (upd r44 35 ((r44 35) + (nI 1)))) 69 r40) 70 r53) 73 (k_work_123 r44 (M.1 71) (M.1 73) (cN 51))) (by first | rfl | (simp only [mput, mrow_same, mrow_hit, mrow_miss, mrow_sw, idr_eq, ne_eq, Nat.reduceEqDiff, not_false_eq_true, Nat.reduceLT, reduceCtorEq]; done)) ?_
            obtain ⟨k59, hk⟩ := hk
            rcases g60 : k_take (M.1 71) (M.1 72) with ⟨u61, r62⟩
            try simp only [g60] at hk
            have t63 : GM z mX12_take (d + 70) [.ref 54] (mrow (mrow (mrow (mrow M 54 (upd r44 35 ((r44 35) + (nI 1)))) 69 r40) 70 r53) 73 (k_work_123 r44 (M.1 71) (M.1 73) (cN 51))) (fun rs => rs = .inl (none, mrow (mrow (mrow (mrow (mrow M 54 (upd r44 35 ((r44 35) + (nI 1)))) 69 r40) 70 r53) 72 r62) 73 (k_work_123 r44 (M.1 71) (M.1 73) (cN 51)))) := by
              have q9 := c_k_take_54 z (d + 69) (mrow (mrow (mrow (mrow M 54 (upd r44 35 ((r44 35) + (nI 1)))) 69 r40) 70 r53) 73 (k_work_123 r44 (M.1 71) (M.1 73) (cN 51))) k59
              try simp only [mput, mrow_same, mrow_hit, mrow_miss, mrow_sw, idr_eq, ne_eq, Nat.reduceEqDiff, not_false_eq_true, Nat.reduceLT, reduceCtorEq, g60] at q9
              exact q9
            refine G.callV (as := []) (rest := []) (a := 54) oX12_take lk_EvenFindersModel_320 (by decide +kernel) rfl rfl ⟨rfl, rfl⟩ (Nat.le_of_ble_eq_true rfl) rfl ⟨Nat.le_of_ble_eq_true rfl, Nat.le_of_ble_eq_true rfl⟩ t63 (fun v9 N9 h64 => ?_) (fun E9 N9 h64 => by cases h64)
            cases h64
            show G z mX12_work (d + 71) 0 0 169 [some (.ref 54), none, none, none] [] (mrow (mrow (mrow (mrow (mrow M 54 (upd r44 35 ((r44 35) + (nI 1)))) 69 r40) 70 r53) 72 r62) 73 (k_work_123 r44 (M.1 71) (M.1 73) (cN 51))) Q
            refine G.sl [(.aload_n 0, 1, 0, 0, 0, 0), (.iconst 0, 1, 0, 0, 0, nI 0), (.putfield 323, 3, 11, 37, 160, 0), (.aload_n 0, 1, 0, 0, 0, 0), (.iconst 0, 1, 0, 0, 0, nI 0), (.putfield 326, 3, 11, 38, 161, 0), (.aload_n 0, 1, 0, 0, 0, 0), (.iconst 0, 1, 0, 0, 0, nI 0), (.putfield 329, 3, 11, 39, 162, 0), (.aload_n 0, 1, 0, 0, 0, 0), (.iconst 0, 1, 0, 0, 0, nI 0), (.aload_n 0, 1, 0, 0, 0, 0), (.getfield 295, 3, 11, 34, 157, 0)] [] (pc2 := 190) (ls2 := [some (.ref 54), none, none, none]) (st2 := [.int (r44 34), .int (nI 0), .ref 54]) (M2 := mput (mput (mput (mrow (mrow (mrow (mrow (mrow M 54 (upd r44 35 ((r44 35) + (nI 1)))) 69 r40) 70 r53) 72 r62) 73 (k_work_123 r44 (M.1 71) (M.1 73) (cN 51))) 54 37 (nI 0)) 54 38 (nI 0)) 54 39 (nI 0)) (Ps := []) (by decide +kernel) rfl rfl trivial ?_
            refine G.mem (M' := mrow (mrow (mrow (mrow (mrow M 54 (upd (upd (upd (upd r44 35 ((r44 35) + (nI 1))) 37 (nI 0)) 38 (nI 0)) 39 (nI 0))) 69 r40) 70 r53) 72 r62) 73 (k_work_123 r44 (M.1 71) (M.1 73) (cN 51))) (by first | rfl | (simp only [mput, mrow_same, mrow_hit, mrow_miss, mrow_sw, idr_eq, ne_eq, Nat.reduceEqDiff, not_false_eq_true, Nat.reduceLT, reduceCtorEq]; done)) ?_
            obtain ⟨k65, hk⟩ := hk
            rcases g66 : k_goesSteps (upd (upd (upd (upd r44 35 ((r44 35) + (nI 1))) 37 (nI 0)) 38 (nI 0)) 39 (nI 0)) (M.1 60) (M.1 61) (M.1 65) (M.1 66) (M.1 67) (M.1 68) r53 r62 (nI 0) (r44 34) with ⟨u67, r68, r69, r70, r71⟩
            try simp only [g66] at hk
            have t72 : GM z mX12_goesSteps (d + 70) [.ref 54, .int (nI 0), .int (r44 34)] (mrow (mrow (mrow (mrow (mrow M 54 (upd (upd (upd (upd r44 35 ((r44 35) + (nI 1))) 37 (nI 0)) 38 (nI 0)) 39 (nI 0))) 69 r40) 70 r53) 72 r62) 73 (k_work_123 r44 (M.1 71) (M.1 73) (cN 51))) (fun rs => rs = .inl (none, mrow (mrow (mrow (mrow (mrow (mrow (mrow M 54 r68) 67 r69) 68 r70) 69 r40) 70 r53) 72 r71) 73 (k_work_123 r44 (M.1 71) (M.1 73) (cN 51)))) := by
              have q9 := c_k_goesSteps_54 z d (mrow (mrow (mrow (mrow (mrow M 54 (upd (upd (upd (upd r44 35 ((r44 35) + (nI 1))) 37 (nI 0)) 38 (nI 0)) 39 (nI 0))) 69 r40) 70 r53) 72 r62) 73 (k_work_123 r44 (M.1 71) (M.1 73) (cN 51))) (nI 0) (r44 34) k65
              try simp only [mput, mrow_same, mrow_hit, mrow_miss, mrow_sw, idr_eq, ne_eq, Nat.reduceEqDiff, not_false_eq_true, Nat.reduceLT, reduceCtorEq, g66] at q9
              exact q9
            refine G.callV (as := [.int (nI 0), .int (r44 34)]) (rest := []) (a := 54) oX12_goesSteps lk_EvenFindersModel_332 (by decide +kernel) rfl rfl ⟨rfl, rfl⟩ (Nat.le_of_ble_eq_true rfl) rfl ⟨Nat.le_of_ble_eq_true rfl, Nat.le_of_ble_eq_true rfl⟩ t72 (fun v9 N9 h73 => ?_) (fun E9 N9 h73 => by cases h73)
            cases h73
            show G z mX12_work (d + 71) 0 0 193 [some (.ref 54), none, none, none] [] (mrow (mrow (mrow (mrow (mrow (mrow (mrow M 54 r68) 67 r69) 68 r70) 69 r40) 70 r53) 72 r71) 73 (k_work_123 r44 (M.1 71) (M.1 73) (cN 51))) Q
            refine G.sl [(.aload_n 0, 1, 0, 0, 0, 0), (.aload_n 0, 1, 0, 0, 0, 0), (.getfield 68, 3, 11, 41, 164, 0), (.aload_n 0, 1, 0, 0, 0, 0), (.getfield 65, 3, 11, 40, 163, 0), (.bipush 51, 2, 0, 0, 0, nI 51)] [] (pc2 := 204) (ls2 := [some (.ref 54), none, none, none]) (st2 := [.int (nI 51), .ref 71, .ref 72, .ref 54]) (M2 := mrow (mrow (mrow (mrow (mrow (mrow (mrow M 54 r68) 67 r69) 68 r70) 69 r40) 70 r53) 72 r71) 73 (k_work_123 r44 (M.1 71) (M.1 73) (cN 51))) (Ps := []) (by decide +kernel) rfl rfl trivial ?_
            obtain ⟨k74, hk⟩ := hk
            refine G.eq (st' := [.int (nI (cN 51)), .ref 71, .ref 72, .ref 54]) ?_ rfl (by rw [← (show nI 51 = nI (cN 51) from (by rw [cN_eq]))]) rfl
            rcases g75 : k_copies_L51_L51 r71 (M.1 71) (cN 51) with ⟨u76, r77⟩
            have t78 : GM z mX12_copies (d + 70) [.ref 54, .ref 72, .ref 71, .int (nI (cN 51))] (mrow (mrow (mrow (mrow (mrow (mrow (mrow M 54 r68) 67 r69) 68 r70) 69 r40) 70 r53) 72 r71) 73 (k_work_123 r44 (M.1 71) (M.1 73) (cN 51))) (fun rs => rs = .inl (none, mrow (mrow (mrow (mrow (mrow (mrow (mrow (mrow M 54 r68) 67 r69) 68 r70) 69 r40) 70 r53) 71 r77) 72 r71) 73 (k_work_123 r44 (M.1 71) (M.1 73) (cN 51)))) := by
              have q9 := c_k_copies_L51_L51_54_72_71 z (d + 70) (mrow (mrow (mrow (mrow (mrow (mrow (mrow M 54 r68) 67 r69) 68 r70) 69 r40) 70 r53) 72 r71) 73 (k_work_123 r44 (M.1 71) (M.1 73) (cN 51))) (cN 51) (by rw [cN_eq]; omega) k74
              try simp only [mput, mrow_same, mrow_hit, mrow_miss, mrow_sw, idr_eq, ne_eq, Nat.reduceEqDiff, not_false_eq_true, Nat.reduceLT, reduceCtorEq, g75] at q9
              exact q9
            refine G.callV (as := [.ref 72, .ref 71, .int (nI (cN 51))]) (rest := []) (a := 54) oX12_copies lk_EvenFindersModel_168 (by decide +kernel) rfl rfl ⟨rfl, rfl⟩ (Nat.le_of_ble_eq_true rfl) rfl ⟨Nat.le_of_ble_eq_true rfl, Nat.le_of_ble_eq_true rfl⟩ t78 (fun v9 N9 h79 => ?_) (fun E9 N9 h79 => by cases h79)
            cases h79
            show G z mX12_work (d + 71) 0 0 207 [some (.ref 54), none, none, none] [] (mrow (mrow (mrow (mrow (mrow (mrow (mrow (mrow M 54 r68) 67 r69) 68 r70) 69 r40) 70 r53) 71 r77) 72 r71) 73 (k_work_123 r44 (M.1 71) (M.1 73) (cN 51))) Q
            refine G.sl [(.aload_n 0, 1, 0, 0, 0, 0), (.aload_n 0, 1, 0, 0, 0, 0), (.getfield 329, 3, 11, 39, 162, 0), (.putfield 184, 3, 11, 36, 159, 0), (.aload_n 0, 1, 0, 0, 0, 0), (.getfield 326, 3, 11, 38, 161, 0)] [] (pc2 := 219) (ls2 := [some (.ref 54), none, none, none]) (st2 := [.int (r68 38)]) (M2 := mput (mrow (mrow (mrow (mrow (mrow (mrow (mrow (mrow M 54 r68) 67 r69) 68 r70) 69 r40) 70 r53) 71 r77) 72 r71) 73 (k_work_123 r44 (M.1 71) (M.1 73) (cN 51))) 54 36 (r68 39)) (Ps := []) (by decide +kernel) rfl rfl trivial ?_
            refine G.mem (M' := mrow (mrow (mrow (mrow (mrow (mrow (mrow (mrow M 54 (upd r68 36 (r68 39))) 67 r69) 68 r70) 69 r40) 70 r53) 71 r77) 72 r71) 73 (k_work_123 r44 (M.1 71) (M.1 73) (cN 51))) (by first | rfl | (simp only [mput, mrow_same, mrow_hit, mrow_miss, mrow_sw, idr_eq, ne_eq, Nat.reduceEqDiff, not_false_eq_true, Nat.reduceLT, reduceCtorEq]; done)) ?_
            refine G.mem (M' := mrow (mrow (mrow (mrow (mrow (mrow (mrow (mrow (mrow M 54 (upd r68 36 (r68 39))) 55 (M.1 55)) 67 r69) 68 r70) 69 r40) 70 r53) 71 r77) 72 r71) 73 (k_work_123 r44 (M.1 71) (M.1 73) (cN 51))) (((mrow_id (N := mrow (mrow (mrow (mrow (mrow (mrow (mrow (mrow M 54 (upd r68 36 (r68 39))) 67 r69) 68 r70) 69 r40) 70 r53) 71 r77) 72 r71) 73 (k_work_123 r44 (M.1 71) (M.1 73) (cN 51))) (c := 55) (f := M.1 55) (by first | rfl | (simp only [mput, mrow_same, mrow_hit, mrow_miss, mrow_sw, idr_eq, ne_eq, Nat.reduceEqDiff, not_false_eq_true, Nat.reduceLT, reduceCtorEq]; done))).symm).trans (by first | rfl | (simp only [mput, mrow_same, mrow_hit, mrow_miss, mrow_sw, idr_eq, ne_eq, Nat.reduceEqDiff, not_false_eq_true, Nat.reduceLT, reduceCtorEq]; done))) ?_
            exact G.reti (by decide +kernel) rfl rfl (Nat.le_of_ble_eq_true rfl) (Nat.le_of_ble_eq_true rfl) ((by rw [hQ]; simp only [k_work, if_neg c1, if_neg c4, if_neg c7, g13, if_neg c18, g38, g42, if_pos c47, g51, g60, g66, g75, mrow_self]))
          · skip
            rw [if_neg c47] at hk
            refine G.sl [(.iload_n 2, 1, 2, 0, 0, 0)] [] (pc2 := 104) (ls2 := [some (.ref 54), none, some (.int v43), none]) (st2 := [.int v43]) (M2 := mrow (mrow M 54 r44) 69 r40) (Ps := []) (by decide +kernel) rfl rfl trivial ?_
            refine G.mem (M' := mrow (mrow (mrow (mrow (mrow (mrow (mrow (mrow (mrow M 54 r44) 55 (M.1 55)) 67 (M.1 67)) 68 (M.1 68)) 69 r40) 70 (M.1 70)) 71 (M.1 71)) 72 (M.1 72)) 73 (M.1 73)) (((((((((mrow_id (N := mrow (mrow M 54 r44) 69 r40) (c := 55) (f := M.1 55) (by first | rfl | (simp only [mput, mrow_same, mrow_hit, mrow_miss, mrow_sw, idr_eq, ne_eq, Nat.reduceEqDiff, not_false_eq_true, Nat.reduceLT, reduceCtorEq]; done))).symm).trans (mrow_id (N := mrow (mrow (mrow M 54 r44) 69 r40) 55 (M.1 55)) (c := 67) (f := M.1 67) (by first | rfl | (simp only [mput, mrow_same, mrow_hit, mrow_miss, mrow_sw, idr_eq, ne_eq, Nat.reduceEqDiff, not_false_eq_true, Nat.reduceLT, reduceCtorEq]; done))).symm).trans (mrow_id (N := mrow (mrow (mrow (mrow M 54 r44) 69 r40) 55 (M.1 55)) 67 (M.1 67)) (c := 68) (f := M.1 68) (by first | rfl | (simp only [mput, mrow_same, mrow_hit, mrow_miss, mrow_sw, idr_eq, ne_eq, Nat.reduceEqDiff, not_false_eq_true, Nat.reduceLT, reduceCtorEq]; done))).symm).trans (mrow_id (N := mrow (mrow (mrow (mrow (mrow M 54 r44) 69 r40) 55 (M.1 55)) 67 (M.1 67)) 68 (M.1 68)) (c := 70) (f := M.1 70) (by first | rfl | (simp only [mput, mrow_same, mrow_hit, mrow_miss, mrow_sw, idr_eq, ne_eq, Nat.reduceEqDiff, not_false_eq_true, Nat.reduceLT, reduceCtorEq]; done))).symm).trans (mrow_id (N := mrow (mrow (mrow (mrow (mrow (mrow M 54 r44) 69 r40) 55 (M.1 55)) 67 (M.1 67)) 68 (M.1 68)) 70 (M.1 70)) (c := 71) (f := M.1 71) (by first | rfl | (simp only [mput, mrow_same, mrow_hit, mrow_miss, mrow_sw, idr_eq, ne_eq, Nat.reduceEqDiff, not_false_eq_true, Nat.reduceLT, reduceCtorEq]; done))).symm).trans (mrow_id (N := mrow (mrow (mrow (mrow (mrow (mrow (mrow M 54 r44) 69 r40) 55 (M.1 55)) 67 (M.1 67)) 68 (M.1 68)) 70 (M.1 70)) 71 (M.1 71)) (c := 72) (f := M.1 72) (by first | rfl | (simp only [mput, mrow_same, mrow_hit, mrow_miss, mrow_sw, idr_eq, ne_eq, Nat.reduceEqDiff, not_false_eq_true, Nat.reduceLT, reduceCtorEq]; done))).symm).trans (mrow_id (N := mrow (mrow (mrow (mrow (mrow (mrow (mrow (mrow M 54 r44) 69 r40) 55 (M.1 55)) 67 (M.1 67)) 68 (M.1 68)) 70 (M.1 70)) 71 (M.1 71)) 72 (M.1 72)) (c := 73) (f := M.1 73) (by first | rfl | (simp only [mput, mrow_same, mrow_hit, mrow_miss, mrow_sw, idr_eq, ne_eq, Nat.reduceEqDiff, not_false_eq_true, Nat.reduceLT, reduceCtorEq]; done))).symm).trans (by first | rfl | (simp only [mput, mrow_same, mrow_hit, mrow_miss, mrow_sw, idr_eq, ne_eq, Nat.reduceEqDiff, not_false_eq_true, Nat.reduceLT, reduceCtorEq]; done))) ?_
            exact G.reti (by decide +kernel) rfl rfl (Nat.le_of_ble_eq_true rfl) (Nat.le_of_ble_eq_true rfl) ((by rw [hQ]; simp only [k_work, if_neg c1, if_neg c4, if_neg c7, g13, if_neg c18, g38, g42, if_neg c47, mrow_self]))
        · skip
          rw [if_pos c18] at hk
          refine G.sl [(.aload_n 0, 1, 0, 0, 0, 0), (.iconst 0, 1, 0, 0, 0, nI 0)] [] (pc2 := 56) (ls2 := [some (.ref 54), some (.int x1), none, none]) (st2 := [.int (nI 0), .ref 54]) (M2 := mrow M 54 r15) (Ps := []) (by decide +kernel) rfl rfl trivial ?_
          rcases g81 : k_result r15 (nI 0) with ⟨v82, r83⟩
          have t84 : GM z mX12_result (d + 70) [.ref 54, .int (nI 0)] (mrow M 54 r15) (fun rs => rs = .inl (some (.int v82), mrow M 54 r83)) := by
            have q9 := c_k_result_54 z (d + 69) (mrow M 54 r15) (nI 0)
            try simp only [mput, mrow_same, mrow_hit, mrow_miss, mrow_sw, idr_eq, ne_eq, Nat.reduceEqDiff, not_false_eq_true, Nat.reduceLT, reduceCtorEq, g81] at q9
            exact q9
          refine G.callV (as := [.int (nI 0)]) (rest := []) (a := 54) oX12_result lk_EvenFindersModel_242 (by decide +kernel) rfl rfl ⟨rfl, rfl⟩ (Nat.le_of_ble_eq_true rfl) rfl ⟨Nat.le_of_ble_eq_true rfl, Nat.le_of_ble_eq_true rfl⟩ t84 (fun v9 N9 h85 => ?_) (fun E9 N9 h85 => by cases h85)
          cases h85
          show G z mX12_work (d + 71) 0 0 59 [some (.ref 54), some (.int x1), none, none] [.int v82] (mrow M 54 r83) Q
          refine G.sl [(.pop, 1, 0, 0, 0, 0), (.bipush (-20), 2, 0, 0, 0, (-20))] [] (pc2 := 62) (ls2 := [some (.ref 54), some (.int x1), none, none]) (st2 := [.int ((-20))]) (M2 := mrow M 54 r83) (Ps := []) (by decide +kernel) rfl rfl trivial ?_
          refine G.mem (M' := mrow (mrow (mrow (mrow (mrow (mrow (mrow (mrow (mrow M 54 r83) 55 (M.1 55)) 67 (M.1 67)) 68 (M.1 68)) 69 (M.1 69)) 70 (M.1 70)) 71 (M.1 71)) 72 (M.1 72)) 73 (M.1 73)) ((((((((((mrow_id (N := mrow M 54 r83) (c := 55) (f := M.1 55) (by first | rfl | (simp only [mput, mrow_same, mrow_hit, mrow_miss, mrow_sw, idr_eq, ne_eq, Nat.reduceEqDiff, not_false_eq_true, Nat.reduceLT, reduceCtorEq]; done))).symm).trans (mrow_id (N := mrow (mrow M 54 r83) 55 (M.1 55)) (c := 67) (f := M.1 67) (by first | rfl | (simp only [mput, mrow_same, mrow_hit, mrow_miss, mrow_sw, idr_eq, ne_eq, Nat.reduceEqDiff, not_false_eq_true, Nat.reduceLT, reduceCtorEq]; done))).symm).trans (mrow_id (N := mrow (mrow (mrow M 54 r83) 55 (M.1 55)) 67 (M.1 67)) (c := 68) (f := M.1 68) (by first | rfl | (simp only [mput, mrow_same, mrow_hit, mrow_miss, mrow_sw, idr_eq, ne_eq, Nat.reduceEqDiff, not_false_eq_true, Nat.reduceLT, reduceCtorEq]; done))).symm).trans (mrow_id (N := mrow (mrow (mrow (mrow M 54 r83) 55 (M.1 55)) 67 (M.1 67)) 68 (M.1 68)) (c := 69) (f := M.1 69) (by first | rfl | (simp only [mput, mrow_same, mrow_hit, mrow_miss, mrow_sw, idr_eq, ne_eq, Nat.reduceEqDiff, not_false_eq_true, Nat.reduceLT, reduceCtorEq]; done))).symm).trans (mrow_id (N := mrow (mrow (mrow (mrow (mrow M 54 r83) 55 (M.1 55)) 67 (M.1 67)) 68 (M.1 68)) 69 (M.1 69)) (c := 70) (f := M.1 70) (by first | rfl | (simp only [mput, mrow_same, mrow_hit, mrow_miss, mrow_sw, idr_eq, ne_eq, Nat.reduceEqDiff, not_false_eq_true, Nat.reduceLT, reduceCtorEq]; done))).symm).trans (mrow_id (N := mrow (mrow (mrow (mrow (mrow (mrow M 54 r83) 55 (M.1 55)) 67 (M.1 67)) 68 (M.1 68)) 69 (M.1 69)) 70 (M.1 70)) (c := 71) (f := M.1 71) (by first | rfl | (simp only [mput, mrow_same, mrow_hit, mrow_miss, mrow_sw, idr_eq, ne_eq, Nat.reduceEqDiff, not_false_eq_true, Nat.reduceLT, reduceCtorEq]; done))).symm).trans (mrow_id (N := mrow (mrow (mrow (mrow (mrow (mrow (mrow M 54 r83) 55 (M.1 55)) 67 (M.1 67)) 68 (M.1 68)) 69 (M.1 69)) 70 (M.1 70)) 71 (M.1 71)) (c := 72) (f := M.1 72) (by first | rfl | (simp only [mput, mrow_same, mrow_hit, mrow_miss, mrow_sw, idr_eq, ne_eq, Nat.reduceEqDiff, not_false_eq_true, Nat.reduceLT, reduceCtorEq]; done))).symm).trans (mrow_id (N := mrow (mrow (mrow (mrow (mrow (mrow (mrow (mrow M 54 r83) 55 (M.1 55)) 67 (M.1 67)) 68 (M.1 68)) 69 (M.1 69)) 70 (M.1 70)) 71 (M.1 71)) 72 (M.1 72)) (c := 73) (f := M.1 73) (by first | rfl | (simp only [mput, mrow_same, mrow_hit, mrow_miss, mrow_sw, idr_eq, ne_eq, Nat.reduceEqDiff, not_false_eq_true, Nat.reduceLT, reduceCtorEq]; done))).symm).trans (by first | rfl | (simp only [mput, mrow_same, mrow_hit, mrow_miss, mrow_sw, idr_eq, ne_eq, Nat.reduceEqDiff, not_false_eq_true, Nat.reduceLT, reduceCtorEq]; done))) ?_
          exact G.reti (by decide +kernel) rfl rfl (Nat.le_of_ble_eq_true rfl) (Nat.le_of_ble_eq_true rfl) ((by rw [hQ]; simp only [k_work, if_neg c1, if_neg c4, if_neg c7, g13, if_pos c18, g81, mrow_self]))
set_option maxHeartbeats 4000000 in
set_option maxRecDepth 3000 in
theorem c_e_need_0 (z : Zp) (d : Nat) (M : Mem) (x1 : Int32) (x2 : Int32) : GM z mX11_need (d + 6) [.ref 0, .int x1, .int x2] M (fun rs => rs = e_need M x1 x2) := by
  refine GM.of oX11_need.1 (Nat.le_of_ble_eq_true rfl) ?_
  show G z mX11_need (d + 6) 0 0 0 [some (.ref 0), some (.int x1), some (.int x2)] [] M _
  obtain ⟨Q, hQ⟩ : ∃ Q : Rs → Prop, Q = (fun rs => rs = e_need M x1 x2) := ⟨_, rfl⟩
  rw [← hQ]
  refine G.sl [(.iload_n 1, 1, 1, 0, 0, 0)] [] (pc2 := 1) (ls2 := [some (.ref 0), some (.int x1), some (.int x2)]) (st2 := [.int x1]) (M2 := M) (Ps := []) (by decide +kernel) rfl rfl trivial ?_
  refine G.if_lt (off := (8)) (tgt := 9) (by decide +kernel) rfl (fun c1 => ?_) (fun c1 => ?_)
  · skip
    refine G.sl [(.aload_n 0, 1, 0, 0, 0, 0), (.dup, 1, 0, 0, 0, 0), (.getfield 368, 3, 10, 15, 121, 0), (.iconst 1, 1, 0, 0, 0, nI 1), (.iadd, 1, 0, 0, 0, 0), (.putfield 368, 3, 10, 15, 121, 0)] [] (pc2 := 19) (ls2 := [some (.ref 0), some (.int x1), some (.int x2)]) (st2 := []) (M2 := mput M 0 15 ((M.1 0 15) + (nI 1))) (Ps := []) (by decide +kernel) rfl rfl trivial ?_
    refine G.mem (M' := mrow M 0 (upd (M.1 0) 15 ((M.1 0 15) + (nI 1)))) (by first | rfl | (simp only [mput, mrow_same, mrow_hit, mrow_miss, mrow_sw, idr_eq, ne_eq, Nat.reduceEqDiff, not_false_eq_true, Nat.reduceLT, reduceCtorEq]; done)) ?_
    exact G.throwN (ik := 383) (is := 385) (ic := 387) (q := 4) nse_k nse_i (by decide) rfl rfl nse_at nse_g (by decide +kernel) (by decide +kernel) (by decide +kernel) (by decide +kernel) (by decide +kernel) rfl (by omega) (Nat.le_of_ble_eq_true rfl) (Nat.le_of_ble_eq_true rfl) (by rw [hQ]; simp only [e_need, if_pos c1]; try rfl)
  · skip
    refine G.sl [(.iload_n 1, 1, 1, 0, 0, 0), (.iload_n 2, 1, 2, 0, 0, 0)] [] (pc2 := 6) (ls2 := [some (.ref 0), some (.int x1), some (.int x2)]) (st2 := [.int x2, .int x1]) (M2 := M) (Ps := []) (by decide +kernel) rfl rfl trivial ?_
    refine G.ic_lt (off := (24)) (tgt := 30) (by decide +kernel) rfl (fun c2 => ?_) (fun c2 => ?_)
    · skip
      exact G.retv (by decide +kernel) rfl (Nat.le_of_ble_eq_true rfl) (Nat.le_of_ble_eq_true rfl) ((by rw [hQ]; simp only [e_need, if_neg c1, if_pos c2, mrow_self]))
    · skip
      refine G.sl [(.aload_n 0, 1, 0, 0, 0, 0), (.dup, 1, 0, 0, 0, 0), (.getfield 368, 3, 10, 15, 121, 0), (.iconst 1, 1, 0, 0, 0, nI 1), (.iadd, 1, 0, 0, 0, 0), (.putfield 368, 3, 10, 15, 121, 0)] [] (pc2 := 19) (ls2 := [some (.ref 0), some (.int x1), some (.int x2)]) (st2 := []) (M2 := mput M 0 15 ((M.1 0 15) + (nI 1))) (Ps := []) (by decide +kernel) rfl rfl trivial ?_
      refine G.mem (M' := mrow M 0 (upd (M.1 0) 15 ((M.1 0 15) + (nI 1)))) (by first | rfl | (simp only [mput, mrow_same, mrow_hit, mrow_miss, mrow_sw, idr_eq, ne_eq, Nat.reduceEqDiff, not_false_eq_true, Nat.reduceLT, reduceCtorEq]; done)) ?_
      exact G.throwN (ik := 383) (is := 385) (ic := 387) (q := 4) nse_k nse_i (by decide) rfl rfl nse_at nse_g (by decide +kernel) (by decide +kernel) (by decide +kernel) (by decide +kernel) (by decide +kernel) rfl (by omega) (Nat.le_of_ble_eq_true rfl) (Nat.le_of_ble_eq_true rfl) (by rw [hQ]; simp only [e_need, if_neg c1, if_neg c2]; try rfl)
set_option maxHeartbeats 4000000 in
set_option maxRecDepth 3000 in
theorem c_e_needWithin_0 (z : Zp) (d : Nat) (M : Mem) (x1 : Int32) (x2 : Int32) (x3 : Int32) : GM z mX11_needWithin (d + 6) [.ref 0, .int x1, .int x2, .int x3] M (fun rs => rs = e_needWithin M x1 x2 x3) := by
  refine GM.of oX11_needWithin.1 (Nat.le_of_ble_eq_true rfl) ?_
  show G z mX11_needWithin (d + 6) 0 0 0 [some (.ref 0), some (.int x1), some (.int x2), some (.int x3)] [] M _
  obtain ⟨Q, hQ⟩ : ∃ Q : Rs → Prop, Q = (fun rs => rs = e_needWithin M x1 x2 x3) := ⟨_, rfl⟩
  rw [← hQ]
  refine G.sl [(.iload_n 1, 1, 1, 0, 0, 0), (.iload_n 2, 1, 2, 0, 0, 0)] [] (pc2 := 2) (ls2 := [some (.ref 0), some (.int x1), some (.int x2), some (.int x3)]) (st2 := [.int x2, .int x1]) (M2 := M) (Ps := []) (by decide +kernel) rfl rfl trivial ?_
  refine G.ic_lt (off := (8)) (tgt := 10) (by decide +kernel) rfl (fun c1 => ?_) (fun c1 => ?_)
  · skip
    refine G.sl [(.aload_n 0, 1, 0, 0, 0, 0), (.dup, 1, 0, 0, 0, 0), (.getfield 371, 3, 10, 16, 122, 0), (.iconst 1, 1, 0, 0, 0, nI 1), (.iadd, 1, 0, 0, 0, 0), (.putfield 371, 3, 10, 16, 122, 0)] [] (pc2 := 20) (ls2 := [some (.ref 0), some (.int x1), some (.int x2), some (.int x3)]) (st2 := []) (M2 := mput M 0 16 ((M.1 0 16) + (nI 1))) (Ps := []) (by decide +kernel) rfl rfl trivial ?_
    refine G.mem (M' := mrow M 0 (upd (M.1 0) 16 ((M.1 0 16) + (nI 1)))) (by first | rfl | (simp only [mput, mrow_same, mrow_hit, mrow_miss, mrow_sw, idr_eq, ne_eq, Nat.reduceEqDiff, not_false_eq_true, Nat.reduceLT, reduceCtorEq]; done)) ?_
    exact G.throwSW (cls := "java/lang/IllegalArgumentException") (names := ["java/lang/RuntimeException", "java/lang/Exception"]) (ik := 376) (is := 378) (ic := 380) (q := 0) (by decide +kernel) (by decide +kernel) iae_k iae_i (by decide) rfl rfl iae_at iae_g (by decide +kernel) (by decide +kernel) (by decide +kernel) (by decide +kernel) (by decide +kernel) rfl (by simp only [List.length_cons, List.length_nil]; omega) (Nat.le_of_ble_eq_true rfl) (Nat.le_of_ble_eq_true rfl) (by rw [hQ]; simp only [e_needWithin, if_pos c1]; try rfl)
  · skip
    refine G.sl [(.iload_n 1, 1, 1, 0, 0, 0), (.iload_n 3, 1, 3, 0, 0, 0)] [] (pc2 := 7) (ls2 := [some (.ref 0), some (.int x1), some (.int x2), some (.int x3)]) (st2 := [.int x3, .int x1]) (M2 := M) (Ps := []) (by decide +kernel) rfl rfl trivial ?_
    refine G.ic_le (off := (24)) (tgt := 31) (by decide +kernel) rfl (fun c2 => ?_) (fun c2 => ?_)
    · skip
      exact G.retv (by decide +kernel) rfl (Nat.le_of_ble_eq_true rfl) (Nat.le_of_ble_eq_true rfl) ((by rw [hQ]; simp only [e_needWithin, if_neg c1, if_pos c2, mrow_self]))
    · skip
      refine G.sl [(.aload_n 0, 1, 0, 0, 0, 0), (.dup, 1, 0, 0, 0, 0), (.getfield 371, 3, 10, 16, 122, 0), (.iconst 1, 1, 0, 0, 0, nI 1), (.iadd, 1, 0, 0, 0, 0), (.putfield 371, 3, 10, 16, 122, 0)] [] (pc2 := 20) (ls2 := [some (.ref 0), some (.int x1), some (.int x2), some (.int x3)]) (st2 := []) (M2 := mput M 0 16 ((M.1 0 16) + (nI 1))) (Ps := []) (by decide +kernel) rfl rfl trivial ?_
      refine G.mem (M' := mrow M 0 (upd (M.1 0) 16 ((M.1 0 16) + (nI 1)))) (by first | rfl | (simp only [mput, mrow_same, mrow_hit, mrow_miss, mrow_sw, idr_eq, ne_eq, Nat.reduceEqDiff, not_false_eq_true, Nat.reduceLT, reduceCtorEq]; done)) ?_
      exact G.throwSW (cls := "java/lang/IllegalArgumentException") (names := ["java/lang/RuntimeException", "java/lang/Exception"]) (ik := 376) (is := 378) (ic := 380) (q := 0) (by decide +kernel) (by decide +kernel) iae_k iae_i (by decide) rfl rfl iae_at iae_g (by decide +kernel) (by decide +kernel) (by decide +kernel) (by decide +kernel) (by decide +kernel) rfl (by simp only [List.length_cons, List.length_nil]; omega) (Nat.le_of_ble_eq_true rfl) (Nat.le_of_ble_eq_true rfl) (by rw [hQ]; simp only [e_needWithin, if_neg c1, if_neg c2]; try rfl)
