set_option maxHeartbeats 4000000 in
set_option maxRecDepth 3000 in
theorem lp_k_meet_54_53 (z : Zp) (d : Nat) (M : Mem) (Q : Rs → Prop) (x1 : Int32) (x2 : Int32) (x3 : Int32) (n4 : Nat) (nf : Nat) (hnf : nf ≤ 6) (cf : M.1 54 23 = nI nf) (b4 : n4 < 8) (hk : ∀ i6, i6 < nf → k_meet_53_ok (M.1 71) (M.1 76) x1 x2 x3 n4 i6) (hX : G z mX12_meet (d + 1) 0 0 94 [some (.ref 54), some (.int x1), some (.int x2), some (.int x3), some (.int (nI n4)), some (.int (k_meet_53 (M.1 71) (M.1 76) x1 x2 x3 n4 nf)), none] [] M Q) : G z mX12_meet (d + 1) 0 0 53 [some (.ref 54), some (.int x1), some (.int x2), some (.int x3), some (.int (nI n4)), some (.int (nI 0)), some (.int (nI 0))] [] M Q := by
  refine down (n := nf) (P := fun i6 => G z mX12_meet (d + 1) 0 0 53 [some (.ref 54), some (.int x1), some (.int x2), some (.int x3), some (.int (nI n4)), some (.int (k_meet_53 (M.1 71) (M.1 76) x1 x2 x3 n4 i6)), some (.int (nI i6))] [] M Q) ?_ ?_ 0 (Nat.zero_le _)
  · skip
    refine G.sl [(.iload 6, 2, 6, 0, 0, 0), (.aload_n 0, 1, 0, 0, 0, 0), (.getfield 165, 3, 11, 23, 146, 0)] [] (pc2 := 59) (ls2 := [some (.ref 54), some (.int x1), some (.int x2), some (.int x3), some (.int (nI n4)), some (.int (k_meet_53 (M.1 71) (M.1 76) x1 x2 x3 n4 nf)), some (.int (nI nf))]) (st2 := [.int (M.1 54 23), .int (nI nf)]) (M2 := M) (Ps := []) (by decide +kernel) rfl rfl trivial ?_
    rw [cf]
    refine G.ic_ge (off := (35)) (tgt := 94) (by decide +kernel) rfl (fun _ => ?_) (fun h9 => absurd (nI_le (by omega) (by omega)) h9)
    refine G.loc (ls2 := [some (.ref 54), some (.int x1), some (.int x2), some (.int x3), some (.int (nI n4)), some (.int (k_meet_53 (M.1 71) (M.1 76) x1 x2 x3 n4 nf)), none]) (by simp [subL]) ?_
    exact hX
  · skip
    intro i6 hi ih
    have hk := hk i6 hi
    simp only [k_meet_53_ok] at hk
    show G z mX12_meet (d + 1) 0 0 53 [some (.ref 54), some (.int x1), some (.int x2), some (.int x3), some (.int (nI n4)), some (.int (k_meet_53 (M.1 71) (M.1 76) x1 x2 x3 n4 i6)), some (.int (nI i6))] [] M Q
    refine G.sl [(.iload 6, 2, 6, 0, 0, 0), (.aload_n 0, 1, 0, 0, 0, 0), (.getfield 165, 3, 11, 23, 146, 0)] [] (pc2 := 59) (ls2 := [some (.ref 54), some (.int x1), some (.int x2), some (.int x3), some (.int (nI n4)), some (.int (k_meet_53 (M.1 71) (M.1 76) x1 x2 x3 n4 i6)), some (.int (nI i6))]) (st2 := [.int (M.1 54 23), .int (nI i6)]) (M2 := M) (Ps := []) (by decide +kernel) rfl rfl trivial ?_
    rw [cf]
    refine G.ic_ge (off := (35)) (tgt := 94) (by decide +kernel) rfl (fun h9 => absurd h9 (nI_ge (by omega) (by omega))) (fun _ => ?_)
    obtain ⟨k13, k14, hk⟩ := hk
    refine G.sl [(.iload 5, 2, 5, 0, 0, 0), (.aload_n 0, 1, 0, 0, 0, 0), (.getfield 80, 3, 11, 46, 169, 0), (.bipush 8, 2, 0, 0, 0, nI 8), (.aload_n 0, 1, 0, 0, 0, 0), (.getfield 65, 3, 11, 40, 163, 0), (.bipush 20, 2, 0, 0, 0, nI 20), (.iload 6, 2, 6, 0, 0, 0), (.iadd, 1, 0, 0, 0, 0), (.iaload, 1, 0, 0, 0, 0), (.imul, 1, 0, 0, 0, 0), (.iload 4, 2, 4, 0, 0, 0), (.iadd, 1, 0, 0, 0, 0), (.iaload, 1, 0, 0, 0, 0), (.iadd, 1, 0, 0, 0, 0), (.istore 5, 2, 5, 0, 0, 0), (.iinc 6 1, 3, 6, 0, 0, nI 1), (.goto (-38), 3, 53, 0, 0, 0)] [20 + i6, (8 * (ix (M.1 71 (20 + i6)))) + n4] (pc2 := 53) (ls2 := [some (.ref 54), some (.int x1), some (.int x2), some (.int x3), some (.int (nI n4)), some (.int ((k_meet_53 (M.1 71) (M.1 76) x1 x2 x3 n4 i6) + (M.1 76 ((8 * (ix (M.1 71 (20 + i6)))) + n4)))), some (.int ((nI i6) + nI 1))]) (st2 := []) (M2 := M) (Ps := [((nI 20) + (nI i6)) = nI (20 + i6) ∧ (20 + i6) < 51, (((nI 8) * (M.1 71 (20 + i6))) + (nI n4)) = nI ((8 * (ix (M.1 71 (20 + i6)))) + n4) ∧ ((8 * (ix (M.1 71 (20 + i6)))) + n4) < 64]) (by decide +kernel) rfl rfl ⟨⟨(nI_add _ _), (by omega)⟩, ⟨(nAdd (nMul rfl (ixE k13)) rfl), k14⟩, trivial⟩ ?_
    rw [nI_add i6 1]
    simp only [k_meet_53] at ih
    exact ih
set_option maxHeartbeats 4000000 in
set_option maxRecDepth 3000 in
theorem lp_k_meet_54_31 (z : Zp) (d : Nat) (M : Mem) (Q : Rs → Prop) (x1 : Int32) (np : Nat) (hnp : np ≤ 8) (cp : M.1 54 20 = nI np) (nf : Nat) (hnf : nf ≤ 6) (cf : M.1 54 23 = nI nf) : ∀ (k0 : Nat) (i4 : Nat) (s2 : Int32) (s3 : Int32), i4 + k0 = np → k_meet_31_ok (M.1 71) (M.1 76) nf x1 k0 i4 s2 s3 → (match k_meet_31 (M.1 71) (M.1 76) nf x1 k0 i4 s2 s3 with | (s2', s3') => G z mX12_meet (d + 1) 0 0 115 [none, some (.int x1), some (.int (s2')), some (.int (s3')), none, none, none] [] M Q) → G z mX12_meet (d + 1) 0 0 31 [some (.ref 54), some (.int x1), some (.int s2), some (.int s3), some (.int (nI i4)), none, none] [] M Q := by
  intro k0
  induction k0 with
  | zero =>
      intro i4 s2 s3 hn hk hX
      refine G.sl [(.iload 4, 2, 4, 0, 0, 0), (.aload_n 0, 1, 0, 0, 0, 0), (.getfield 156, 3, 11, 20, 143, 0)] [] (pc2 := 37) (ls2 := [some (.ref 54), some (.int x1), some (.int s2), some (.int s3), some (.int (nI i4)), none, none]) (st2 := [.int (M.1 54 20), .int (nI i4)]) (M2 := M) (Ps := []) (by decide +kernel) rfl rfl trivial ?_
      rw [cp]
      refine G.ic_ge (off := (78)) (tgt := 115) (by decide +kernel) rfl (fun _ => ?_) (fun h9 => absurd (nI_le (by omega) (by omega)) h9)
      refine G.loc (ls2 := [none, some (.int x1), some (.int s2), some (.int s3), none, none, none]) (by simp [subL]) ?_
      simp only [k_meet_31] at hX
      exact hX
  | succ k0 ih =>
      intro i4 s2 s3 hn hk hX
      simp only [k_meet_31_ok] at hk
      refine G.sl [(.iload 4, 2, 4, 0, 0, 0), (.aload_n 0, 1, 0, 0, 0, 0), (.getfield 156, 3, 11, 20, 143, 0)] [] (pc2 := 37) (ls2 := [some (.ref 54), some (.int x1), some (.int s2), some (.int s3), some (.int (nI i4)), none, none]) (st2 := [.int (M.1 54 20), .int (nI i4)]) (M2 := M) (Ps := []) (by decide +kernel) rfl rfl trivial ?_
      rw [cp]
      refine G.ic_ge (off := (78)) (tgt := 115) (by decide +kernel) rfl (fun h9 => absurd h9 (nI_ge (by omega) (by omega))) (fun _ => ?_)
      refine G.sl [(.aload_n 0, 1, 0, 0, 0, 0), (.getfield 165, 3, 11, 23, 146, 0)] [] (pc2 := 44) (ls2 := [some (.ref 54), some (.int x1), some (.int s2), some (.int s3), some (.int (nI i4)), none, none]) (st2 := [.int (M.1 54 23)]) (M2 := M) (Ps := []) (by decide +kernel) rfl rfl trivial ?_
      rw [cf]
      refine G.if_le (off := (71)) (tgt := 115) (by decide +kernel) rfl (fun c12 => ?_) (fun c12 => ?_)
      · skip
        rw [if_pos c12] at hk
        refine G.loc (ls2 := [none, some (.int x1), some (.int s2), some (.int s3), none, none, none]) (by simp [subL]) ?_
        simp only [k_meet_31, if_pos c12] at hX
        exact hX
      · skip
        rw [if_neg c12] at hk
        refine G.sl [(.iconst 0, 1, 0, 0, 0, nI 0), (.istore 5, 2, 5, 0, 0, 0), (.iconst 0, 1, 0, 0, 0, nI 0), (.istore 6, 2, 6, 0, 0, 0)] [] (pc2 := 53) (ls2 := [some (.ref 54), some (.int x1), some (.int s2), some (.int s3), some (.int (nI i4)), some (.int (nI 0)), some (.int (nI 0))]) (st2 := []) (M2 := M) (Ps := []) (by decide +kernel) rfl rfl trivial ?_
        obtain ⟨k15, hk⟩ := hk
        refine lp_k_meet_54_53 z d M Q x1 s2 s3 i4 nf hnf cf (by omega) (by first | (simp only [mput, mrow_same, mrow_hit, mrow_miss, mrow_sw, idr_eq, ne_eq, Nat.reduceEqDiff, not_false_eq_true, Nat.reduceLT, reduceCtorEq]; exact k15) | exact k15) ?_
        show G z mX12_meet (d + 1) 0 0 94 [some (.ref 54), some (.int x1), some (.int s2), some (.int s3), some (.int (nI i4)), some (.int (k_meet_53 (M.1 71) (M.1 76) x1 s2 s3 i4 nf)), none] [] M Q
        refine G.sl [(.iload 5, 2, 5, 0, 0, 0), (.iload_n 3, 1, 3, 0, 0, 0)] [] (pc2 := 97) (ls2 := [some (.ref 54), some (.int x1), some (.int s2), some (.int s3), some (.int (nI i4)), some (.int (k_meet_53 (M.1 71) (M.1 76) x1 s2 s3 i4 nf)), none]) (st2 := [.int s3, .int (k_meet_53 (M.1 71) (M.1 76) x1 s2 s3 i4 nf)]) (M2 := M) (Ps := []) (by decide +kernel) rfl rfl trivial ?_
        refine G.ic_lt (off := (6)) (tgt := 103) (by decide +kernel) rfl (fun c16 => ?_) (fun c16 => ?_)
        · skip
          rw [if_pos c16] at hk
          refine G.sl [(.iload 4, 2, 4, 0, 0, 0), (.istore_n 2, 1, 2, 0, 0, 0), (.iload 5, 2, 5, 0, 0, 0), (.istore_n 3, 1, 3, 0, 0, 0), (.iinc 4 1, 3, 4, 0, 0, nI 1), (.goto (-81), 3, 31, 0, 0, 0)] [] (pc2 := 31) (ls2 := [some (.ref 54), some (.int x1), some (.int (nI i4)), some (.int (k_meet_53 (M.1 71) (M.1 76) x1 s2 s3 i4 nf)), some (.int ((nI i4) + nI 1)), some (.int (k_meet_53 (M.1 71) (M.1 76) x1 s2 s3 i4 nf)), none]) (st2 := []) (M2 := M) (Ps := []) (by decide +kernel) rfl rfl trivial ?_
          refine G.loc (ls2 := [some (.ref 54), some (.int x1), some (.int (nI i4)), some (.int (k_meet_53 (M.1 71) (M.1 76) x1 s2 s3 i4 nf)), some (.int ((nI i4) + nI 1)), none, none]) (by simp [subL]) ?_
          rw [nI_add i4 1]
          simp only [k_meet_31, if_neg c12, if_pos c16] at hX
          exact ih (i4 + 1) (nI i4) (k_meet_53 (M.1 71) (M.1 76) x1 s2 s3 i4 nf) (by omega) hk hX
        · skip
          rw [if_neg c16] at hk
          refine G.sl [(.goto 9, 3, 109, 0, 0, 0), (.iinc 4 1, 3, 4, 0, 0, nI 1), (.goto (-81), 3, 31, 0, 0, 0)] [] (pc2 := 31) (ls2 := [some (.ref 54), some (.int x1), some (.int s2), some (.int s3), some (.int ((nI i4) + nI 1)), some (.int (k_meet_53 (M.1 71) (M.1 76) x1 s2 s3 i4 nf)), none]) (st2 := []) (M2 := M) (Ps := []) (by decide +kernel) rfl rfl trivial ?_
          refine G.loc (ls2 := [some (.ref 54), some (.int x1), some (.int s2), some (.int s3), some (.int ((nI i4) + nI 1)), none, none]) (by simp [subL]) ?_
          rw [nI_add i4 1]
          simp only [k_meet_31, if_neg c12, if_neg c16] at hX
          exact ih (i4 + 1) s2 s3 (by omega) hk hX
set_option maxHeartbeats 4000000 in
set_option maxRecDepth 3000 in
theorem c_k_meet_54 (z : Zp) (d : Nat) (M : Mem) (x1 : Int32) (hk : k_meet_ok (M.1 54) (M.1 55) (M.1 71) (M.1 76) x1) : GM z mX12_meet (d + 1) [.ref 54, .int x1] M (fun rs => rs = .inl (some (.int ((k_meet (M.1 54) (M.1 55) (M.1 71) (M.1 76) x1).1)), mrow (mrow M 54 ((k_meet (M.1 54) (M.1 55) (M.1 71) (M.1 76) x1).2.1)) 55 ((k_meet (M.1 54) (M.1 55) (M.1 71) (M.1 76) x1).2.2))) := by
  simp only [k_meet_ok] at hk
  refine GM.of oX12_meet.1 (Nat.le_of_ble_eq_true rfl) ?_
  show G z mX12_meet (d + 1) 0 0 0 [some (.ref 54), some (.int x1), none, none, none, none, none] [] M _
  obtain ⟨Q, hQ⟩ : ∃ Q : Rs → Prop, Q = (fun rs => rs = .inl (some (.int ((k_meet (M.1 54) (M.1 55) (M.1 71) (M.1 76) x1).1)), mrow (mrow M 54 ((k_meet (M.1 54) (M.1 55) (M.1 71) (M.1 76) x1).2.1)) 55 ((k_meet (M.1 54) (M.1 55) (M.1 71) (M.1 76) x1).2.2))) := ⟨_, rfl⟩
  rw [← hQ]
  refine G.sl [(.aload_n 0, 1, 0, 0, 0, 0), (.iconst 0, 1, 0, 0, 0, nI 0), (.putfield 3, 3, 11, 0, 123, 0), (.aload_n 0, 1, 0, 0, 0, 0), (.iload_n 1, 1, 1, 0, 0, 0), (.iconst 0, 1, 0, 0, 0, nI 0), (.iconst 1, 1, 0, 0, 0, nI 1)] [] (pc2 := 9) (ls2 := [some (.ref 54), some (.int x1), none, none, none, none, none]) (st2 := [.int (nI 1), .int (nI 0), .int x1, .ref 54]) (M2 := mput M 54 0 (nI 0)) (Ps := []) (by decide +kernel) rfl rfl trivial ?_
  refine G.mem (M' := mrow M 54 (upd (M.1 54) 0 (nI 0))) (by first | rfl | (simp only [mput, mrow_same, mrow_hit, mrow_miss, mrow_sw, idr_eq, ne_eq, Nat.reduceEqDiff, not_false_eq_true, Nat.reduceLT, reduceCtorEq]; done)) ?_
  obtain ⟨k1, hk⟩ := hk
  have t2 : GM z mX12_within (d) [.int x1, .int (nI 0), .int (nI 1)] (mrow M 54 (upd (M.1 54) 0 (nI 0))) (fun rs => rs = .inl (some (.int (k_within x1 (nI 0) (nI 1))), mrow M 54 (upd (M.1 54) 0 (nI 0)))) := by
    have q9 := c_k_within z d (mrow M 54 (upd (M.1 54) 0 (nI 0))) x1 (nI 0) (nI 1)
    try simp only [mput, mrow_same, mrow_hit, mrow_miss, mrow_sw, idr_eq, ne_eq, Nat.reduceEqDiff, not_false_eq_true, Nat.reduceLT, reduceCtorEq] at q9
    exact q9
  refine G.callS (as := [.int x1, .int (nI 0), .int (nI 1)]) (rest := [.ref 54]) oX12_within lk_EvenFindersModel_379 (by decide +kernel) rfl (Nat.le_of_ble_eq_true rfl) rfl ⟨Nat.le_of_ble_eq_true rfl, Nat.le_of_ble_eq_true rfl⟩ t2 (fun v9 N9 h3 => ?_) (fun E9 N9 h3 => by cases h3)
  cases h3
  show G z mX12_meet (d + 1) 0 0 12 [some (.ref 54), some (.int x1), none, none, none, none, none] [.int (k_within x1 (nI 0) (nI 1)), .ref 54] (mrow M 54 (upd (M.1 54) 0 (nI 0))) Q
  refine G.sl [(.iconst 1, 1, 0, 0, 0, nI 1), (.iconst 1, 1, 0, 0, 0, nI 1)] [] (pc2 := 14) (ls2 := [some (.ref 54), some (.int x1), none, none, none, none, none]) (st2 := [.int (nI 1), .int (nI 1), .int (k_within x1 (nI 0) (nI 1)), .ref 54]) (M2 := mrow M 54 (upd (M.1 54) 0 (nI 0))) (Ps := []) (by decide +kernel) rfl rfl trivial ?_
  obtain ⟨k4, hk⟩ := hk
  rcases g5 : k_may_1 (upd (M.1 54) 0 (nI 0)) (M.1 55) (k_within x1 (nI 0) (nI 1)) (nI 1) with ⟨v6, r7, r8⟩
  try simp only [g5] at hk
  have ev6 : v6 = 0 ∨ v6 = 1 := by
    have q9 := k_may_1_01 (upd (M.1 54) 0 (nI 0)) (M.1 55) (k_within x1 (nI 0) (nI 1)) (nI 1)
    rw [g5] at q9
    exact q9
  have t9 : GM z mX12_may (d) [.ref 54, .int (k_within x1 (nI 0) (nI 1)), .int (nI 1), .int (nI 1)] (mrow M 54 (upd (M.1 54) 0 (nI 0))) (fun rs => rs = .inl (some (.int v6), mrow (mrow M 54 r7) 55 r8)) := by
    have q9 := c_k_may_1_54 z d (mrow M 54 (upd (M.1 54) 0 (nI 0))) (k_within x1 (nI 0) (nI 1)) (nI 1)
    try simp only [mput, mrow_same, mrow_hit, mrow_miss, mrow_sw, idr_eq, ne_eq, Nat.reduceEqDiff, not_false_eq_true, Nat.reduceLT, reduceCtorEq, g5] at q9
    exact q9
  refine G.callV (as := [.int (k_within x1 (nI 0) (nI 1)), .int (nI 1), .int (nI 1)]) (rest := []) (a := 54) oX12_may lk_EvenFindersModel_213 (by decide +kernel) rfl rfl ⟨rfl, rfl⟩ (Nat.le_of_ble_eq_true rfl) rfl ⟨Nat.le_of_ble_eq_true rfl, Nat.le_of_ble_eq_true rfl⟩ t9 (fun v9 N9 h10 => ?_) (fun E9 N9 h10 => by cases h10)
  cases h10
  show G z mX12_meet (d + 1) 0 0 17 [some (.ref 54), some (.int x1), none, none, none, none, none] [.int v6] (mrow (mrow M 54 r7) 55 r8) Q
  refine G.if_ne (off := (5)) (tgt := 22) (by decide +kernel) rfl (fun c11 => ?_) (fun c11 => ?_)
  · skip
    rw [if_neg c11] at hk
    refine G.sl [(.iconst (-1), 1, 0, 0, 0, (-1)), (.istore_n 2, 1, 2, 0, 0, 0), (.sipush 9999, 3, 0, 0, 0, nI 9999), (.istore_n 3, 1, 3, 0, 0, 0), (.iconst 0, 1, 0, 0, 0, nI 0), (.istore 4, 2, 4, 0, 0, 0)] [] (pc2 := 31) (ls2 := [some (.ref 54), some (.int x1), some (.int ((-1))), some (.int (nI 9999)), some (.int (nI 0)), none, none]) (st2 := []) (M2 := mrow (mrow M 54 r7) 55 r8) (Ps := []) (by decide +kernel) rfl rfl trivial ?_
    obtain ⟨k17, k18, k19, k20, hk⟩ := hk
    obtain ⟨k21, hk⟩ := hk
    refine lp_k_meet_54_31 z d (mrow (mrow M 54 r7) 55 r8) Q x1 (ix (r7 20)) k18 (ixE k17) (ix (r7 23)) k20 (ixE k19) (ix (r7 20)) 0 ((-1)) (nI 9999) (Nat.zero_add _) (by first | (simp only [mput, mrow_same, mrow_hit, mrow_miss, mrow_sw, idr_eq, ne_eq, Nat.reduceEqDiff, not_false_eq_true, Nat.reduceLT, reduceCtorEq]; exact k21) | exact k21) ?_
    try simp only [mput, mrow_same, mrow_hit, mrow_miss, mrow_sw, idr_eq, ne_eq, Nat.reduceEqDiff, not_false_eq_true, Nat.reduceLT, reduceCtorEq]
    rcases g22 : k_meet_31 (M.1 71) (M.1 76) (ix (r7 23)) x1 (ix (r7 20)) 0 ((-1)) (nI 9999) with ⟨v23, v24⟩
    show G z mX12_meet (d + 1) 0 0 115 [none, some (.int x1), some (.int v23), some (.int v24), none, none, none] [] (mrow (mrow M 54 r7) 55 r8) Q
    refine G.sl [(.iload_n 1, 1, 1, 0, 0, 0)] [] (pc2 := 116) (ls2 := [none, some (.int x1), some (.int v23), some (.int v24), none, none, none]) (st2 := [.int x1]) (M2 := mrow (mrow M 54 r7) 55 r8) (Ps := []) (by decide +kernel) rfl rfl trivial ?_
    refine G.if_eq (off := (8)) (tgt := 124) (by decide +kernel) rfl (fun c25 => ?_) (fun c25 => ?_)
    · skip
      refine G.sl [(.iload_n 2, 1, 2, 0, 0, 0), (.goto 4, 3, 129, 0, 0, 0)] [] (pc2 := 129) (ls2 := [none, some (.int x1), some (.int v23), some (.int v24), none, none, none]) (st2 := [.int v23]) (M2 := mrow (mrow M 54 r7) 55 r8) (Ps := []) (by decide +kernel) rfl rfl trivial ?_
      exact G.reti (by decide +kernel) rfl rfl (Nat.le_of_ble_eq_true rfl) (Nat.le_of_ble_eq_true rfl) ((by rw [hQ]; simp only [k_meet, g5, if_neg c11, g22, if_pos c25, mrow_self]))
    · skip
      refine G.sl [(.iload_n 2, 1, 2, 0, 0, 0), (.iconst (-1), 1, 0, 0, 0, (-1))] [] (pc2 := 121) (ls2 := [none, some (.int x1), some (.int v23), some (.int v24), none, none, none]) (st2 := [.int ((-1)), .int v23]) (M2 := mrow (mrow M 54 r7) 55 r8) (Ps := []) (by decide +kernel) rfl rfl trivial ?_
      refine G.ic_ne (off := (7)) (tgt := 128) (by decide +kernel) rfl (fun c26 => ?_) (fun c26 => ?_)
      · skip
        refine G.sl [(.iload_n 3, 1, 3, 0, 0, 0)] [] (pc2 := 129) (ls2 := [none, some (.int x1), some (.int v23), some (.int v24), none, none, none]) (st2 := [.int v24]) (M2 := mrow (mrow M 54 r7) 55 r8) (Ps := []) (by decide +kernel) rfl rfl trivial ?_
        exact G.reti (by decide +kernel) rfl rfl (Nat.le_of_ble_eq_true rfl) (Nat.le_of_ble_eq_true rfl) ((by rw [hQ]; simp only [k_meet, g5, if_neg c11, g22, if_neg c25, if_neg c26, mrow_self]))
      · skip
        refine G.sl [(.iload_n 2, 1, 2, 0, 0, 0), (.goto 4, 3, 129, 0, 0, 0)] [] (pc2 := 129) (ls2 := [none, some (.int x1), some (.int v23), some (.int v24), none, none, none]) (st2 := [.int v23]) (M2 := mrow (mrow M 54 r7) 55 r8) (Ps := []) (by decide +kernel) rfl rfl trivial ?_
        exact G.reti (by decide +kernel) rfl rfl (Nat.le_of_ble_eq_true rfl) (Nat.le_of_ble_eq_true rfl) ((by rw [hQ]; simp only [k_meet, g5, if_neg c11, g22, if_neg c25, if_pos c26, mrow_self]))
  · skip
    rw [if_pos c11] at hk
    refine G.sl [(.iconst 0, 1, 0, 0, 0, nI 0)] [] (pc2 := 21) (ls2 := [some (.ref 54), some (.int x1), none, none, none, none, none]) (st2 := [.int (nI 0)]) (M2 := mrow (mrow M 54 r7) 55 r8) (Ps := []) (by decide +kernel) rfl rfl trivial ?_
    exact G.reti (by decide +kernel) rfl rfl (Nat.le_of_ble_eq_true rfl) (Nat.le_of_ble_eq_true rfl) ((by rw [hQ]; simp only [k_meet, g5, if_pos c11, mrow_self]))
set_option maxHeartbeats 4000000 in
set_option maxRecDepth 3000 in
theorem lp_k_reach_54_24 (z : Zp) (d : Nat) (M : Mem) (Q : Rs → Prop) (x1 : Int32) (np : Nat) (hnp : np ≤ 8) (cp : M.1 54 20 = nI np) (nt : Nat) (hnt : nt ≤ 10) (ct : M.1 54 22 = nI nt) (hk : ∀ i3, i3 < np → k_reach_24_ok (M.1 72) (M.1 76) nt x1 i3) (hX : G z mX12_reach (d + 2) 0 0 80 [none, none, some (.int (k_reach_24 (M.1 72) (M.1 76) nt x1 np)), none] [] M Q) : G z mX12_reach (d + 2) 0 0 24 [some (.ref 54), some (.int x1), some (.int (nI 0)), some (.int (nI 0))] [] M Q := by
  refine down (n := np) (P := fun i3 => G z mX12_reach (d + 2) 0 0 24 [some (.ref 54), some (.int x1), some (.int (k_reach_24 (M.1 72) (M.1 76) nt x1 i3)), some (.int (nI i3))] [] M Q) ?_ ?_ 0 (Nat.zero_le _)
  · skip
    refine G.sl [(.iload_n 3, 1, 3, 0, 0, 0), (.aload_n 0, 1, 0, 0, 0, 0), (.getfield 156, 3, 11, 20, 143, 0)] [] (pc2 := 29) (ls2 := [some (.ref 54), some (.int x1), some (.int (k_reach_24 (M.1 72) (M.1 76) nt x1 np)), some (.int (nI np))]) (st2 := [.int (M.1 54 20), .int (nI np)]) (M2 := M) (Ps := []) (by decide +kernel) rfl rfl trivial ?_
    rw [cp]
    refine G.ic_ge (off := (51)) (tgt := 80) (by decide +kernel) rfl (fun _ => ?_) (fun h9 => absurd (nI_le (by omega) (by omega)) h9)
    refine G.loc (ls2 := [none, none, some (.int (k_reach_24 (M.1 72) (M.1 76) nt x1 np)), none]) (by simp [subL]) ?_
    exact hX
  · skip
    intro i3 hi ih
    have hk := hk i3 hi
    simp only [k_reach_24_ok] at hk
    show G z mX12_reach (d + 2) 0 0 24 [some (.ref 54), some (.int x1), some (.int (k_reach_24 (M.1 72) (M.1 76) nt x1 i3)), some (.int (nI i3))] [] M Q
    refine G.sl [(.iload_n 3, 1, 3, 0, 0, 0), (.aload_n 0, 1, 0, 0, 0, 0), (.getfield 156, 3, 11, 20, 143, 0)] [] (pc2 := 29) (ls2 := [some (.ref 54), some (.int x1), some (.int (k_reach_24 (M.1 72) (M.1 76) nt x1 i3)), some (.int (nI i3))]) (st2 := [.int (M.1 54 20), .int (nI i3)]) (M2 := M) (Ps := []) (by decide +kernel) rfl rfl trivial ?_
    rw [cp]
    refine G.ic_ge (off := (51)) (tgt := 80) (by decide +kernel) rfl (fun h9 => absurd h9 (nI_ge (by omega) (by omega))) (fun _ => ?_)
    obtain ⟨k15, k16, k17, k18, k19, hk⟩ := hk
    refine G.sl [(.aload_n 0, 1, 0, 0, 0, 0), (.getfield 80, 3, 11, 46, 169, 0), (.bipush 8, 2, 0, 0, 0, nI 8), (.aload_n 0, 1, 0, 0, 0, 0), (.getfield 68, 3, 11, 41, 164, 0), (.bipush 20, 2, 0, 0, 0, nI 20), (.iload_n 1, 1, 1, 0, 0, 0), (.iadd, 1, 0, 0, 0, 0), (.iaload, 1, 0, 0, 0, 0), (.imul, 1, 0, 0, 0, 0), (.iload_n 3, 1, 3, 0, 0, 0), (.iadd, 1, 0, 0, 0, 0), (.iaload, 1, 0, 0, 0, 0), (.bipush 24, 2, 0, 0, 0, nI 24), (.aload_n 0, 1, 0, 0, 0, 0), (.getfield 68, 3, 11, 41, 164, 0), (.bipush 32, 2, 0, 0, 0, nI 32), (.iload_n 1, 1, 1, 0, 0, 0), (.iadd, 1, 0, 0, 0, 0), (.iaload, 1, 0, 0, 0, 0), (.isub, 1, 0, 0, 0, 0)] [20 + (ix x1), (8 * (ix (M.1 72 (20 + (ix x1))))) + i3, 32 + (ix x1)] (pc2 := 63) (ls2 := [some (.ref 54), some (.int x1), some (.int (k_reach_24 (M.1 72) (M.1 76) nt x1 i3)), some (.int (nI i3))]) (st2 := [.int ((nI 24) - (M.1 72 (32 + (ix x1)))), .int (M.1 76 ((8 * (ix (M.1 72 (20 + (ix x1))))) + i3))]) (M2 := M) (Ps := [((nI 20) + x1) = nI (20 + (ix x1)) ∧ (20 + (ix x1)) < 51, (((nI 8) * (M.1 72 (20 + (ix x1)))) + (nI i3)) = nI ((8 * (ix (M.1 72 (20 + (ix x1))))) + i3) ∧ ((8 * (ix (M.1 72 (20 + (ix x1))))) + i3) < 64, ((nI 32) + x1) = nI (32 + (ix x1)) ∧ (32 + (ix x1)) < 51]) (by decide +kernel) rfl rfl ⟨⟨(nAdd rfl (ixE k15)), k16⟩, ⟨(nAdd (nMul rfl (ixE k17)) rfl), k18⟩, ⟨(nAdd rfl (ixE k15)), k19⟩, trivial⟩ ?_
    refine G.ic_gt (off := (11)) (tgt := 74) (by decide +kernel) rfl (fun c20 => ?_) (fun c20 => ?_)
    · skip
      refine G.sl [(.iinc 3 1, 3, 3, 0, 0, nI 1), (.goto (-53), 3, 24, 0, 0, 0)] [] (pc2 := 24) (ls2 := [some (.ref 54), some (.int x1), some (.int (k_reach_24 (M.1 72) (M.1 76) nt x1 i3)), some (.int ((nI i3) + nI 1))]) (st2 := []) (M2 := M) (Ps := []) (by decide +kernel) rfl rfl trivial ?_
      rw [nI_add i3 1]
      simp only [k_reach_24, if_pos c20] at ih
      exact ih
    · skip
      refine G.sl [(.iload_n 2, 1, 2, 0, 0, 0), (.aload_n 0, 1, 0, 0, 0, 0), (.iload_n 3, 1, 3, 0, 0, 0)] [] (pc2 := 69) (ls2 := [some (.ref 54), some (.int x1), some (.int (k_reach_24 (M.1 72) (M.1 76) nt x1 i3)), some (.int (nI i3))]) (st2 := [.int (nI i3), .ref 54, .int (k_reach_24 (M.1 72) (M.1 76) nt x1 i3)]) (M2 := M) (Ps := []) (by decide +kernel) rfl rfl trivial ?_
      have t22 : GM z mX12_lyingAt (d + 1) [.ref 54, .int (nI i3)] M (fun rs => rs = .inl (some (.int (k_lyingAt (M.1 72) nt (nI i3))), M)) := by
        have q9 := c_k_lyingAt_54 z (d + 1) M (nI i3) nt hnt ct
        try simp only [mput, mrow_same, mrow_hit, mrow_miss, mrow_sw, idr_eq, ne_eq, Nat.reduceEqDiff, not_false_eq_true, Nat.reduceLT, reduceCtorEq] at q9
        exact q9
      refine G.callV (as := [.int (nI i3)]) (rest := [.int (k_reach_24 (M.1 72) (M.1 76) nt x1 i3)]) (a := 54) oX12_lyingAt lk_EvenFindersModel_348 (by decide +kernel) rfl rfl ⟨rfl, rfl⟩ (Nat.le_of_ble_eq_true rfl) rfl ⟨Nat.le_of_ble_eq_true rfl, Nat.le_of_ble_eq_true rfl⟩ t22 (fun v9 N9 h23 => ?_) (fun E9 N9 h23 => by cases h23)
      cases h23
      show G z mX12_reach (d + 2) 0 0 72 [some (.ref 54), some (.int x1), some (.int (k_reach_24 (M.1 72) (M.1 76) nt x1 i3)), some (.int (nI i3))] [.int (k_lyingAt (M.1 72) nt (nI i3)), .int (k_reach_24 (M.1 72) (M.1 76) nt x1 i3)] M Q
      refine G.sl [(.ior, 1, 0, 0, 0, 0), (.istore_n 2, 1, 2, 0, 0, 0), (.iinc 3 1, 3, 3, 0, 0, nI 1), (.goto (-53), 3, 24, 0, 0, 0)] [] (pc2 := 24) (ls2 := [some (.ref 54), some (.int x1), some (.int ((k_reach_24 (M.1 72) (M.1 76) nt x1 i3) ||| (k_lyingAt (M.1 72) nt (nI i3)))), some (.int ((nI i3) + nI 1))]) (st2 := []) (M2 := M) (Ps := []) (by decide +kernel) rfl rfl trivial ?_
      rw [nI_add i3 1]
      simp only [k_reach_24, if_neg c20] at ih
      exact ih
set_option maxHeartbeats 4000000 in
set_option maxRecDepth 3000 in
theorem c_k_reach_54 (z : Zp) (d : Nat) (M : Mem) (x1 : Int32) (nf : Nat) (hnf : nf ≤ 6) (cf : M.1 54 23 = nI nf) (hk : k_reach_ok (M.1 54) (M.1 55) (M.1 71) (M.1 72) (M.1 76) nf x1) : GM z mX12_reach (d + 2) [.ref 54, .int x1] M (fun rs => rs = .inl (some (.int ((k_reach (M.1 54) (M.1 55) (M.1 71) (M.1 72) (M.1 76) nf x1).1)), mrow (mrow (mrow M 54 ((k_reach (M.1 54) (M.1 55) (M.1 71) (M.1 72) (M.1 76) nf x1).2.1)) 55 ((k_reach (M.1 54) (M.1 55) (M.1 71) (M.1 72) (M.1 76) nf x1).2.2.1)) 72 ((k_reach (M.1 54) (M.1 55) (M.1 71) (M.1 72) (M.1 76) nf x1).2.2.2))) := by
  simp only [k_reach_ok] at hk
  refine GM.of oX12_reach.1 (Nat.le_of_ble_eq_true rfl) ?_
  show G z mX12_reach (d + 2) 0 0 0 [some (.ref 54), some (.int x1), none, none] [] M _
  obtain ⟨Q, hQ⟩ : ∃ Q : Rs → Prop, Q = (fun rs => rs = .inl (some (.int ((k_reach (M.1 54) (M.1 55) (M.1 71) (M.1 72) (M.1 76) nf x1).1)), mrow (mrow (mrow M 54 ((k_reach (M.1 54) (M.1 55) (M.1 71) (M.1 72) (M.1 76) nf x1).2.1)) 55 ((k_reach (M.1 54) (M.1 55) (M.1 71) (M.1 72) (M.1 76) nf x1).2.2.1)) 72 ((k_reach (M.1 54) (M.1 55) (M.1 71) (M.1 72) (M.1 76) nf x1).2.2.2))) := ⟨_, rfl⟩
  rw [← hQ]
  refine G.sl [(.aload_n 0, 1, 0, 0, 0, 0), (.iconst 0, 1, 0, 0, 0, nI 0), (.putfield 3, 3, 11, 0, 123, 0), (.aload_n 0, 1, 0, 0, 0, 0), (.iload_n 1, 1, 1, 0, 0, 0), (.iconst 1, 1, 0, 0, 0, nI 1)] [] (pc2 := 8) (ls2 := [some (.ref 54), some (.int x1), none, none]) (st2 := [.int (nI 1), .int x1, .ref 54]) (M2 := mput M 54 0 (nI 0)) (Ps := []) (by decide +kernel) rfl rfl trivial ?_
  refine G.mem (M' := mrow M 54 (upd (M.1 54) 0 (nI 0))) (by first | rfl | (simp only [mput, mrow_same, mrow_hit, mrow_miss, mrow_sw, idr_eq, ne_eq, Nat.reduceEqDiff, not_false_eq_true, Nat.reduceLT, reduceCtorEq]; done)) ?_
  obtain ⟨k1, hk⟩ := hk
  rcases g2 : k_isFinder (upd (M.1 54) 0 (nI 0)) (M.1 55) nf x1 (nI 1) with ⟨v3, r4, r5⟩
  try simp only [g2] at hk
  have ev3 : v3 = 0 ∨ v3 = 1 := by
    have q9 := k_isFinder_01 (upd (M.1 54) 0 (nI 0)) (M.1 55) nf x1 (nI 1)
    rw [g2] at q9
    exact q9
  have t6 : GM z mX12_isFinder (d + 1) [.ref 54, .int x1, .int (nI 1)] (mrow M 54 (upd (M.1 54) 0 (nI 0))) (fun rs => rs = .inl (some (.int v3), mrow (mrow M 54 r4) 55 r5)) := by
    have q9 := c_k_isFinder_54 z d (mrow M 54 (upd (M.1 54) 0 (nI 0))) x1 (nI 1) nf hnf cf
    try simp only [mput, mrow_same, mrow_hit, mrow_miss, mrow_sw, idr_eq, ne_eq, Nat.reduceEqDiff, not_false_eq_true, Nat.reduceLT, reduceCtorEq, g2] at q9
    exact q9
  refine G.callV (as := [.int x1, .int (nI 1)]) (rest := []) (a := 54) oX12_isFinder lk_EvenFindersModel_400 (by decide +kernel) rfl rfl ⟨rfl, rfl⟩ (Nat.le_of_ble_eq_true rfl) rfl ⟨Nat.le_of_ble_eq_true rfl, Nat.le_of_ble_eq_true rfl⟩ t6 (fun v9 N9 h7 => ?_) (fun E9 N9 h7 => by cases h7)
  cases h7
  show G z mX12_reach (d + 2) 0 0 11 [some (.ref 54), some (.int x1), none, none] [.int v3] (mrow (mrow M 54 r4) 55 r5) Q
  refine G.if_ne (off := (5)) (tgt := 16) (by decide +kernel) rfl (fun c8 => ?_) (fun c8 => ?_)
  · skip
    rw [if_neg c8] at hk
    refine G.sl [(.aload_n 0, 1, 0, 0, 0, 0)] [] (pc2 := 17) (ls2 := [some (.ref 54), some (.int x1), none, none]) (st2 := [.ref 54]) (M2 := mrow (mrow M 54 r4) 55 r5) (Ps := []) (by decide +kernel) rfl rfl trivial ?_
    obtain ⟨k9, hk⟩ := hk
    rcases g10 : k_take (M.1 71) (M.1 72) with ⟨u11, r12⟩
    try simp only [g10] at hk
    have t13 : GM z mX12_take (d + 1) [.ref 54] (mrow (mrow M 54 r4) 55 r5) (fun rs => rs = .inl (none, mrow (mrow (mrow M 54 r4) 55 r5) 72 r12)) := by
      have q9 := c_k_take_54 z d (mrow (mrow M 54 r4) 55 r5) k9
      try simp only [mput, mrow_same, mrow_hit, mrow_miss, mrow_sw, idr_eq, ne_eq, Nat.reduceEqDiff, not_false_eq_true, Nat.reduceLT, reduceCtorEq, g10] at q9
      exact q9
    refine G.callV (as := []) (rest := []) (a := 54) oX12_take lk_EvenFindersModel_320 (by decide +kernel) rfl rfl ⟨rfl, rfl⟩ (Nat.le_of_ble_eq_true rfl) rfl ⟨Nat.le_of_ble_eq_true rfl, Nat.le_of_ble_eq_true rfl⟩ t13 (fun v9 N9 h14 => ?_) (fun E9 N9 h14 => by cases h14)
    cases h14
    show G z mX12_reach (d + 2) 0 0 20 [some (.ref 54), some (.int x1), none, none] [] (mrow (mrow (mrow M 54 r4) 55 r5) 72 r12) Q
    refine G.sl [(.iconst 0, 1, 0, 0, 0, nI 0), (.istore_n 2, 1, 2, 0, 0, 0), (.iconst 0, 1, 0, 0, 0, nI 0), (.istore_n 3, 1, 3, 0, 0, 0)] [] (pc2 := 24) (ls2 := [some (.ref 54), some (.int x1), some (.int (nI 0)), some (.int (nI 0))]) (st2 := []) (M2 := mrow (mrow (mrow M 54 r4) 55 r5) 72 r12) (Ps := []) (by decide +kernel) rfl rfl trivial ?_
    obtain ⟨k24, k25, k26, k27, hk⟩ := hk
    obtain ⟨k28, hk⟩ := hk
    refine lp_k_reach_54_24 z d (mrow (mrow (mrow M 54 r4) 55 r5) 72 r12) Q x1 (ix (r4 20)) k25 (ixE k24) (ix (r4 22)) k27 (ixE k26) (by first | (simp only [mput, mrow_same, mrow_hit, mrow_miss, mrow_sw, idr_eq, ne_eq, Nat.reduceEqDiff, not_false_eq_true, Nat.reduceLT, reduceCtorEq]; exact k28) | exact k28) ?_
    show G z mX12_reach (d + 2) 0 0 80 [none, none, some (.int (k_reach_24 r12 (M.1 76) (ix (r4 22)) x1 (ix (r4 20)))), none] [] (mrow (mrow (mrow M 54 r4) 55 r5) 72 r12) Q
    refine G.sl [(.iload_n 2, 1, 2, 0, 0, 0)] [] (pc2 := 81) (ls2 := [none, none, some (.int (k_reach_24 r12 (M.1 76) (ix (r4 22)) x1 (ix (r4 20)))), none]) (st2 := [.int (k_reach_24 r12 (M.1 76) (ix (r4 22)) x1 (ix (r4 20)))]) (M2 := mrow (mrow (mrow M 54 r4) 55 r5) 72 r12) (Ps := []) (by decide +kernel) rfl rfl trivial ?_
    exact G.reti (by decide +kernel) rfl rfl (Nat.le_of_ble_eq_true rfl) (Nat.le_of_ble_eq_true rfl) ((by rw [hQ]; simp only [k_reach, g2, if_neg c8, g10, mrow_self]))
  · skip
    rw [if_pos c8] at hk
    refine G.sl [(.iconst 0, 1, 0, 0, 0, nI 0)] [] (pc2 := 15) (ls2 := [some (.ref 54), some (.int x1), none, none]) (st2 := [.int (nI 0)]) (M2 := mrow (mrow M 54 r4) 55 r5) (Ps := []) (by decide +kernel) rfl rfl trivial ?_
    refine G.mem (M' := mrow (mrow (mrow M 54 r4) 55 r5) 72 (M.1 72)) (((mrow_id (N := mrow (mrow M 54 r4) 55 r5) (c := 72) (f := M.1 72) (by first | rfl | (simp only [mput, mrow_same, mrow_hit, mrow_miss, mrow_sw, idr_eq, ne_eq, Nat.reduceEqDiff, not_false_eq_true, Nat.reduceLT, reduceCtorEq]; done))).symm).trans (by first | rfl | (simp only [mput, mrow_same, mrow_hit, mrow_miss, mrow_sw, idr_eq, ne_eq, Nat.reduceEqDiff, not_false_eq_true, Nat.reduceLT, reduceCtorEq]; done))) ?_
    exact G.reti (by decide +kernel) rfl rfl (Nat.le_of_ble_eq_true rfl) (Nat.le_of_ble_eq_true rfl) ((by rw [hQ]; simp only [k_reach, g2, if_pos c8, mrow_self]))
set_option maxHeartbeats 4000000 in
set_option maxRecDepth 3000 in
theorem c_k_way_54 (z : Zp) (d : Nat) (M : Mem) (x1 : Int32) (x2 : Int32) (nf : Nat) (hnf : nf ≤ 6) (cf : M.1 54 23 = nI nf) (hk : k_way_ok (M.1 54) (M.1 55) (M.1 71) (M.1 76) nf x1 x2) : GM z mX12_way (d + 2) [.ref 54, .int x1, .int x2] M (fun rs => rs = .inl (some (.int ((k_way (M.1 54) (M.1 55) (M.1 71) (M.1 76) nf x1 x2).1)), mrow (mrow M 54 ((k_way (M.1 54) (M.1 55) (M.1 71) (M.1 76) nf x1 x2).2.1)) 55 ((k_way (M.1 54) (M.1 55) (M.1 71) (M.1 76) nf x1 x2).2.2))) := by
  simp only [k_way_ok] at hk
  refine GM.of oX12_way.1 (Nat.le_of_ble_eq_true rfl) ?_
  show G z mX12_way (d + 2) 0 0 0 [some (.ref 54), some (.int x1), some (.int x2)] [] M _
  obtain ⟨Q, hQ⟩ : ∃ Q : Rs → Prop, Q = (fun rs => rs = .inl (some (.int ((k_way (M.1 54) (M.1 55) (M.1 71) (M.1 76) nf x1 x2).1)), mrow (mrow M 54 ((k_way (M.1 54) (M.1 55) (M.1 71) (M.1 76) nf x1 x2).2.1)) 55 ((k_way (M.1 54) (M.1 55) (M.1 71) (M.1 76) nf x1 x2).2.2))) := ⟨_, rfl⟩
  rw [← hQ]
  refine G.sl [(.aload_n 0, 1, 0, 0, 0, 0), (.iconst 0, 1, 0, 0, 0, nI 0), (.putfield 3, 3, 11, 0, 123, 0), (.aload_n 0, 1, 0, 0, 0, 0), (.iload_n 1, 1, 1, 0, 0, 0), (.iconst 1, 1, 0, 0, 0, nI 1)] [] (pc2 := 8) (ls2 := [some (.ref 54), some (.int x1), some (.int x2)]) (st2 := [.int (nI 1), .int x1, .ref 54]) (M2 := mput M 54 0 (nI 0)) (Ps := []) (by decide +kernel) rfl rfl trivial ?_
  refine G.mem (M' := mrow M 54 (upd (M.1 54) 0 (nI 0))) (by first | rfl | (simp only [mput, mrow_same, mrow_hit, mrow_miss, mrow_sw, idr_eq, ne_eq, Nat.reduceEqDiff, not_false_eq_true, Nat.reduceLT, reduceCtorEq]; done)) ?_
  obtain ⟨k1, hk⟩ := hk
  rcases g2 : k_isFinder (upd (M.1 54) 0 (nI 0)) (M.1 55) nf x1 (nI 1) with ⟨v3, r4, r5⟩
  try simp only [g2] at hk
  have ev3 : v3 = 0 ∨ v3 = 1 := by
    have q9 := k_isFinder_01 (upd (M.1 54) 0 (nI 0)) (M.1 55) nf x1 (nI 1)
    rw [g2] at q9
    exact q9
  have t6 : GM z mX12_isFinder (d + 1) [.ref 54, .int x1, .int (nI 1)] (mrow M 54 (upd (M.1 54) 0 (nI 0))) (fun rs => rs = .inl (some (.int v3), mrow (mrow M 54 r4) 55 r5)) := by
    have q9 := c_k_isFinder_54 z d (mrow M 54 (upd (M.1 54) 0 (nI 0))) x1 (nI 1) nf hnf cf
    try simp only [mput, mrow_same, mrow_hit, mrow_miss, mrow_sw, idr_eq, ne_eq, Nat.reduceEqDiff, not_false_eq_true, Nat.reduceLT, reduceCtorEq, g2] at q9
    exact q9
  refine G.callV (as := [.int x1, .int (nI 1)]) (rest := []) (a := 54) oX12_isFinder lk_EvenFindersModel_400 (by decide +kernel) rfl rfl ⟨rfl, rfl⟩ (Nat.le_of_ble_eq_true rfl) rfl ⟨Nat.le_of_ble_eq_true rfl, Nat.le_of_ble_eq_true rfl⟩ t6 (fun v9 N9 h7 => ?_) (fun E9 N9 h7 => by cases h7)
  cases h7
  show G z mX12_way (d + 2) 0 0 11 [some (.ref 54), some (.int x1), some (.int x2)] [.int v3] (mrow (mrow M 54 r4) 55 r5) Q
  refine G.if_eq (off := (12)) (tgt := 23) (by decide +kernel) rfl (fun c8 => ?_) (fun c8 => ?_)
  · skip
    rw [if_pos c8] at hk
    refine G.sl [(.iconst 0, 1, 0, 0, 0, nI 0)] [] (pc2 := 24) (ls2 := [some (.ref 54), some (.int x1), some (.int x2)]) (st2 := [.int (nI 0)]) (M2 := mrow (mrow M 54 r4) 55 r5) (Ps := []) (by decide +kernel) rfl rfl trivial ?_
    exact G.reti (by decide +kernel) rfl rfl (Nat.le_of_ble_eq_true rfl) (Nat.le_of_ble_eq_true rfl) ((by rw [hQ]; simp only [k_way, g2, if_pos c8, mrow_self]))
  · skip
    rw [if_neg c8] at hk
    refine G.sl [(.aload_n 0, 1, 0, 0, 0, 0), (.iload_n 2, 1, 2, 0, 0, 0), (.iconst 1, 1, 0, 0, 0, nI 1)] [] (pc2 := 17) (ls2 := [some (.ref 54), some (.int x1), some (.int x2)]) (st2 := [.int (nI 1), .int x2, .ref 54]) (M2 := mrow (mrow M 54 r4) 55 r5) (Ps := []) (by decide +kernel) rfl rfl trivial ?_
    obtain ⟨k9, k10, hk⟩ := hk
    obtain ⟨k11, hk⟩ := hk
    rcases g12 : k_isThing r4 r5 (ix (r4 22)) x2 (nI 1) with ⟨v13, r14, r15⟩
    try simp only [g12] at hk
    have ev13 : v13 = 0 ∨ v13 = 1 := by
      have q9 := k_isThing_01 r4 r5 (ix (r4 22)) x2 (nI 1)
      rw [g12] at q9
      exact q9
    have t16 : GM z mX12_isThing (d + 1) [.ref 54, .int x2, .int (nI 1)] (mrow (mrow M 54 r4) 55 r5) (fun rs => rs = .inl (some (.int v13), mrow (mrow M 54 r14) 55 r15)) := by
      have q9 := c_k_isThing_54 z d (mrow (mrow M 54 r4) 55 r5) x2 (nI 1) (ix (r4 22)) k10 (ixE k9)
      try simp only [mput, mrow_same, mrow_hit, mrow_miss, mrow_sw, idr_eq, ne_eq, Nat.reduceEqDiff, not_false_eq_true, Nat.reduceLT, reduceCtorEq, g12] at q9
      exact q9
    refine G.callV (as := [.int x2, .int (nI 1)]) (rest := []) (a := 54) oX12_isThing lk_EvenFindersModel_397 (by decide +kernel) rfl rfl ⟨rfl, rfl⟩ (Nat.le_of_ble_eq_true rfl) rfl ⟨Nat.le_of_ble_eq_true rfl, Nat.le_of_ble_eq_true rfl⟩ t16 (fun v9 N9 h17 => ?_) (fun E9 N9 h17 => by cases h17)
    cases h17
    show G z mX12_way (d + 2) 0 0 20 [some (.ref 54), some (.int x1), some (.int x2)] [.int v13] (mrow (mrow M 54 r14) 55 r15) Q
    refine G.if_ne (off := (5)) (tgt := 25) (by decide +kernel) rfl (fun c18 => ?_) (fun c18 => ?_)
    · skip
      rw [if_neg c18] at hk
      obtain ⟨k19, k20, hk⟩ := hk
      refine G.sl [(.aload_n 0, 1, 0, 0, 0, 0), (.getfield 65, 3, 11, 40, 163, 0), (.bipush 10, 2, 0, 0, 0, nI 10), (.iload_n 2, 1, 2, 0, 0, 0), (.iadd, 1, 0, 0, 0, 0), (.iaload, 1, 0, 0, 0, 0), (.iconst (-1), 1, 0, 0, 0, (-1))] [10 + (ix x2)] (pc2 := 35) (ls2 := [some (.ref 54), some (.int x1), some (.int x2)]) (st2 := [.int ((-1)), .int (M.1 71 (10 + (ix x2)))]) (M2 := mrow (mrow M 54 r14) 55 r15) (Ps := [((nI 10) + x2) = nI (10 + (ix x2)) ∧ (10 + (ix x2)) < 51]) (by decide +kernel) rfl rfl ⟨⟨(nAdd rfl (ixE k19)), k20⟩, trivial⟩ ?_
      refine G.ic_eq (off := (7)) (tgt := 42) (by decide +kernel) rfl (fun c21 => ?_) (fun c21 => ?_)
      · skip
        rw [if_pos c21] at hk
        obtain ⟨k22, k23, k24, k25, k26, k27, hk⟩ := hk
        refine G.sl [(.aload_n 0, 1, 0, 0, 0, 0), (.getfield 80, 3, 11, 46, 169, 0), (.bipush 8, 2, 0, 0, 0, nI 8), (.aload_n 0, 1, 0, 0, 0, 0), (.getfield 65, 3, 11, 40, 163, 0), (.bipush 20, 2, 0, 0, 0, nI 20), (.iload_n 1, 1, 1, 0, 0, 0), (.iadd, 1, 0, 0, 0, 0), (.iaload, 1, 0, 0, 0, 0), (.imul, 1, 0, 0, 0, 0), (.aload_n 0, 1, 0, 0, 0, 0), (.getfield 65, 3, 11, 40, 163, 0), (.iconst 0, 1, 0, 0, 0, nI 0), (.iload_n 2, 1, 2, 0, 0, 0), (.iadd, 1, 0, 0, 0, 0), (.iaload, 1, 0, 0, 0, 0), (.iadd, 1, 0, 0, 0, 0), (.iaload, 1, 0, 0, 0, 0)] [20 + (ix x1), 0 + (ix x2), (8 * (ix (M.1 71 (20 + (ix x1))))) + (ix (M.1 71 (0 + (ix x2))))] (pc2 := 68) (ls2 := [some (.ref 54), some (.int x1), some (.int x2)]) (st2 := [.int (M.1 76 ((8 * (ix (M.1 71 (20 + (ix x1))))) + (ix (M.1 71 (0 + (ix x2))))))]) (M2 := mrow (mrow M 54 r14) 55 r15) (Ps := [((nI 20) + x1) = nI (20 + (ix x1)) ∧ (20 + (ix x1)) < 51, ((nI 0) + x2) = nI (0 + (ix x2)) ∧ (0 + (ix x2)) < 51, (((nI 8) * (M.1 71 (20 + (ix x1)))) + (M.1 71 (0 + (ix x2)))) = nI ((8 * (ix (M.1 71 (20 + (ix x1))))) + (ix (M.1 71 (0 + (ix x2))))) ∧ ((8 * (ix (M.1 71 (20 + (ix x1))))) + (ix (M.1 71 (0 + (ix x2))))) < 64]) (by decide +kernel) rfl rfl ⟨⟨(nAdd rfl (ixE k22)), k23⟩, ⟨(nAdd rfl (ixE k19)), k24⟩, ⟨(nAdd (nMul rfl (ixE k25)) (ixE k26)), k27⟩, trivial⟩ ?_
        have t29 : GM z mX12_orNone (d + 1) [.int (M.1 76 ((8 * (ix (M.1 71 (20 + (ix x1))))) + (ix (M.1 71 (0 + (ix x2))))))] (mrow (mrow M 54 r14) 55 r15) (fun rs => rs = .inl (some (.int (k_orNone (M.1 76 ((8 * (ix (M.1 71 (20 + (ix x1))))) + (ix (M.1 71 (0 + (ix x2)))))))), mrow (mrow M 54 r14) 55 r15)) := by
          have q9 := c_k_orNone z (d + 1) (mrow (mrow M 54 r14) 55 r15) (M.1 76 ((8 * (ix (M.1 71 (20 + (ix x1))))) + (ix (M.1 71 (0 + (ix x2))))))
          try simp only [mput, mrow_same, mrow_hit, mrow_miss, mrow_sw, idr_eq, ne_eq, Nat.reduceEqDiff, not_false_eq_true, Nat.reduceLT, reduceCtorEq] at q9
          exact q9
        refine G.callS (as := [.int (M.1 76 ((8 * (ix (M.1 71 (20 + (ix x1))))) + (ix (M.1 71 (0 + (ix x2))))))]) (rest := []) oX12_orNone lk_EvenFindersModel_403 (by decide +kernel) rfl (Nat.le_of_ble_eq_true rfl) rfl ⟨Nat.le_of_ble_eq_true rfl, Nat.le_of_ble_eq_true rfl⟩ t29 (fun v9 N9 h30 => ?_) (fun E9 N9 h30 => by cases h30)
        cases h30
        show G z mX12_way (d + 2) 0 0 71 [some (.ref 54), some (.int x1), some (.int x2)] [.int (k_orNone (M.1 76 ((8 * (ix (M.1 71 (20 + (ix x1))))) + (ix (M.1 71 (0 + (ix x2)))))))] (mrow (mrow M 54 r14) 55 r15) Q
        exact G.reti (by decide +kernel) rfl rfl (Nat.le_of_ble_eq_true rfl) (Nat.le_of_ble_eq_true rfl) ((by rw [hQ]; simp only [k_way, g2, if_neg c8, g12, if_neg c18, if_pos c21, mrow_self]))
      · skip
        rw [if_neg c21] at hk
        refine G.sl [(.iconst (-1), 1, 0, 0, 0, (-1)), (.goto 32, 3, 71, 0, 0, 0)] [] (pc2 := 71) (ls2 := [some (.ref 54), some (.int x1), some (.int x2)]) (st2 := [.int ((-1))]) (M2 := mrow (mrow M 54 r14) 55 r15) (Ps := []) (by decide +kernel) rfl rfl trivial ?_
        exact G.reti (by decide +kernel) rfl rfl (Nat.le_of_ble_eq_true rfl) (Nat.le_of_ble_eq_true rfl) ((by rw [hQ]; simp only [k_way, g2, if_neg c8, g12, if_neg c18, if_neg c21, mrow_self]))
    · skip
      rw [if_pos c18] at hk
      refine G.sl [(.iconst 0, 1, 0, 0, 0, nI 0)] [] (pc2 := 24) (ls2 := [some (.ref 54), some (.int x1), some (.int x2)]) (st2 := [.int (nI 0)]) (M2 := mrow (mrow M 54 r14) 55 r15) (Ps := []) (by decide +kernel) rfl rfl trivial ?_
      exact G.reti (by decide +kernel) rfl rfl (Nat.le_of_ble_eq_true rfl) (Nat.le_of_ble_eq_true rfl) ((by rw [hQ]; simp only [k_way, g2, if_neg c8, g12, if_pos c18, mrow_self]))
set_option maxHeartbeats 4000000 in
set_option maxRecDepth 3000 in
theorem lp_k_settle_54_31 (z : Zp) (d : Nat) (M : Mem) (Q : Rs → Prop) (x1 : Int32) (x2 : Int32) (nt : Nat) (hnt : nt ≤ 10) (ct : M.1 54 22 = nI nt) : ∀ (k0 : Nat) (s3 : Int32) (s4 : Int32), k_settle_31_ok (M.1 61) (M.1 72) nt x1 x2 k0 s3 s4 → (match k_settle_31 (M.1 61) (M.1 72) nt x1 x2 k0 s3 s4 with | (s3', s4') => G z mX12_settle (d + 2) 0 0 129 [some (.ref 54), some (.int x1), none, some (.int (s3')), none, none] [] M Q) → G z mX12_settle (d + 2) 0 0 31 [some (.ref 54), some (.int x1), some (.int x2), some (.int s3), some (.int s4), none] [] M Q := by
  intro k0
  induction k0 with
  | zero =>
      intro s3 s4 hk hX
      exact (by simpa only [k_settle_31_ok] using hk : False).elim
  | succ k0 ih =>
      intro s3 s4 hk hX
      simp only [k_settle_31_ok] at hk
      refine G.sl [(.iload 4, 2, 4, 0, 0, 0), (.iload_n 2, 1, 2, 0, 0, 0)] [] (pc2 := 34) (ls2 := [some (.ref 54), some (.int x1), some (.int x2), some (.int s3), some (.int s4), none]) (st2 := [.int x2, .int s4]) (M2 := M) (Ps := []) (by decide +kernel) rfl rfl trivial ?_
      refine G.ic_gt (off := (95)) (tgt := 129) (by decide +kernel) rfl (fun c20 => ?_) (fun c20 => ?_)
      · skip
        rw [if_pos c20] at hk
        refine G.loc (ls2 := [some (.ref 54), some (.int x1), none, some (.int s3), none, none]) (by simp [subL]) ?_
        simp only [k_settle_31, if_pos c20] at hX
        exact hX
      · skip
        rw [if_neg c20] at hk
        obtain ⟨k21, k22, hk⟩ := hk
        refine G.sl [(.aload_n 0, 1, 0, 0, 0, 0), (.getfield 68, 3, 11, 41, 164, 0), (.bipush 26, 2, 0, 0, 0, nI 26), (.iload_n 1, 1, 1, 0, 0, 0), (.iadd, 1, 0, 0, 0, 0), (.iaload, 1, 0, 0, 0, 0)] [26 + (ix x1)] (pc2 := 46) (ls2 := [some (.ref 54), some (.int x1), some (.int x2), some (.int s3), some (.int s4), none]) (st2 := [.int (M.1 72 (26 + (ix x1)))]) (M2 := M) (Ps := [((nI 26) + x1) = nI (26 + (ix x1)) ∧ (26 + (ix x1)) < 51]) (by decide +kernel) rfl rfl ⟨⟨(nAdd rfl (ixE k21)), k22⟩, trivial⟩ ?_
        refine G.if_le (off := (83)) (tgt := 129) (by decide +kernel) rfl (fun c23 => ?_) (fun c23 => ?_)
        · skip
          rw [if_pos c23] at hk
          refine G.loc (ls2 := [some (.ref 54), some (.int x1), none, some (.int s3), none, none]) (by simp [subL]) ?_
          simp only [k_settle_31, if_neg c20, if_pos c23] at hX
          exact hX
        · skip
          rw [if_neg c23] at hk
          refine G.sl [(.aload_n 0, 1, 0, 0, 0, 0), (.iload 4, 2, 4, 0, 0, 0)] [] (pc2 := 52) (ls2 := [some (.ref 54), some (.int x1), some (.int x2), some (.int s3), some (.int s4), none]) (st2 := [.int s4, .ref 54]) (M2 := M) (Ps := []) (by decide +kernel) rfl rfl trivial ?_
          obtain ⟨k24, hk⟩ := hk
          have t25 : GM z mX12_worthOf (d + 1) [.ref 54, .int s4] M (fun rs => rs = .inl (some (.int (k_worthOf (M.1 61) nt s4)), M)) := by
            have q9 := c_k_worthOf_54 z (d + 1) M s4 nt hnt ct
            try simp only [mput, mrow_same, mrow_hit, mrow_miss, mrow_sw, idr_eq, ne_eq, Nat.reduceEqDiff, not_false_eq_true, Nat.reduceLT, reduceCtorEq] at q9
            exact q9
          refine G.callV (as := [.int s4]) (rest := []) (a := 54) oX12_worthOf lk_EvenFindersModel_388 (by decide +kernel) rfl rfl ⟨rfl, rfl⟩ (Nat.le_of_ble_eq_true rfl) rfl ⟨Nat.le_of_ble_eq_true rfl, Nat.le_of_ble_eq_true rfl⟩ t25 (fun v9 N9 h26 => ?_) (fun E9 N9 h26 => by cases h26)
          cases h26
          show G z mX12_settle (d + 2) 0 0 55 [some (.ref 54), some (.int x1), some (.int x2), some (.int s3), some (.int s4), none] [.int (k_worthOf (M.1 61) nt s4)] M Q
          refine G.sl [(.istore 5, 2, 5, 0, 0, 0), (.iload 4, 2, 4, 0, 0, 0), (.iload_n 2, 1, 2, 0, 0, 0), (.iconst (-1), 1, 0, 0, 0, (-1)), (.ixor, 1, 0, 0, 0, 0), (.iand, 1, 0, 0, 0, 0)] [] (pc2 := 63) (ls2 := [some (.ref 54), some (.int x1), some (.int x2), some (.int s3), some (.int s4), some (.int (k_worthOf (M.1 61) nt s4))]) (st2 := [.int (s4 &&& (x2 ^^^ ((-1))))]) (M2 := M) (Ps := []) (by decide +kernel) rfl rfl trivial ?_
          refine G.if_ne (off := (60)) (tgt := 123) (by decide +kernel) rfl (fun c27 => ?_) (fun c27 => ?_)
          · skip
            rw [if_neg c27] at hk
            refine G.sl [(.iinc 4 1, 3, 4, 0, 0, nI 1), (.goto (-95), 3, 31, 0, 0, 0)] [] (pc2 := 31) (ls2 := [some (.ref 54), some (.int x1), some (.int x2), some (.int s3), some (.int (s4 + nI 1)), some (.int (k_worthOf (M.1 61) nt s4))]) (st2 := []) (M2 := M) (Ps := []) (by decide +kernel) rfl rfl trivial ?_
            refine G.loc (ls2 := [some (.ref 54), some (.int x1), some (.int x2), some (.int s3), some (.int (s4 + nI 1)), none]) (by simp [subL]) ?_
            simp only [k_settle_31, if_neg c20, if_neg c23, if_neg c27] at hX
            exact ih s3 (s4 + nI 1) hk hX
          · skip
            rw [if_pos c27] at hk
            refine G.sl [(.iload 5, 2, 5, 0, 0, 0), (.aload_n 0, 1, 0, 0, 0, 0), (.getfield 68, 3, 11, 41, 164, 0), (.bipush 26, 2, 0, 0, 0, nI 26), (.iload_n 1, 1, 1, 0, 0, 0), (.iadd, 1, 0, 0, 0, 0), (.iaload, 1, 0, 0, 0, 0)] [26 + (ix x1)] (pc2 := 77) (ls2 := [some (.ref 54), some (.int x1), some (.int x2), some (.int s3), some (.int s4), some (.int (k_worthOf (M.1 61) nt s4))]) (st2 := [.int (M.1 72 (26 + (ix x1))), .int (k_worthOf (M.1 61) nt s4)]) (M2 := M) (Ps := [((nI 26) + x1) = nI (26 + (ix x1)) ∧ (26 + (ix x1)) < 51]) (by decide +kernel) rfl rfl ⟨⟨(nAdd rfl (ixE k21)), k22⟩, trivial⟩ ?_
            refine G.ic_ge (off := (6)) (tgt := 83) (by decide +kernel) rfl (fun c28 => ?_) (fun c28 => ?_)
            · skip
              rw [if_pos c28] at hk
              refine G.sl [(.iload_n 3, 1, 3, 0, 0, 0), (.iconst (-1), 1, 0, 0, 0, (-1))] [] (pc2 := 85) (ls2 := [some (.ref 54), some (.int x1), some (.int x2), some (.int s3), some (.int s4), some (.int (k_worthOf (M.1 61) nt s4))]) (st2 := [.int ((-1)), .int s3]) (M2 := M) (Ps := []) (by decide +kernel) rfl rfl trivial ?_
              refine G.ic_eq (off := (35)) (tgt := 120) (by decide +kernel) rfl (fun c29 => ?_) (fun c29 => ?_)
              · skip
                rw [if_pos c29] at hk
                refine G.sl [(.iload 4, 2, 4, 0, 0, 0), (.istore_n 3, 1, 3, 0, 0, 0), (.iinc 4 1, 3, 4, 0, 0, nI 1), (.goto (-95), 3, 31, 0, 0, 0)] [] (pc2 := 31) (ls2 := [some (.ref 54), some (.int x1), some (.int x2), some (.int s4), some (.int (s4 + nI 1)), some (.int (k_worthOf (M.1 61) nt s4))]) (st2 := []) (M2 := M) (Ps := []) (by decide +kernel) rfl rfl trivial ?_
                refine G.loc (ls2 := [some (.ref 54), some (.int x1), some (.int x2), some (.int s4), some (.int (s4 + nI 1)), none]) (by simp [subL]) ?_
                simp only [k_settle_31, if_neg c20, if_neg c23, if_pos c27, if_pos c28, if_pos c29] at hX
                exact ih s4 (s4 + nI 1) hk hX
              · skip
                rw [if_neg c29] at hk
                refine G.sl [(.iload 5, 2, 5, 0, 0, 0), (.aload_n 0, 1, 0, 0, 0, 0), (.iload_n 3, 1, 3, 0, 0, 0)] [] (pc2 := 92) (ls2 := [some (.ref 54), some (.int x1), some (.int x2), some (.int s3), some (.int s4), some (.int (k_worthOf (M.1 61) nt s4))]) (st2 := [.int s3, .ref 54, .int (k_worthOf (M.1 61) nt s4)]) (M2 := M) (Ps := []) (by decide +kernel) rfl rfl trivial ?_
                obtain ⟨k30, hk⟩ := hk
                have t31 : GM z mX12_worthOf (d + 1) [.ref 54, .int s3] M (fun rs => rs = .inl (some (.int (k_worthOf (M.1 61) nt s3)), M)) := by
                  have q9 := c_k_worthOf_54 z (d + 1) M s3 nt hnt ct
                  try simp only [mput, mrow_same, mrow_hit, mrow_miss, mrow_sw, idr_eq, ne_eq, Nat.reduceEqDiff, not_false_eq_true, Nat.reduceLT, reduceCtorEq] at q9
                  exact q9
                refine G.callV (as := [.int s3]) (rest := [.int (k_worthOf (M.1 61) nt s4)]) (a := 54) oX12_worthOf lk_EvenFindersModel_388 (by decide +kernel) rfl rfl ⟨rfl, rfl⟩ (Nat.le_of_ble_eq_true rfl) rfl ⟨Nat.le_of_ble_eq_true rfl, Nat.le_of_ble_eq_true rfl⟩ t31 (fun v9 N9 h32 => ?_) (fun E9 N9 h32 => by cases h32)
                cases h32
                show G z mX12_settle (d + 2) 0 0 95 [some (.ref 54), some (.int x1), some (.int x2), some (.int s3), some (.int s4), some (.int (k_worthOf (M.1 61) nt s4))] [.int (k_worthOf (M.1 61) nt s3), .int (k_worthOf (M.1 61) nt s4)] M Q
                refine G.ic_lt (off := (25)) (tgt := 120) (by decide +kernel) rfl (fun c33 => ?_) (fun c33 => ?_)
                · skip
                  rw [if_pos c33] at hk
                  refine G.sl [(.iload 4, 2, 4, 0, 0, 0), (.istore_n 3, 1, 3, 0, 0, 0), (.iinc 4 1, 3, 4, 0, 0, nI 1), (.goto (-95), 3, 31, 0, 0, 0)] [] (pc2 := 31) (ls2 := [some (.ref 54), some (.int x1), some (.int x2), some (.int s4), some (.int (s4 + nI 1)), some (.int (k_worthOf (M.1 61) nt s4))]) (st2 := []) (M2 := M) (Ps := []) (by decide +kernel) rfl rfl trivial ?_
                  refine G.loc (ls2 := [some (.ref 54), some (.int x1), some (.int x2), some (.int s4), some (.int (s4 + nI 1)), none]) (by simp [subL]) ?_
                  simp only [k_settle_31, if_neg c20, if_neg c23, if_pos c27, if_pos c28, if_neg c29, if_pos c33] at hX
                  exact ih s4 (s4 + nI 1) hk hX
                · skip
                  rw [if_neg c33] at hk
                  refine G.sl [(.iload 5, 2, 5, 0, 0, 0), (.aload_n 0, 1, 0, 0, 0, 0), (.iload_n 3, 1, 3, 0, 0, 0)] [] (pc2 := 102) (ls2 := [some (.ref 54), some (.int x1), some (.int x2), some (.int s3), some (.int s4), some (.int (k_worthOf (M.1 61) nt s4))]) (st2 := [.int s3, .ref 54, .int (k_worthOf (M.1 61) nt s4)]) (M2 := M) (Ps := []) (by decide +kernel) rfl rfl trivial ?_
                  obtain ⟨k34, hk⟩ := hk
                  have t35 : GM z mX12_worthOf (d + 1) [.ref 54, .int s3] M (fun rs => rs = .inl (some (.int (k_worthOf (M.1 61) nt s3)), M)) := by
                    have q9 := c_k_worthOf_54 z (d + 1) M s3 nt hnt ct
                    try simp only [mput, mrow_same, mrow_hit, mrow_miss, mrow_sw, idr_eq, ne_eq, Nat.reduceEqDiff, not_false_eq_true, Nat.reduceLT, reduceCtorEq] at q9
                    exact q9
                  refine G.callV (as := [.int s3]) (rest := [.int (k_worthOf (M.1 61) nt s4)]) (a := 54) oX12_worthOf lk_EvenFindersModel_388 (by decide +kernel) rfl rfl ⟨rfl, rfl⟩ (Nat.le_of_ble_eq_true rfl) rfl ⟨Nat.le_of_ble_eq_true rfl, Nat.le_of_ble_eq_true rfl⟩ t35 (fun v9 N9 h36 => ?_) (fun E9 N9 h36 => by cases h36)
                  cases h36
                  show G z mX12_settle (d + 2) 0 0 105 [some (.ref 54), some (.int x1), some (.int x2), some (.int s3), some (.int s4), some (.int (k_worthOf (M.1 61) nt s4))] [.int (k_worthOf (M.1 61) nt s3), .int (k_worthOf (M.1 61) nt s4)] M Q
                  refine G.ic_ne (off := (18)) (tgt := 123) (by decide +kernel) rfl (fun c37 => ?_) (fun c37 => ?_)
                  · skip
                    rw [if_neg c37] at hk
                    refine G.sl [(.iinc 4 1, 3, 4, 0, 0, nI 1), (.goto (-95), 3, 31, 0, 0, 0)] [] (pc2 := 31) (ls2 := [some (.ref 54), some (.int x1), some (.int x2), some (.int s3), some (.int (s4 + nI 1)), some (.int (k_worthOf (M.1 61) nt s4))]) (st2 := []) (M2 := M) (Ps := []) (by decide +kernel) rfl rfl trivial ?_
                    refine G.loc (ls2 := [some (.ref 54), some (.int x1), some (.int x2), some (.int s3), some (.int (s4 + nI 1)), none]) (by simp [subL]) ?_
                    simp only [k_settle_31, if_neg c20, if_neg c23, if_pos c27, if_pos c28, if_neg c29, if_neg c33, if_neg c37] at hX
                    exact ih s3 (s4 + nI 1) hk hX
                  · skip
                    rw [if_pos c37] at hk
                    refine G.sl [(.iload 4, 2, 4, 0, 0, 0)] [] (pc2 := 110) (ls2 := [some (.ref 54), some (.int x1), some (.int x2), some (.int s3), some (.int s4), some (.int (k_worthOf (M.1 61) nt s4))]) (st2 := [.int s4]) (M2 := M) (Ps := []) (by decide +kernel) rfl rfl trivial ?_
                    obtain ⟨k38, hk⟩ := hk
                    have t39 : GM z mX12_ones (d + 1) [.int s4] M (fun rs => rs = .inl (some (.int (k_ones s4)), M)) := by
                      have q9 := c_k_ones z (d + 1) M s4
                      try simp only [mput, mrow_same, mrow_hit, mrow_miss, mrow_sw, idr_eq, ne_eq, Nat.reduceEqDiff, not_false_eq_true, Nat.reduceLT, reduceCtorEq] at q9
                      exact q9
                    refine G.callS (as := [.int s4]) (rest := []) oX12_ones lk_EvenFindersModel_345 (by decide +kernel) rfl (Nat.le_of_ble_eq_true rfl) rfl ⟨Nat.le_of_ble_eq_true rfl, Nat.le_of_ble_eq_true rfl⟩ t39 (fun v9 N9 h40 => ?_) (fun E9 N9 h40 => by cases h40)
                    cases h40
                    show G z mX12_settle (d + 2) 0 0 113 [some (.ref 54), some (.int x1), some (.int x2), some (.int s3), some (.int s4), some (.int (k_worthOf (M.1 61) nt s4))] [.int (k_ones s4)] M Q
                    refine G.sl [(.iload_n 3, 1, 3, 0, 0, 0)] [] (pc2 := 114) (ls2 := [some (.ref 54), some (.int x1), some (.int x2), some (.int s3), some (.int s4), some (.int (k_worthOf (M.1 61) nt s4))]) (st2 := [.int s3, .int (k_ones s4)]) (M2 := M) (Ps := []) (by decide +kernel) rfl rfl trivial ?_
                    obtain ⟨k41, hk⟩ := hk
                    have t42 : GM z mX12_ones (d + 1) [.int s3] M (fun rs => rs = .inl (some (.int (k_ones s3)), M)) := by
                      have q9 := c_k_ones z (d + 1) M s3
                      try simp only [mput, mrow_same, mrow_hit, mrow_miss, mrow_sw, idr_eq, ne_eq, Nat.reduceEqDiff, not_false_eq_true, Nat.reduceLT, reduceCtorEq] at q9
                      exact q9
                    refine G.callS (as := [.int s3]) (rest := [.int (k_ones s4)]) oX12_ones lk_EvenFindersModel_345 (by decide +kernel) rfl (Nat.le_of_ble_eq_true rfl) rfl ⟨Nat.le_of_ble_eq_true rfl, Nat.le_of_ble_eq_true rfl⟩ t42 (fun v9 N9 h43 => ?_) (fun E9 N9 h43 => by cases h43)
                    cases h43
                    show G z mX12_settle (d + 2) 0 0 117 [some (.ref 54), some (.int x1), some (.int x2), some (.int s3), some (.int s4), some (.int (k_worthOf (M.1 61) nt s4))] [.int (k_ones s3), .int (k_ones s4)] M Q
                    refine G.ic_ge (off := (6)) (tgt := 123) (by decide +kernel) rfl (fun c44 => ?_) (fun c44 => ?_)
                    · skip
                      rw [if_pos c44] at hk
                      refine G.sl [(.iinc 4 1, 3, 4, 0, 0, nI 1), (.goto (-95), 3, 31, 0, 0, 0)] [] (pc2 := 31) (ls2 := [some (.ref 54), some (.int x1), some (.int x2), some (.int s3), some (.int (s4 + nI 1)), some (.int (k_worthOf (M.1 61) nt s4))]) (st2 := []) (M2 := M) (Ps := []) (by decide +kernel) rfl rfl trivial ?_
                      refine G.loc (ls2 := [some (.ref 54), some (.int x1), some (.int x2), some (.int s3), some (.int (s4 + nI 1)), none]) (by simp [subL]) ?_
                      simp only [k_settle_31, if_neg c20, if_neg c23, if_pos c27, if_pos c28, if_neg c29, if_neg c33, if_pos c37, if_pos c44] at hX
                      exact ih s3 (s4 + nI 1) hk hX
                    · skip
                      rw [if_neg c44] at hk
                      refine G.sl [(.iload 4, 2, 4, 0, 0, 0), (.istore_n 3, 1, 3, 0, 0, 0), (.iinc 4 1, 3, 4, 0, 0, nI 1), (.goto (-95), 3, 31, 0, 0, 0)] [] (pc2 := 31) (ls2 := [some (.ref 54), some (.int x1), some (.int x2), some (.int s4), some (.int (s4 + nI 1)), some (.int (k_worthOf (M.1 61) nt s4))]) (st2 := []) (M2 := M) (Ps := []) (by decide +kernel) rfl rfl trivial ?_
                      refine G.loc (ls2 := [some (.ref 54), some (.int x1), some (.int x2), some (.int s4), some (.int (s4 + nI 1)), none]) (by simp [subL]) ?_
                      simp only [k_settle_31, if_neg c20, if_neg c23, if_pos c27, if_pos c28, if_neg c29, if_neg c33, if_pos c37, if_neg c44] at hX
                      exact ih s4 (s4 + nI 1) hk hX
            · skip
              rw [if_neg c28] at hk
              refine G.sl [(.goto 43, 3, 123, 0, 0, 0), (.iinc 4 1, 3, 4, 0, 0, nI 1), (.goto (-95), 3, 31, 0, 0, 0)] [] (pc2 := 31) (ls2 := [some (.ref 54), some (.int x1), some (.int x2), some (.int s3), some (.int (s4 + nI 1)), some (.int (k_worthOf (M.1 61) nt s4))]) (st2 := []) (M2 := M) (Ps := []) (by decide +kernel) rfl rfl trivial ?_
              refine G.loc (ls2 := [some (.ref 54), some (.int x1), some (.int x2), some (.int s3), some (.int (s4 + nI 1)), none]) (by simp [subL]) ?_
              simp only [k_settle_31, if_neg c20, if_neg c23, if_pos c27, if_neg c28] at hX
              exact ih s3 (s4 + nI 1) hk hX
set_option maxHeartbeats 4000000 in
set_option maxRecDepth 3000 in
theorem c_k_settle_54 (z : Zp) (d : Nat) (M : Mem) (x1 : Int32) (nf : Nat) (hnf : nf ≤ 6) (cf : M.1 54 23 = nI nf) (hk : k_settle_ok (M.1 54) (M.1 55) (M.1 61) (M.1 71) (M.1 72) nf x1) : GM z mX12_settle (d + 2) [.ref 54, .int x1] M (fun rs => rs = .inl (some (.int ((k_settle (M.1 54) (M.1 55) (M.1 61) (M.1 71) (M.1 72) nf x1).1)), mrow (mrow (mrow M 54 ((k_settle (M.1 54) (M.1 55) (M.1 61) (M.1 71) (M.1 72) nf x1).2.1)) 55 ((k_settle (M.1 54) (M.1 55) (M.1 61) (M.1 71) (M.1 72) nf x1).2.2.1)) 72 ((k_settle (M.1 54) (M.1 55) (M.1 61) (M.1 71) (M.1 72) nf x1).2.2.2))) := by
  simp only [k_settle_ok] at hk
  refine GM.of oX12_settle.1 (Nat.le_of_ble_eq_true rfl) ?_
  show G z mX12_settle (d + 2) 0 0 0 [some (.ref 54), some (.int x1), none, none, none, none] [] M _
  obtain ⟨Q, hQ⟩ : ∃ Q : Rs → Prop, Q = (fun rs => rs = .inl (some (.int ((k_settle (M.1 54) (M.1 55) (M.1 61) (M.1 71) (M.1 72) nf x1).1)), mrow (mrow (mrow M 54 ((k_settle (M.1 54) (M.1 55) (M.1 61) (M.1 71) (M.1 72) nf x1).2.1)) 55 ((k_settle (M.1 54) (M.1 55) (M.1 61) (M.1 71) (M.1 72) nf x1).2.2.1)) 72 ((k_settle (M.1 54) (M.1 55) (M.1 61) (M.1 71) (M.1 72) nf x1).2.2.2))) := ⟨_, rfl⟩
  rw [← hQ]
  refine G.sl [(.aload_n 0, 1, 0, 0, 0, 0), (.iconst 0, 1, 0, 0, 0, nI 0), (.putfield 3, 3, 11, 0, 123, 0), (.aload_n 0, 1, 0, 0, 0, 0), (.iload_n 1, 1, 1, 0, 0, 0), (.iconst 1, 1, 0, 0, 0, nI 1)] [] (pc2 := 8) (ls2 := [some (.ref 54), some (.int x1), none, none, none, none]) (st2 := [.int (nI 1), .int x1, .ref 54]) (M2 := mput M 54 0 (nI 0)) (Ps := []) (by decide +kernel) rfl rfl trivial ?_
  refine G.mem (M' := mrow M 54 (upd (M.1 54) 0 (nI 0))) (by first | rfl | (simp only [mput, mrow_same, mrow_hit, mrow_miss, mrow_sw, idr_eq, ne_eq, Nat.reduceEqDiff, not_false_eq_true, Nat.reduceLT, reduceCtorEq]; done)) ?_
  obtain ⟨k1, hk⟩ := hk
  rcases g2 : k_isFinder (upd (M.1 54) 0 (nI 0)) (M.1 55) nf x1 (nI 1) with ⟨v3, r4, r5⟩
  try simp only [g2] at hk
  have ev3 : v3 = 0 ∨ v3 = 1 := by
    have q9 := k_isFinder_01 (upd (M.1 54) 0 (nI 0)) (M.1 55) nf x1 (nI 1)
    rw [g2] at q9
    exact q9
  have t6 : GM z mX12_isFinder (d + 1) [.ref 54, .int x1, .int (nI 1)] (mrow M 54 (upd (M.1 54) 0 (nI 0))) (fun rs => rs = .inl (some (.int v3), mrow (mrow M 54 r4) 55 r5)) := by
    have q9 := c_k_isFinder_54 z d (mrow M 54 (upd (M.1 54) 0 (nI 0))) x1 (nI 1) nf hnf cf
    try simp only [mput, mrow_same, mrow_hit, mrow_miss, mrow_sw, idr_eq, ne_eq, Nat.reduceEqDiff, not_false_eq_true, Nat.reduceLT, reduceCtorEq, g2] at q9
    exact q9
  refine G.callV (as := [.int x1, .int (nI 1)]) (rest := []) (a := 54) oX12_isFinder lk_EvenFindersModel_400 (by decide +kernel) rfl rfl ⟨rfl, rfl⟩ (Nat.le_of_ble_eq_true rfl) rfl ⟨Nat.le_of_ble_eq_true rfl, Nat.le_of_ble_eq_true rfl⟩ t6 (fun v9 N9 h7 => ?_) (fun E9 N9 h7 => by cases h7)
  cases h7
  show G z mX12_settle (d + 2) 0 0 11 [some (.ref 54), some (.int x1), none, none, none, none] [.int v3] (mrow (mrow M 54 r4) 55 r5) Q
  refine G.if_ne (off := (5)) (tgt := 16) (by decide +kernel) rfl (fun c8 => ?_) (fun c8 => ?_)
  · skip
    rw [if_neg c8] at hk
    refine G.sl [(.aload_n 0, 1, 0, 0, 0, 0)] [] (pc2 := 17) (ls2 := [some (.ref 54), some (.int x1), none, none, none, none]) (st2 := [.ref 54]) (M2 := mrow (mrow M 54 r4) 55 r5) (Ps := []) (by decide +kernel) rfl rfl trivial ?_
    obtain ⟨k9, hk⟩ := hk
    rcases g10 : k_take (M.1 71) (M.1 72) with ⟨u11, r12⟩
    try simp only [g10] at hk
    have t13 : GM z mX12_take (d + 1) [.ref 54] (mrow (mrow M 54 r4) 55 r5) (fun rs => rs = .inl (none, mrow (mrow (mrow M 54 r4) 55 r5) 72 r12)) := by
      have q9 := c_k_take_54 z d (mrow (mrow M 54 r4) 55 r5) k9
      try simp only [mput, mrow_same, mrow_hit, mrow_miss, mrow_sw, idr_eq, ne_eq, Nat.reduceEqDiff, not_false_eq_true, Nat.reduceLT, reduceCtorEq, g10] at q9
      exact q9
    refine G.callV (as := []) (rest := []) (a := 54) oX12_take lk_EvenFindersModel_320 (by decide +kernel) rfl rfl ⟨rfl, rfl⟩ (Nat.le_of_ble_eq_true rfl) rfl ⟨Nat.le_of_ble_eq_true rfl, Nat.le_of_ble_eq_true rfl⟩ t13 (fun v9 N9 h14 => ?_) (fun E9 N9 h14 => by cases h14)
    cases h14
    show G z mX12_settle (d + 2) 0 0 20 [some (.ref 54), some (.int x1), none, none, none, none] [] (mrow (mrow (mrow M 54 r4) 55 r5) 72 r12) Q
    refine G.sl [(.aload_n 0, 1, 0, 0, 0, 0), (.iload_n 1, 1, 1, 0, 0, 0)] [] (pc2 := 22) (ls2 := [some (.ref 54), some (.int x1), none, none, none, none]) (st2 := [.int x1, .ref 54]) (M2 := mrow (mrow (mrow M 54 r4) 55 r5) 72 r12) (Ps := []) (by decide +kernel) rfl rfl trivial ?_
    obtain ⟨k15, k16, hk⟩ := hk
    obtain ⟨k17, hk⟩ := hk
    have t18 : GM z mX12_heldBy (d + 1) [.ref 54, .int x1] (mrow (mrow (mrow M 54 r4) 55 r5) 72 r12) (fun rs => rs = .inl (some (.int (k_heldBy r12 (ix (r4 22)) x1)), mrow (mrow (mrow M 54 r4) 55 r5) 72 r12)) := by
      have q9 := c_k_heldBy_54 z (d + 1) (mrow (mrow (mrow M 54 r4) 55 r5) 72 r12) x1 (ix (r4 22)) k16 (ixE k15)
      try simp only [mput, mrow_same, mrow_hit, mrow_miss, mrow_sw, idr_eq, ne_eq, Nat.reduceEqDiff, not_false_eq_true, Nat.reduceLT, reduceCtorEq] at q9
      exact q9
    refine G.callV (as := [.int x1]) (rest := []) (a := 54) oX12_heldBy lk_EvenFindersModel_342 (by decide +kernel) rfl rfl ⟨rfl, rfl⟩ (Nat.le_of_ble_eq_true rfl) rfl ⟨Nat.le_of_ble_eq_true rfl, Nat.le_of_ble_eq_true rfl⟩ t18 (fun v9 N9 h19 => ?_) (fun E9 N9 h19 => by cases h19)
    cases h19
    show G z mX12_settle (d + 2) 0 0 25 [some (.ref 54), some (.int x1), none, none, none, none] [.int (k_heldBy r12 (ix (r4 22)) x1)] (mrow (mrow (mrow M 54 r4) 55 r5) 72 r12) Q
    refine G.sl [(.istore_n 2, 1, 2, 0, 0, 0), (.iconst (-1), 1, 0, 0, 0, (-1)), (.istore_n 3, 1, 3, 0, 0, 0), (.iconst 0, 1, 0, 0, 0, nI 0), (.istore 4, 2, 4, 0, 0, 0)] [] (pc2 := 31) (ls2 := [some (.ref 54), some (.int x1), some (.int (k_heldBy r12 (ix (r4 22)) x1)), some (.int ((-1))), some (.int (nI 0)), none]) (st2 := []) (M2 := mrow (mrow (mrow M 54 r4) 55 r5) 72 r12) (Ps := []) (by decide +kernel) rfl rfl trivial ?_
    obtain ⟨k45, hk⟩ := hk
    refine lp_k_settle_54_31 z d (mrow (mrow (mrow M 54 r4) 55 r5) 72 r12) Q x1 (k_heldBy r12 (ix (r4 22)) x1) (ix (r4 22)) (by omega) (ixE k15) FU ((-1)) (nI 0) (by first | (simp only [mput, mrow_same, mrow_hit, mrow_miss, mrow_sw, idr_eq, ne_eq, Nat.reduceEqDiff, not_false_eq_true, Nat.reduceLT, reduceCtorEq]; exact k45) | exact k45) ?_
    try simp only [mput, mrow_same, mrow_hit, mrow_miss, mrow_sw, idr_eq, ne_eq, Nat.reduceEqDiff, not_false_eq_true, Nat.reduceLT, reduceCtorEq]
    rcases g46 : k_settle_31 (M.1 61) r12 (ix (r4 22)) x1 (k_heldBy r12 (ix (r4 22)) x1) FU ((-1)) (nI 0) with ⟨v47, v48⟩
    try simp only [g46] at hk
    show G z mX12_settle (d + 2) 0 0 129 [some (.ref 54), some (.int x1), none, some (.int v47), none, none] [] (mrow (mrow (mrow M 54 r4) 55 r5) 72 r12) Q
    obtain ⟨k49, k50, hk⟩ := hk
    refine G.sl [(.aload_n 0, 1, 0, 0, 0, 0), (.getfield 68, 3, 11, 41, 164, 0), (.bipush 26, 2, 0, 0, 0, nI 26), (.iload_n 1, 1, 1, 0, 0, 0), (.iadd, 1, 0, 0, 0, 0), (.iaload, 1, 0, 0, 0, 0)] [26 + (ix x1)] (pc2 := 138) (ls2 := [some (.ref 54), some (.int x1), none, some (.int v47), none, none]) (st2 := [.int (r12 (26 + (ix x1)))]) (M2 := mrow (mrow (mrow M 54 r4) 55 r5) 72 r12) (Ps := [((nI 26) + x1) = nI (26 + (ix x1)) ∧ (26 + (ix x1)) < 51]) (by decide +kernel) rfl rfl ⟨⟨(nAdd rfl (ixE k49)), k50⟩, trivial⟩ ?_
    refine G.if_gt (off := (7)) (tgt := 145) (by decide +kernel) rfl (fun c51 => ?_) (fun c51 => ?_)
    · skip
      refine G.sl [(.iload_n 3, 1, 3, 0, 0, 0)] [] (pc2 := 146) (ls2 := [some (.ref 54), some (.int x1), none, some (.int v47), none, none]) (st2 := [.int v47]) (M2 := mrow (mrow (mrow M 54 r4) 55 r5) 72 r12) (Ps := []) (by decide +kernel) rfl rfl trivial ?_
      exact G.reti (by decide +kernel) rfl rfl (Nat.le_of_ble_eq_true rfl) (Nat.le_of_ble_eq_true rfl) ((by rw [hQ]; simp only [k_settle, g2, if_neg c8, g10, g46, if_pos c51, mrow_self]))
    · skip
      refine G.sl [(.iconst 0, 1, 0, 0, 0, nI 0), (.goto 4, 3, 146, 0, 0, 0)] [] (pc2 := 146) (ls2 := [some (.ref 54), some (.int x1), none, some (.int v47), none, none]) (st2 := [.int (nI 0)]) (M2 := mrow (mrow (mrow M 54 r4) 55 r5) 72 r12) (Ps := []) (by decide +kernel) rfl rfl trivial ?_
      exact G.reti (by decide +kernel) rfl rfl (Nat.le_of_ble_eq_true rfl) (Nat.le_of_ble_eq_true rfl) ((by rw [hQ]; simp only [k_settle, g2, if_neg c8, g10, g46, if_neg c51, mrow_self]))
  · skip
    rw [if_pos c8] at hk
    refine G.sl [(.iconst 0, 1, 0, 0, 0, nI 0)] [] (pc2 := 15) (ls2 := [some (.ref 54), some (.int x1), none, none, none, none]) (st2 := [.int (nI 0)]) (M2 := mrow (mrow M 54 r4) 55 r5) (Ps := []) (by decide +kernel) rfl rfl trivial ?_
    refine G.mem (M' := mrow (mrow (mrow M 54 r4) 55 r5) 72 (M.1 72)) (((mrow_id (N := mrow (mrow M 54 r4) 55 r5) (c := 72) (f := M.1 72) (by first | rfl | (simp only [mput, mrow_same, mrow_hit, mrow_miss, mrow_sw, idr_eq, ne_eq, Nat.reduceEqDiff, not_false_eq_true, Nat.reduceLT, reduceCtorEq]; done))).symm).trans (by first | rfl | (simp only [mput, mrow_same, mrow_hit, mrow_miss, mrow_sw, idr_eq, ne_eq, Nat.reduceEqDiff, not_false_eq_true, Nat.reduceLT, reduceCtorEq]; done))) ?_
    exact G.reti (by decide +kernel) rfl rfl (Nat.le_of_ble_eq_true rfl) (Nat.le_of_ble_eq_true rfl) ((by rw [hQ]; simp only [k_settle, g2, if_pos c8, mrow_self]))
set_option maxHeartbeats 4000000 in
set_option maxRecDepth 3000 in
theorem lp_k_parts_54_49 (z : Zp) (d : Nat) (M : Mem) (Q : Rs → Prop) (x2 : Int32) (x3 : Int32) (nt : Nat) (hnt : nt ≤ 10) (ct : M.1 54 22 = nI nt) : ∀ (k0 : Nat) (s4 : Int32) (s5 : Int32), k_parts_49_ok (M.1 61) nt x2 x3 k0 s4 s5 → (match k_parts_49 (M.1 61) nt x2 x3 k0 s4 s5 with | (s4', s5') => G z mX12_parts (d + 2) 0 0 90 [none, none, none, none, some (.int (s4')), none] [] M Q) → G z mX12_parts (d + 2) 0 0 49 [some (.ref 54), none, some (.int x2), some (.int x3), some (.int s4), some (.int s5)] [] M Q := by
  intro k0
  induction k0 with
  | zero =>
      intro s4 s5 hk hX
      exact (by simpa only [k_parts_49_ok] using hk : False).elim
  | succ k0 ih =>
      intro s4 s5 hk hX
      simp only [k_parts_49_ok] at hk
      refine G.sl [(.iload 5, 2, 5, 0, 0, 0), (.iload_n 3, 1, 3, 0, 0, 0)] [] (pc2 := 52) (ls2 := [some (.ref 54), none, some (.int x2), some (.int x3), some (.int s4), some (.int s5)]) (st2 := [.int x3, .int s5]) (M2 := M) (Ps := []) (by decide +kernel) rfl rfl trivial ?_
      refine G.ic_gt (off := (38)) (tgt := 90) (by decide +kernel) rfl (fun c31 => ?_) (fun c31 => ?_)
      · skip
        rw [if_pos c31] at hk
        refine G.loc (ls2 := [none, none, none, none, some (.int s4), none]) (by simp [subL]) ?_
        simp only [k_parts_49, if_pos c31] at hX
        exact hX
      · skip
        rw [if_neg c31] at hk
        refine G.sl [(.iload 4, 2, 4, 0, 0, 0), (.iload 5, 2, 5, 0, 0, 0), (.iload_n 3, 1, 3, 0, 0, 0), (.iconst (-1), 1, 0, 0, 0, (-1)), (.ixor, 1, 0, 0, 0, 0), (.iand, 1, 0, 0, 0, 0)] [] (pc2 := 63) (ls2 := [some (.ref 54), none, some (.int x2), some (.int x3), some (.int s4), some (.int s5)]) (st2 := [.int (s5 &&& (x3 ^^^ ((-1)))), .int s4]) (M2 := M) (Ps := []) (by decide +kernel) rfl rfl trivial ?_
        refine G.if_ne (off := (17)) (tgt := 80) (by decide +kernel) rfl (fun c32 => ?_) (fun c32 => ?_)
        · skip
          rw [if_neg c32] at hk
          refine G.sl [(.iconst 0, 1, 0, 0, 0, nI 0), (.iadd, 1, 0, 0, 0, 0), (.istore 4, 2, 4, 0, 0, 0), (.iinc 5 1, 3, 5, 0, 0, nI 1), (.goto (-38), 3, 49, 0, 0, 0)] [] (pc2 := 49) (ls2 := [some (.ref 54), none, some (.int x2), some (.int x3), some (.int (s4 + (nI 0))), some (.int (s5 + nI 1))]) (st2 := []) (M2 := M) (Ps := []) (by decide +kernel) rfl rfl trivial ?_
          simp only [k_parts_49, if_neg c31, if_neg c32] at hX
          exact ih (s4 + (nI 0)) (s5 + nI 1) hk hX
        · skip
          rw [if_pos c32] at hk
          refine G.sl [(.aload_n 0, 1, 0, 0, 0, 0), (.iload 5, 2, 5, 0, 0, 0)] [] (pc2 := 69) (ls2 := [some (.ref 54), none, some (.int x2), some (.int x3), some (.int s4), some (.int s5)]) (st2 := [.int s5, .ref 54, .int s4]) (M2 := M) (Ps := []) (by decide +kernel) rfl rfl trivial ?_
          obtain ⟨k33, hk⟩ := hk
          have t34 : GM z mX12_worthOf (d + 1) [.ref 54, .int s5] M (fun rs => rs = .inl (some (.int (k_worthOf (M.1 61) nt s5)), M)) := by
            have q9 := c_k_worthOf_54 z (d + 1) M s5 nt hnt ct
            try simp only [mput, mrow_same, mrow_hit, mrow_miss, mrow_sw, idr_eq, ne_eq, Nat.reduceEqDiff, not_false_eq_true, Nat.reduceLT, reduceCtorEq] at q9
            exact q9
          refine G.callV (as := [.int s5]) (rest := [.int s4]) (a := 54) oX12_worthOf lk_EvenFindersModel_388 (by decide +kernel) rfl rfl ⟨rfl, rfl⟩ (Nat.le_of_ble_eq_true rfl) rfl ⟨Nat.le_of_ble_eq_true rfl, Nat.le_of_ble_eq_true rfl⟩ t34 (fun v9 N9 h35 => ?_) (fun E9 N9 h35 => by cases h35)
          cases h35
          show G z mX12_parts (d + 2) 0 0 72 [some (.ref 54), none, some (.int x2), some (.int x3), some (.int s4), some (.int s5)] [.int (k_worthOf (M.1 61) nt s5), .int s4] M Q
          refine G.sl [(.iload_n 2, 1, 2, 0, 0, 0)] [] (pc2 := 73) (ls2 := [some (.ref 54), none, some (.int x2), some (.int x3), some (.int s4), some (.int s5)]) (st2 := [.int x2, .int (k_worthOf (M.1 61) nt s5), .int s4]) (M2 := M) (Ps := []) (by decide +kernel) rfl rfl trivial ?_
          refine G.ic_ne (off := (7)) (tgt := 80) (by decide +kernel) rfl (fun c36 => ?_) (fun c36 => ?_)
          · skip
            rw [if_neg c36] at hk
            refine G.sl [(.iconst 0, 1, 0, 0, 0, nI 0), (.iadd, 1, 0, 0, 0, 0), (.istore 4, 2, 4, 0, 0, 0), (.iinc 5 1, 3, 5, 0, 0, nI 1), (.goto (-38), 3, 49, 0, 0, 0)] [] (pc2 := 49) (ls2 := [some (.ref 54), none, some (.int x2), some (.int x3), some (.int (s4 + (nI 0))), some (.int (s5 + nI 1))]) (st2 := []) (M2 := M) (Ps := []) (by decide +kernel) rfl rfl trivial ?_
            simp only [k_parts_49, if_neg c31, if_pos c32, if_neg c36] at hX
            exact ih (s4 + (nI 0)) (s5 + nI 1) hk hX
          · skip
            rw [if_pos c36] at hk
            refine G.sl [(.iconst 1, 1, 0, 0, 0, nI 1), (.goto 4, 3, 81, 0, 0, 0), (.iadd, 1, 0, 0, 0, 0), (.istore 4, 2, 4, 0, 0, 0), (.iinc 5 1, 3, 5, 0, 0, nI 1), (.goto (-38), 3, 49, 0, 0, 0)] [] (pc2 := 49) (ls2 := [some (.ref 54), none, some (.int x2), some (.int x3), some (.int (s4 + (nI 1))), some (.int (s5 + nI 1))]) (st2 := []) (M2 := M) (Ps := []) (by decide +kernel) rfl rfl trivial ?_
            simp only [k_parts_49, if_neg c31, if_pos c32, if_pos c36] at hX
            exact ih (s4 + (nI 1)) (s5 + nI 1) hk hX
set_option maxHeartbeats 4000000 in
set_option maxRecDepth 3000 in
theorem c_k_parts_54 (z : Zp) (d : Nat) (M : Mem) (x1 : Int32) (x2 : Int32) (nf : Nat) (hnf : nf ≤ 6) (cf : M.1 54 23 = nI nf) (hk : k_parts_ok (M.1 54) (M.1 55) (M.1 61) (M.1 71) (M.1 72) nf x1 x2) : GM z mX12_parts (d + 2) [.ref 54, .int x1, .int x2] M (fun rs => rs = .inl (some (.int ((k_parts (M.1 54) (M.1 55) (M.1 61) (M.1 71) (M.1 72) nf x1 x2).1)), mrow (mrow (mrow M 54 ((k_parts (M.1 54) (M.1 55) (M.1 61) (M.1 71) (M.1 72) nf x1 x2).2.1)) 55 ((k_parts (M.1 54) (M.1 55) (M.1 61) (M.1 71) (M.1 72) nf x1 x2).2.2.1)) 72 ((k_parts (M.1 54) (M.1 55) (M.1 61) (M.1 71) (M.1 72) nf x1 x2).2.2.2))) := by
  simp only [k_parts_ok] at hk
  refine GM.of oX12_parts.1 (Nat.le_of_ble_eq_true rfl) ?_
  show G z mX12_parts (d + 2) 0 0 0 [some (.ref 54), some (.int x1), some (.int x2), none, none, none] [] M _
  obtain ⟨Q, hQ⟩ : ∃ Q : Rs → Prop, Q = (fun rs => rs = .inl (some (.int ((k_parts (M.1 54) (M.1 55) (M.1 61) (M.1 71) (M.1 72) nf x1 x2).1)), mrow (mrow (mrow M 54 ((k_parts (M.1 54) (M.1 55) (M.1 61) (M.1 71) (M.1 72) nf x1 x2).2.1)) 55 ((k_parts (M.1 54) (M.1 55) (M.1 61) (M.1 71) (M.1 72) nf x1 x2).2.2.1)) 72 ((k_parts (M.1 54) (M.1 55) (M.1 61) (M.1 71) (M.1 72) nf x1 x2).2.2.2))) := ⟨_, rfl⟩
  rw [← hQ]
  refine G.sl [(.aload_n 0, 1, 0, 0, 0, 0), (.iconst 0, 1, 0, 0, 0, nI 0), (.putfield 3, 3, 11, 0, 123, 0), (.aload_n 0, 1, 0, 0, 0, 0), (.iload_n 1, 1, 1, 0, 0, 0), (.iconst 1, 1, 0, 0, 0, nI 1)] [] (pc2 := 8) (ls2 := [some (.ref 54), some (.int x1), some (.int x2), none, none, none]) (st2 := [.int (nI 1), .int x1, .ref 54]) (M2 := mput M 54 0 (nI 0)) (Ps := []) (by decide +kernel) rfl rfl trivial ?_
  refine G.mem (M' := mrow M 54 (upd (M.1 54) 0 (nI 0))) (by first | rfl | (simp only [mput, mrow_same, mrow_hit, mrow_miss, mrow_sw, idr_eq, ne_eq, Nat.reduceEqDiff, not_false_eq_true, Nat.reduceLT, reduceCtorEq]; done)) ?_
  obtain ⟨k1, hk⟩ := hk
  rcases g2 : k_isFinder (upd (M.1 54) 0 (nI 0)) (M.1 55) nf x1 (nI 1) with ⟨v3, r4, r5⟩
  try simp only [g2] at hk
  have ev3 : v3 = 0 ∨ v3 = 1 := by
    have q9 := k_isFinder_01 (upd (M.1 54) 0 (nI 0)) (M.1 55) nf x1 (nI 1)
    rw [g2] at q9
    exact q9
  have t6 : GM z mX12_isFinder (d + 1) [.ref 54, .int x1, .int (nI 1)] (mrow M 54 (upd (M.1 54) 0 (nI 0))) (fun rs => rs = .inl (some (.int v3), mrow (mrow M 54 r4) 55 r5)) := by
    have q9 := c_k_isFinder_54 z d (mrow M 54 (upd (M.1 54) 0 (nI 0))) x1 (nI 1) nf hnf cf
    try simp only [mput, mrow_same, mrow_hit, mrow_miss, mrow_sw, idr_eq, ne_eq, Nat.reduceEqDiff, not_false_eq_true, Nat.reduceLT, reduceCtorEq, g2] at q9
    exact q9
  refine G.callV (as := [.int x1, .int (nI 1)]) (rest := []) (a := 54) oX12_isFinder lk_EvenFindersModel_400 (by decide +kernel) rfl rfl ⟨rfl, rfl⟩ (Nat.le_of_ble_eq_true rfl) rfl ⟨Nat.le_of_ble_eq_true rfl, Nat.le_of_ble_eq_true rfl⟩ t6 (fun v9 N9 h7 => ?_) (fun E9 N9 h7 => by cases h7)
  cases h7
  show G z mX12_parts (d + 2) 0 0 11 [some (.ref 54), some (.int x1), some (.int x2), none, none, none] [.int v3] (mrow (mrow M 54 r4) 55 r5) Q
  refine G.if_eq (off := (20)) (tgt := 31) (by decide +kernel) rfl (fun c8 => ?_) (fun c8 => ?_)
  · skip
    rw [if_pos c8] at hk
    refine G.sl [(.iconst 0, 1, 0, 0, 0, nI 0)] [] (pc2 := 32) (ls2 := [some (.ref 54), some (.int x1), some (.int x2), none, none, none]) (st2 := [.int (nI 0)]) (M2 := mrow (mrow M 54 r4) 55 r5) (Ps := []) (by decide +kernel) rfl rfl trivial ?_
    refine G.mem (M' := mrow (mrow (mrow M 54 r4) 55 r5) 72 (M.1 72)) (((mrow_id (N := mrow (mrow M 54 r4) 55 r5) (c := 72) (f := M.1 72) (by first | rfl | (simp only [mput, mrow_same, mrow_hit, mrow_miss, mrow_sw, idr_eq, ne_eq, Nat.reduceEqDiff, not_false_eq_true, Nat.reduceLT, reduceCtorEq]; done))).symm).trans (by first | rfl | (simp only [mput, mrow_same, mrow_hit, mrow_miss, mrow_sw, idr_eq, ne_eq, Nat.reduceEqDiff, not_false_eq_true, Nat.reduceLT, reduceCtorEq]; done))) ?_
    exact G.reti (by decide +kernel) rfl rfl (Nat.le_of_ble_eq_true rfl) (Nat.le_of_ble_eq_true rfl) ((by rw [hQ]; simp only [k_parts, g2, if_pos c8, mrow_self]))
  · skip
    rw [if_neg c8] at hk
    refine G.sl [(.aload_n 0, 1, 0, 0, 0, 0), (.iload_n 2, 1, 2, 0, 0, 0), (.iconst 0, 1, 0, 0, 0, nI 0), (.sipush 600, 3, 0, 0, 0, nI 600)] [] (pc2 := 20) (ls2 := [some (.ref 54), some (.int x1), some (.int x2), none, none, none]) (st2 := [.int (nI 600), .int (nI 0), .int x2, .ref 54]) (M2 := mrow (mrow M 54 r4) 55 r5) (Ps := []) (by decide +kernel) rfl rfl trivial ?_
    obtain ⟨k9, hk⟩ := hk
    have t10 : GM z mX12_within (d + 1) [.int x2, .int (nI 0), .int (nI 600)] (mrow (mrow M 54 r4) 55 r5) (fun rs => rs = .inl (some (.int (k_within x2 (nI 0) (nI 600))), mrow (mrow M 54 r4) 55 r5)) := by
      have q9 := c_k_within z (d + 1) (mrow (mrow M 54 r4) 55 r5) x2 (nI 0) (nI 600)
      try simp only [mput, mrow_same, mrow_hit, mrow_miss, mrow_sw, idr_eq, ne_eq, Nat.reduceEqDiff, not_false_eq_true, Nat.reduceLT, reduceCtorEq] at q9
      exact q9
    refine G.callS (as := [.int x2, .int (nI 0), .int (nI 600)]) (rest := [.ref 54]) oX12_within lk_EvenFindersModel_379 (by decide +kernel) rfl (Nat.le_of_ble_eq_true rfl) rfl ⟨Nat.le_of_ble_eq_true rfl, Nat.le_of_ble_eq_true rfl⟩ t10 (fun v9 N9 h11 => ?_) (fun E9 N9 h11 => by cases h11)
    cases h11
    show G z mX12_parts (d + 2) 0 0 23 [some (.ref 54), some (.int x1), some (.int x2), none, none, none] [.int (k_within x2 (nI 0) (nI 600)), .ref 54] (mrow (mrow M 54 r4) 55 r5) Q
    refine G.sl [(.iconst 2, 1, 0, 0, 0, nI 2), (.iconst 1, 1, 0, 0, 0, nI 1)] [] (pc2 := 25) (ls2 := [some (.ref 54), some (.int x1), some (.int x2), none, none, none]) (st2 := [.int (nI 1), .int (nI 2), .int (k_within x2 (nI 0) (nI 600)), .ref 54]) (M2 := mrow (mrow M 54 r4) 55 r5) (Ps := []) (by decide +kernel) rfl rfl trivial ?_
    obtain ⟨k12, hk⟩ := hk
    rcases g13 : k_may_1 r4 r5 (k_within x2 (nI 0) (nI 600)) (nI 2) with ⟨v14, r15, r16⟩
    try simp only [g13] at hk
    have ev14 : v14 = 0 ∨ v14 = 1 := by
      have q9 := k_may_1_01 r4 r5 (k_within x2 (nI 0) (nI 600)) (nI 2)
      rw [g13] at q9
      exact q9
    have t17 : GM z mX12_may (d + 1) [.ref 54, .int (k_within x2 (nI 0) (nI 600)), .int (nI 2), .int (nI 1)] (mrow (mrow M 54 r4) 55 r5) (fun rs => rs = .inl (some (.int v14), mrow (mrow M 54 r15) 55 r16)) := by
      have q9 := c_k_may_1_54 z (d + 1) (mrow (mrow M 54 r4) 55 r5) (k_within x2 (nI 0) (nI 600)) (nI 2)
      try simp only [mput, mrow_same, mrow_hit, mrow_miss, mrow_sw, idr_eq, ne_eq, Nat.reduceEqDiff, not_false_eq_true, Nat.reduceLT, reduceCtorEq, g13] at q9
      exact q9
    refine G.callV (as := [.int (k_within x2 (nI 0) (nI 600)), .int (nI 2), .int (nI 1)]) (rest := []) (a := 54) oX12_may lk_EvenFindersModel_213 (by decide +kernel) rfl rfl ⟨rfl, rfl⟩ (Nat.le_of_ble_eq_true rfl) rfl ⟨Nat.le_of_ble_eq_true rfl, Nat.le_of_ble_eq_true rfl⟩ t17 (fun v9 N9 h18 => ?_) (fun E9 N9 h18 => by cases h18)
    cases h18
    show G z mX12_parts (d + 2) 0 0 28 [some (.ref 54), some (.int x1), some (.int x2), none, none, none] [.int v14] (mrow (mrow M 54 r15) 55 r16) Q
    refine G.if_ne (off := (5)) (tgt := 33) (by decide +kernel) rfl (fun c19 => ?_) (fun c19 => ?_)
    · skip
      rw [if_neg c19] at hk
      refine G.sl [(.aload_n 0, 1, 0, 0, 0, 0)] [] (pc2 := 34) (ls2 := [some (.ref 54), some (.int x1), some (.int x2), none, none, none]) (st2 := [.ref 54]) (M2 := mrow (mrow M 54 r15) 55 r16) (Ps := []) (by decide +kernel) rfl rfl trivial ?_
      obtain ⟨k20, hk⟩ := hk
      rcases g21 : k_take (M.1 71) (M.1 72) with ⟨u22, r23⟩
      try simp only [g21] at hk
      have t24 : GM z mX12_take (d + 1) [.ref 54] (mrow (mrow M 54 r15) 55 r16) (fun rs => rs = .inl (none, mrow (mrow (mrow M 54 r15) 55 r16) 72 r23)) := by
        have q9 := c_k_take_54 z d (mrow (mrow M 54 r15) 55 r16) k20
        try simp only [mput, mrow_same, mrow_hit, mrow_miss, mrow_sw, idr_eq, ne_eq, Nat.reduceEqDiff, not_false_eq_true, Nat.reduceLT, reduceCtorEq, g21] at q9
        exact q9
      refine G.callV (as := []) (rest := []) (a := 54) oX12_take lk_EvenFindersModel_320 (by decide +kernel) rfl rfl ⟨rfl, rfl⟩ (Nat.le_of_ble_eq_true rfl) rfl ⟨Nat.le_of_ble_eq_true rfl, Nat.le_of_ble_eq_true rfl⟩ t24 (fun v9 N9 h25 => ?_) (fun E9 N9 h25 => by cases h25)
      cases h25
      show G z mX12_parts (d + 2) 0 0 37 [some (.ref 54), some (.int x1), some (.int x2), none, none, none] [] (mrow (mrow (mrow M 54 r15) 55 r16) 72 r23) Q
      refine G.sl [(.aload_n 0, 1, 0, 0, 0, 0), (.iload_n 1, 1, 1, 0, 0, 0)] [] (pc2 := 39) (ls2 := [some (.ref 54), some (.int x1), some (.int x2), none, none, none]) (st2 := [.int x1, .ref 54]) (M2 := mrow (mrow (mrow M 54 r15) 55 r16) 72 r23) (Ps := []) (by decide +kernel) rfl rfl trivial ?_
      obtain ⟨k26, k27, hk⟩ := hk
      obtain ⟨k28, hk⟩ := hk
      have t29 : GM z mX12_heldBy (d + 1) [.ref 54, .int x1] (mrow (mrow (mrow M 54 r15) 55 r16) 72 r23) (fun rs => rs = .inl (some (.int (k_heldBy r23 (ix (r15 22)) x1)), mrow (mrow (mrow M 54 r15) 55 r16) 72 r23)) := by
        have q9 := c_k_heldBy_54 z (d + 1) (mrow (mrow (mrow M 54 r15) 55 r16) 72 r23) x1 (ix (r15 22)) k27 (ixE k26)
        try simp only [mput, mrow_same, mrow_hit, mrow_miss, mrow_sw, idr_eq, ne_eq, Nat.reduceEqDiff, not_false_eq_true, Nat.reduceLT, reduceCtorEq] at q9
        exact q9
      refine G.callV (as := [.int x1]) (rest := []) (a := 54) oX12_heldBy lk_EvenFindersModel_342 (by decide +kernel) rfl rfl ⟨rfl, rfl⟩ (Nat.le_of_ble_eq_true rfl) rfl ⟨Nat.le_of_ble_eq_true rfl, Nat.le_of_ble_eq_true rfl⟩ t29 (fun v9 N9 h30 => ?_) (fun E9 N9 h30 => by cases h30)
      cases h30
      show G z mX12_parts (d + 2) 0 0 42 [some (.ref 54), some (.int x1), some (.int x2), none, none, none] [.int (k_heldBy r23 (ix (r15 22)) x1)] (mrow (mrow (mrow M 54 r15) 55 r16) 72 r23) Q
      refine G.sl [(.istore_n 3, 1, 3, 0, 0, 0), (.iconst 0, 1, 0, 0, 0, nI 0), (.istore 4, 2, 4, 0, 0, 0), (.iconst 0, 1, 0, 0, 0, nI 0), (.istore 5, 2, 5, 0, 0, 0)] [] (pc2 := 49) (ls2 := [some (.ref 54), some (.int x1), some (.int x2), some (.int (k_heldBy r23 (ix (r15 22)) x1)), some (.int (nI 0)), some (.int (nI 0))]) (st2 := []) (M2 := mrow (mrow (mrow M 54 r15) 55 r16) 72 r23) (Ps := []) (by decide +kernel) rfl rfl trivial ?_
      refine G.loc (ls2 := [some (.ref 54), none, some (.int x2), some (.int (k_heldBy r23 (ix (r15 22)) x1)), some (.int (nI 0)), some (.int (nI 0))]) (by simp [subL]) ?_
      obtain ⟨k37, hk⟩ := hk
      refine lp_k_parts_54_49 z d (mrow (mrow (mrow M 54 r15) 55 r16) 72 r23) Q x2 (k_heldBy r23 (ix (r15 22)) x1) (ix (r15 22)) (by omega) (ixE k26) FU (nI 0) (nI 0) (by first | (simp only [mput, mrow_same, mrow_hit, mrow_miss, mrow_sw, idr_eq, ne_eq, Nat.reduceEqDiff, not_false_eq_true, Nat.reduceLT, reduceCtorEq]; exact k37) | exact k37) ?_
      try simp only [mput, mrow_same, mrow_hit, mrow_miss, mrow_sw, idr_eq, ne_eq, Nat.reduceEqDiff, not_false_eq_true, Nat.reduceLT, reduceCtorEq]
      rcases g38 : k_parts_49 (M.1 61) (ix (r15 22)) x2 (k_heldBy r23 (ix (r15 22)) x1) FU (nI 0) (nI 0) with ⟨v39, v40⟩
      show G z mX12_parts (d + 2) 0 0 90 [none, none, none, none, some (.int v39), none] [] (mrow (mrow (mrow M 54 r15) 55 r16) 72 r23) Q
      refine G.sl [(.iload 4, 2, 4, 0, 0, 0)] [] (pc2 := 92) (ls2 := [none, none, none, none, some (.int v39), none]) (st2 := [.int v39]) (M2 := mrow (mrow (mrow M 54 r15) 55 r16) 72 r23) (Ps := []) (by decide +kernel) rfl rfl trivial ?_
      exact G.reti (by decide +kernel) rfl rfl (Nat.le_of_ble_eq_true rfl) (Nat.le_of_ble_eq_true rfl) ((by rw [hQ]; simp only [k_parts, g2, if_neg c8, g13, if_neg c19, g21, g38, mrow_self]))
    · skip
      rw [if_pos c19] at hk
      refine G.sl [(.iconst 0, 1, 0, 0, 0, nI 0)] [] (pc2 := 32) (ls2 := [some (.ref 54), some (.int x1), some (.int x2), none, none, none]) (st2 := [.int (nI 0)]) (M2 := mrow (mrow M 54 r15) 55 r16) (Ps := []) (by decide +kernel) rfl rfl trivial ?_
      refine G.mem (M' := mrow (mrow (mrow M 54 r15) 55 r16) 72 (M.1 72)) (((mrow_id (N := mrow (mrow M 54 r15) 55 r16) (c := 72) (f := M.1 72) (by first | rfl | (simp only [mput, mrow_same, mrow_hit, mrow_miss, mrow_sw, idr_eq, ne_eq, Nat.reduceEqDiff, not_false_eq_true, Nat.reduceLT, reduceCtorEq]; done))).symm).trans (by first | rfl | (simp only [mput, mrow_same, mrow_hit, mrow_miss, mrow_sw, idr_eq, ne_eq, Nat.reduceEqDiff, not_false_eq_true, Nat.reduceLT, reduceCtorEq]; done))) ?_
      exact G.reti (by decide +kernel) rfl rfl (Nat.le_of_ble_eq_true rfl) (Nat.le_of_ble_eq_true rfl) ((by rw [hQ]; simp only [k_parts, g2, if_neg c8, g13, if_pos c19, mrow_self]))
set_option maxHeartbeats 4000000 in
set_option maxRecDepth 3000 in
theorem c_k_liesThen_54 (z : Zp) (d : Nat) (M : Mem) (x1 : Int32) (x2 : Int32) (x3 : Int32) (nt : Nat) (hnt : nt ≤ 10) (ct : M.1 54 22 = nI nt) : GM z mX12_liesThen (d + 1) [.ref 54, .int x1, .int x2, .int x3] M (fun rs => rs = .inl (some (.int (k_liesThen (M.1 61) (M.1 72) nt x1 x2 x3)), M)) := by
  refine GM.of oX12_liesThen.1 (Nat.le_of_ble_eq_true rfl) ?_
  show G z mX12_liesThen (d + 1) 0 0 0 [some (.ref 54), some (.int x1), some (.int x2), some (.int x3)] [] M _
  obtain ⟨Q, hQ⟩ : ∃ Q : Rs → Prop, Q = (fun rs => rs = .inl (some (.int (k_liesThen (M.1 61) (M.1 72) nt x1 x2 x3)), M)) := ⟨_, rfl⟩
  rw [← hQ]
  refine G.sl [(.aload_n 0, 1, 0, 0, 0, 0), (.iload_n 3, 1, 3, 0, 0, 0), (.iload_n 1, 1, 1, 0, 0, 0)] [] (pc2 := 3) (ls2 := [some (.ref 54), some (.int x1), some (.int x2), some (.int x3)]) (st2 := [.int x1, .int x3, .ref 54]) (M2 := M) (Ps := []) (by decide +kernel) rfl rfl trivial ?_
  refine G.ic_ne (off := (15)) (tgt := 18) (by decide +kernel) rfl (fun c1 => ?_) (fun c1 => ?_)
  · skip
    refine G.sl [(.aload_n 0, 1, 0, 0, 0, 0), (.iload_n 1, 1, 1, 0, 0, 0)] [] (pc2 := 20) (ls2 := [some (.ref 54), some (.int x1), some (.int x2), some (.int x3)]) (st2 := [.int x1, .ref 54, .ref 54]) (M2 := M) (Ps := []) (by decide +kernel) rfl rfl trivial ?_
    have t3 : GM z mX12_lyingAt (d) [.ref 54, .int x1] M (fun rs => rs = .inl (some (.int (k_lyingAt (M.1 72) nt x1)), M)) := by
      have q9 := c_k_lyingAt_54 z d M x1 nt hnt ct
      try simp only [mput, mrow_same, mrow_hit, mrow_miss, mrow_sw, idr_eq, ne_eq, Nat.reduceEqDiff, not_false_eq_true, Nat.reduceLT, reduceCtorEq] at q9
      exact q9
    refine G.callV (as := [.int x1]) (rest := [.ref 54]) (a := 54) oX12_lyingAt lk_EvenFindersModel_348 (by decide +kernel) rfl rfl ⟨rfl, rfl⟩ (Nat.le_of_ble_eq_true rfl) rfl ⟨Nat.le_of_ble_eq_true rfl, Nat.le_of_ble_eq_true rfl⟩ t3 (fun v9 N9 h4 => ?_) (fun E9 N9 h4 => by cases h4)
    cases h4
    show G z mX12_liesThen (d + 1) 0 0 23 [some (.ref 54), some (.int x1), some (.int x2), some (.int x3)] [.int (k_lyingAt (M.1 72) nt x1), .ref 54] M Q
    refine G.sl [(.iconst 1, 1, 0, 0, 0, nI 1), (.iload_n 2, 1, 2, 0, 0, 0), (.ishl, 1, 0, 0, 0, 0), (.iconst (-1), 1, 0, 0, 0, (-1)), (.ixor, 1, 0, 0, 0, 0), (.iand, 1, 0, 0, 0, 0)] [] (pc2 := 29) (ls2 := [some (.ref 54), some (.int x1), some (.int x2), some (.int x3)]) (st2 := [.int ((k_lyingAt (M.1 72) nt x1) &&& (((nI 1) <<< (x2 &&& 31)) ^^^ ((-1)))), .ref 54]) (M2 := M) (Ps := []) (by decide +kernel) rfl rfl trivial ?_
    have t6 : GM z mX12_worthOf (d) [.ref 54, .int ((k_lyingAt (M.1 72) nt x1) &&& (((nI 1) <<< (x2 &&& 31)) ^^^ ((-1))))] M (fun rs => rs = .inl (some (.int (k_worthOf (M.1 61) nt ((k_lyingAt (M.1 72) nt x1) &&& (((nI 1) <<< (x2 &&& 31)) ^^^ ((-1)))))), M)) := by
      have q9 := c_k_worthOf_54 z d M ((k_lyingAt (M.1 72) nt x1) &&& (((nI 1) <<< (x2 &&& 31)) ^^^ ((-1)))) nt hnt ct
      try simp only [mput, mrow_same, mrow_hit, mrow_miss, mrow_sw, idr_eq, ne_eq, Nat.reduceEqDiff, not_false_eq_true, Nat.reduceLT, reduceCtorEq] at q9
      exact q9
    refine G.callV (as := [.int ((k_lyingAt (M.1 72) nt x1) &&& (((nI 1) <<< (x2 &&& 31)) ^^^ ((-1))))]) (rest := []) (a := 54) oX12_worthOf lk_EvenFindersModel_388 (by decide +kernel) rfl rfl ⟨rfl, rfl⟩ (Nat.le_of_ble_eq_true rfl) rfl ⟨Nat.le_of_ble_eq_true rfl, Nat.le_of_ble_eq_true rfl⟩ t6 (fun v9 N9 h7 => ?_) (fun E9 N9 h7 => by cases h7)
    cases h7
    show G z mX12_liesThen (d + 1) 0 0 32 [some (.ref 54), some (.int x1), some (.int x2), some (.int x3)] [.int (k_worthOf (M.1 61) nt ((k_lyingAt (M.1 72) nt x1) &&& (((nI 1) <<< (x2 &&& 31)) ^^^ ((-1)))))] M Q
    exact G.reti (by decide +kernel) rfl rfl (Nat.le_of_ble_eq_true rfl) (Nat.le_of_ble_eq_true rfl) ((by rw [hQ]; simp only [k_liesThen, if_neg c1, mrow_self]))
  · skip
    refine G.sl [(.aload_n 0, 1, 0, 0, 0, 0), (.iload_n 1, 1, 1, 0, 0, 0)] [] (pc2 := 8) (ls2 := [some (.ref 54), some (.int x1), some (.int x2), some (.int x3)]) (st2 := [.int x1, .ref 54, .ref 54]) (M2 := M) (Ps := []) (by decide +kernel) rfl rfl trivial ?_
    have t9 : GM z mX12_lyingAt (d) [.ref 54, .int x1] M (fun rs => rs = .inl (some (.int (k_lyingAt (M.1 72) nt x1)), M)) := by
      have q9 := c_k_lyingAt_54 z d M x1 nt hnt ct
      try simp only [mput, mrow_same, mrow_hit, mrow_miss, mrow_sw, idr_eq, ne_eq, Nat.reduceEqDiff, not_false_eq_true, Nat.reduceLT, reduceCtorEq] at q9
      exact q9
    refine G.callV (as := [.int x1]) (rest := [.ref 54]) (a := 54) oX12_lyingAt lk_EvenFindersModel_348 (by decide +kernel) rfl rfl ⟨rfl, rfl⟩ (Nat.le_of_ble_eq_true rfl) rfl ⟨Nat.le_of_ble_eq_true rfl, Nat.le_of_ble_eq_true rfl⟩ t9 (fun v9 N9 h10 => ?_) (fun E9 N9 h10 => by cases h10)
    cases h10
    show G z mX12_liesThen (d + 1) 0 0 11 [some (.ref 54), some (.int x1), some (.int x2), some (.int x3)] [.int (k_lyingAt (M.1 72) nt x1), .ref 54] M Q
    refine G.sl [(.iconst 1, 1, 0, 0, 0, nI 1), (.iload_n 2, 1, 2, 0, 0, 0), (.ishl, 1, 0, 0, 0, 0), (.ior, 1, 0, 0, 0, 0), (.goto 14, 3, 29, 0, 0, 0)] [] (pc2 := 29) (ls2 := [some (.ref 54), some (.int x1), some (.int x2), some (.int x3)]) (st2 := [.int ((k_lyingAt (M.1 72) nt x1) ||| ((nI 1) <<< (x2 &&& 31))), .ref 54]) (M2 := M) (Ps := []) (by decide +kernel) rfl rfl trivial ?_
    have t12 : GM z mX12_worthOf (d) [.ref 54, .int ((k_lyingAt (M.1 72) nt x1) ||| ((nI 1) <<< (x2 &&& 31)))] M (fun rs => rs = .inl (some (.int (k_worthOf (M.1 61) nt ((k_lyingAt (M.1 72) nt x1) ||| ((nI 1) <<< (x2 &&& 31))))), M)) := by
      have q9 := c_k_worthOf_54 z d M ((k_lyingAt (M.1 72) nt x1) ||| ((nI 1) <<< (x2 &&& 31))) nt hnt ct
      try simp only [mput, mrow_same, mrow_hit, mrow_miss, mrow_sw, idr_eq, ne_eq, Nat.reduceEqDiff, not_false_eq_true, Nat.reduceLT, reduceCtorEq] at q9
      exact q9
    refine G.callV (as := [.int ((k_lyingAt (M.1 72) nt x1) ||| ((nI 1) <<< (x2 &&& 31)))]) (rest := []) (a := 54) oX12_worthOf lk_EvenFindersModel_388 (by decide +kernel) rfl rfl ⟨rfl, rfl⟩ (Nat.le_of_ble_eq_true rfl) rfl ⟨Nat.le_of_ble_eq_true rfl, Nat.le_of_ble_eq_true rfl⟩ t12 (fun v9 N9 h13 => ?_) (fun E9 N9 h13 => by cases h13)
    cases h13
    show G z mX12_liesThen (d + 1) 0 0 32 [some (.ref 54), some (.int x1), some (.int x2), some (.int x3)] [.int (k_worthOf (M.1 61) nt ((k_lyingAt (M.1 72) nt x1) ||| ((nI 1) <<< (x2 &&& 31))))] M Q
    exact G.reti (by decide +kernel) rfl rfl (Nat.le_of_ble_eq_true rfl) (Nat.le_of_ble_eq_true rfl) ((by rw [hQ]; simp only [k_liesThen, if_pos c1, mrow_self]))
set_option maxHeartbeats 4000000 in
set_option maxRecDepth 3000 in
theorem lp_k_isFit_54_5 (z : Zp) (d : Nat) (M : Mem) (Q : Rs → Prop) (x1 : Int32) (x2 : Int32) (np : Nat) (hnp : np ≤ 8) (cp : M.1 54 20 = nI np) (nt : Nat) (hnt : nt ≤ 10) (ct : M.1 54 22 = nI nt) (hX : G z mX12_isFit (d + 2) 0 0 59 [none, none, none, some (.int (k_isFit_5 (M.1 61) (M.1 72) (M.1 75) nt x1 x2 np)), none] [] M Q) : G z mX12_isFit (d + 2) 0 0 5 [some (.ref 54), some (.int x1), some (.int x2), some (.int (nI 1)), some (.int (nI 0))] [] M Q := by
  refine down (n := np) (P := fun i4 => G z mX12_isFit (d + 2) 0 0 5 [some (.ref 54), some (.int x1), some (.int x2), some (.int (k_isFit_5 (M.1 61) (M.1 72) (M.1 75) nt x1 x2 i4)), some (.int (nI i4))] [] M Q) ?_ ?_ 0 (Nat.zero_le _)
  · skip
    refine G.sl [(.iload 4, 2, 4, 0, 0, 0), (.aload_n 0, 1, 0, 0, 0, 0), (.getfield 156, 3, 11, 20, 143, 0)] [] (pc2 := 11) (ls2 := [some (.ref 54), some (.int x1), some (.int x2), some (.int (k_isFit_5 (M.1 61) (M.1 72) (M.1 75) nt x1 x2 np)), some (.int (nI np))]) (st2 := [.int (M.1 54 20), .int (nI np)]) (M2 := M) (Ps := []) (by decide +kernel) rfl rfl trivial ?_
    rw [cp]
    refine G.ic_ge (off := (48)) (tgt := 59) (by decide +kernel) rfl (fun _ => ?_) (fun h9 => absurd (nI_le (by omega) (by omega)) h9)
    refine G.loc (ls2 := [none, none, none, some (.int (k_isFit_5 (M.1 61) (M.1 72) (M.1 75) nt x1 x2 np)), none]) (by simp [subL]) ?_
    exact hX
  · skip
    intro i4 hi ih
    show G z mX12_isFit (d + 2) 0 0 5 [some (.ref 54), some (.int x1), some (.int x2), some (.int (k_isFit_5 (M.1 61) (M.1 72) (M.1 75) nt x1 x2 i4)), some (.int (nI i4))] [] M Q
    refine G.sl [(.iload 4, 2, 4, 0, 0, 0), (.aload_n 0, 1, 0, 0, 0, 0), (.getfield 156, 3, 11, 20, 143, 0)] [] (pc2 := 11) (ls2 := [some (.ref 54), some (.int x1), some (.int x2), some (.int (k_isFit_5 (M.1 61) (M.1 72) (M.1 75) nt x1 x2 i4)), some (.int (nI i4))]) (st2 := [.int (M.1 54 20), .int (nI i4)]) (M2 := M) (Ps := []) (by decide +kernel) rfl rfl trivial ?_
    rw [cp]
    refine G.ic_ge (off := (48)) (tgt := 59) (by decide +kernel) rfl (fun h9 => absurd h9 (nI_ge (by omega) (by omega))) (fun _ => ?_)
    refine G.sl [(.iload_n 3, 1, 3, 0, 0, 0)] [] (pc2 := 15) (ls2 := [some (.ref 54), some (.int x1), some (.int x2), some (.int (k_isFit_5 (M.1 61) (M.1 72) (M.1 75) nt x1 x2 i4)), some (.int (nI i4))]) (st2 := [.int (k_isFit_5 (M.1 61) (M.1 72) (M.1 75) nt x1 x2 i4)]) (M2 := M) (Ps := []) (by decide +kernel) rfl rfl trivial ?_
    refine G.if_eq (off := (36)) (tgt := 51) (by decide +kernel) rfl (fun c1 => ?_) (fun c1 => ?_)
    · skip
      refine G.sl [(.iconst 0, 1, 0, 0, 0, nI 0), (.istore_n 3, 1, 3, 0, 0, 0), (.iinc 4 1, 3, 4, 0, 0, nI 1), (.goto (-51), 3, 5, 0, 0, 0)] [] (pc2 := 5) (ls2 := [some (.ref 54), some (.int x1), some (.int x2), some (.int (nI 0)), some (.int ((nI i4) + nI 1))]) (st2 := []) (M2 := M) (Ps := []) (by decide +kernel) rfl rfl trivial ?_
      rw [nI_add i4 1]
      simp only [k_isFit_5, if_pos c1] at ih
      exact ih
    · skip
      refine G.sl [(.aload_n 0, 1, 0, 0, 0, 0), (.getfield 77, 3, 11, 44, 167, 0), (.iload 4, 2, 4, 0, 0, 0), (.iaload, 1, 0, 0, 0, 0), (.iconst (-1), 1, 0, 0, 0, (-1))] [i4] (pc2 := 26) (ls2 := [some (.ref 54), some (.int x1), some (.int x2), some (.int (k_isFit_5 (M.1 61) (M.1 72) (M.1 75) nt x1 x2 i4)), some (.int (nI i4))]) (st2 := [.int ((-1)), .int (M.1 75 i4)]) (M2 := M) (Ps := [(nI i4) = nI i4 ∧ i4 < 8]) (by decide +kernel) rfl rfl ⟨⟨rfl, (by omega)⟩, trivial⟩ ?_
      refine G.ic_eq (off := (21)) (tgt := 47) (by decide +kernel) rfl (fun c2 => ?_) (fun c2 => ?_)
      · skip
        refine G.sl [(.iconst 1, 1, 0, 0, 0, nI 1), (.goto 4, 3, 52, 0, 0, 0), (.istore_n 3, 1, 3, 0, 0, 0), (.iinc 4 1, 3, 4, 0, 0, nI 1), (.goto (-51), 3, 5, 0, 0, 0)] [] (pc2 := 5) (ls2 := [some (.ref 54), some (.int x1), some (.int x2), some (.int (nI 1)), some (.int ((nI i4) + nI 1))]) (st2 := []) (M2 := M) (Ps := []) (by decide +kernel) rfl rfl trivial ?_
        rw [nI_add i4 1]
        simp only [k_isFit_5, if_neg c1, if_pos c2] at ih
        exact ih
      · skip
        refine G.sl [(.aload_n 0, 1, 0, 0, 0, 0), (.iload 4, 2, 4, 0, 0, 0), (.iload_n 1, 1, 1, 0, 0, 0), (.iload_n 2, 1, 2, 0, 0, 0)] [] (pc2 := 34) (ls2 := [some (.ref 54), some (.int x1), some (.int x2), some (.int (k_isFit_5 (M.1 61) (M.1 72) (M.1 75) nt x1 x2 i4)), some (.int (nI i4))]) (st2 := [.int x2, .int x1, .int (nI i4), .ref 54]) (M2 := M) (Ps := []) (by decide +kernel) rfl rfl trivial ?_
        have t4 : GM z mX12_liesThen (d + 1) [.ref 54, .int (nI i4), .int x1, .int x2] M (fun rs => rs = .inl (some (.int (k_liesThen (M.1 61) (M.1 72) nt (nI i4) x1 x2)), M)) := by
          have q9 := c_k_liesThen_54 z d M (nI i4) x1 x2 nt hnt ct
          try simp only [mput, mrow_same, mrow_hit, mrow_miss, mrow_sw, idr_eq, ne_eq, Nat.reduceEqDiff, not_false_eq_true, Nat.reduceLT, reduceCtorEq] at q9
          exact q9
        refine G.callV (as := [.int (nI i4), .int x1, .int x2]) (rest := []) (a := 54) oX12_liesThen lk_EvenFindersModel_406 (by decide +kernel) rfl rfl ⟨rfl, rfl⟩ (Nat.le_of_ble_eq_true rfl) rfl ⟨Nat.le_of_ble_eq_true rfl, Nat.le_of_ble_eq_true rfl⟩ t4 (fun v9 N9 h5 => ?_) (fun E9 N9 h5 => by cases h5)
        cases h5
        show G z mX12_isFit (d + 2) 0 0 37 [some (.ref 54), some (.int x1), some (.int x2), some (.int (k_isFit_5 (M.1 61) (M.1 72) (M.1 75) nt x1 x2 i4)), some (.int (nI i4))] [.int (k_liesThen (M.1 61) (M.1 72) nt (nI i4) x1 x2)] M Q
        refine G.sl [(.aload_n 0, 1, 0, 0, 0, 0), (.getfield 77, 3, 11, 44, 167, 0), (.iload 4, 2, 4, 0, 0, 0), (.iaload, 1, 0, 0, 0, 0)] [i4] (pc2 := 44) (ls2 := [some (.ref 54), some (.int x1), some (.int x2), some (.int (k_isFit_5 (M.1 61) (M.1 72) (M.1 75) nt x1 x2 i4)), some (.int (nI i4))]) (st2 := [.int (M.1 75 i4), .int (k_liesThen (M.1 61) (M.1 72) nt (nI i4) x1 x2)]) (M2 := M) (Ps := [(nI i4) = nI i4 ∧ i4 < 8]) (by decide +kernel) rfl rfl ⟨⟨rfl, (by omega)⟩, trivial⟩ ?_
        refine G.ic_ne (off := (7)) (tgt := 51) (by decide +kernel) rfl (fun c6 => ?_) (fun c6 => ?_)
        · skip
          refine G.sl [(.iconst 0, 1, 0, 0, 0, nI 0), (.istore_n 3, 1, 3, 0, 0, 0), (.iinc 4 1, 3, 4, 0, 0, nI 1), (.goto (-51), 3, 5, 0, 0, 0)] [] (pc2 := 5) (ls2 := [some (.ref 54), some (.int x1), some (.int x2), some (.int (nI 0)), some (.int ((nI i4) + nI 1))]) (st2 := []) (M2 := M) (Ps := []) (by decide +kernel) rfl rfl trivial ?_
          rw [nI_add i4 1]
          simp only [k_isFit_5, if_neg c1, if_neg c2, if_neg c6] at ih
          exact ih
        · skip
          refine G.sl [(.iconst 1, 1, 0, 0, 0, nI 1), (.goto 4, 3, 52, 0, 0, 0), (.istore_n 3, 1, 3, 0, 0, 0), (.iinc 4 1, 3, 4, 0, 0, nI 1), (.goto (-51), 3, 5, 0, 0, 0)] [] (pc2 := 5) (ls2 := [some (.ref 54), some (.int x1), some (.int x2), some (.int (nI 1)), some (.int ((nI i4) + nI 1))]) (st2 := []) (M2 := M) (Ps := []) (by decide +kernel) rfl rfl trivial ?_
          rw [nI_add i4 1]
          simp only [k_isFit_5, if_neg c1, if_neg c2, if_pos c6] at ih
          exact ih
theorem k_isFit_5_01 (Rthing Rs Rbook : Nat → Int32) (nt : Nat) (x1 : Int32) (x2 : Int32) : ∀ n, k_isFit_5 Rthing Rs Rbook nt x1 x2 n = 0 ∨ k_isFit_5 Rthing Rs Rbook nt x1 x2 n = 1 := by
  intro n
  cases n <;> simp only [k_isFit_5] <;> repeat' split
  all_goals first | exact Or.inl rfl | exact Or.inr rfl
theorem k_isFit_01 (Rthing Rs Rbook : Nat → Int32) (np nt : Nat) (x1 : Int32) (x2 : Int32) : k_isFit Rthing Rs Rbook np nt x1 x2 = 0 ∨ k_isFit Rthing Rs Rbook np nt x1 x2 = 1 := by
  unfold k_isFit
  repeat' split
  all_goals first | exact Or.inl rfl | exact Or.inr rfl | exact k_isFit_5_01 _ _ _ _ _ _ _
set_option maxHeartbeats 4000000 in
set_option maxRecDepth 3000 in
theorem c_k_isFit_54 (z : Zp) (d : Nat) (M : Mem) (x1 : Int32) (x2 : Int32) (np : Nat) (hnp : np ≤ 8) (cp : M.1 54 20 = nI np) (nt : Nat) (hnt : nt ≤ 10) (ct : M.1 54 22 = nI nt) : GM z mX12_isFit (d + 2) [.ref 54, .int x1, .int x2] M (fun rs => rs = .inl (some (.int (k_isFit (M.1 61) (M.1 72) (M.1 75) np nt x1 x2)), M)) := by
  refine GM.of oX12_isFit.1 (Nat.le_of_ble_eq_true rfl) ?_
  show G z mX12_isFit (d + 2) 0 0 0 [some (.ref 54), some (.int x1), some (.int x2), none, none] [] M _
  obtain ⟨Q, hQ⟩ : ∃ Q : Rs → Prop, Q = (fun rs => rs = .inl (some (.int (k_isFit (M.1 61) (M.1 72) (M.1 75) np nt x1 x2)), M)) := ⟨_, rfl⟩
  rw [← hQ]
  refine G.sl [(.iconst 1, 1, 0, 0, 0, nI 1), (.istore_n 3, 1, 3, 0, 0, 0), (.iconst 0, 1, 0, 0, 0, nI 0), (.istore 4, 2, 4, 0, 0, 0)] [] (pc2 := 5) (ls2 := [some (.ref 54), some (.int x1), some (.int x2), some (.int (nI 1)), some (.int (nI 0))]) (st2 := []) (M2 := M) (Ps := []) (by decide +kernel) rfl rfl trivial ?_
  refine lp_k_isFit_54_5 z d M Q x1 x2 np hnp cp nt hnt ct ?_
  show G z mX12_isFit (d + 2) 0 0 59 [none, none, none, some (.int (k_isFit_5 (M.1 61) (M.1 72) (M.1 75) nt x1 x2 np)), none] [] M Q
  refine G.sl [(.iload_n 3, 1, 3, 0, 0, 0)] [] (pc2 := 60) (ls2 := [none, none, none, some (.int (k_isFit_5 (M.1 61) (M.1 72) (M.1 75) nt x1 x2 np)), none]) (st2 := [.int (k_isFit_5 (M.1 61) (M.1 72) (M.1 75) nt x1 x2 np)]) (M2 := M) (Ps := []) (by decide +kernel) rfl rfl trivial ?_
  exact G.reti (by decide +kernel) rfl (nar01 (k_isFit_5_01 (M.1 61) (M.1 72) (M.1 75) nt x1 x2 np)) (Nat.le_of_ble_eq_true rfl) (Nat.le_of_ble_eq_true rfl) ((by rw [hQ]; simp only [k_isFit, mrow_self]))
set_option maxHeartbeats 4000000 in
set_option maxRecDepth 3000 in
theorem lp_k_fits_54_45 (z : Zp) (d : Nat) (M : Mem) (Q : Rs → Prop) (x1 : Int32) (n4 : Nat) (a2 : Int32) (a3 : Int32) (np : Nat) (hnp : np ≤ 8) (cp : M.1 54 20 = nI np) (nt : Nat) (hnt : nt ≤ 10) (ct : M.1 54 22 = nI nt) (b4 : n4 < 10) (hX : G z mX12_fits (d + 3) 0 0 95 [some (.ref 54), some (.int x1), some (.int ((k_fits_45 (M.1 61) (M.1 72) (M.1 75) np nt x1 n4 a2 a3 np).1)), some (.int ((k_fits_45 (M.1 61) (M.1 72) (M.1 75) np nt x1 n4 a2 a3 np).2)), some (.int (nI n4)), none] [] M Q) : G z mX12_fits (d + 3) 0 0 45 [some (.ref 54), some (.int x1), some (.int a2), some (.int a3), some (.int (nI n4)), some (.int (nI 0))] [] M Q := by
  refine down (n := np) (P := fun i5 => G z mX12_fits (d + 3) 0 0 45 [some (.ref 54), some (.int x1), some (.int ((k_fits_45 (M.1 61) (M.1 72) (M.1 75) np nt x1 n4 a2 a3 i5).1)), some (.int ((k_fits_45 (M.1 61) (M.1 72) (M.1 75) np nt x1 n4 a2 a3 i5).2)), some (.int (nI n4)), some (.int (nI i5))] [] M Q) ?_ ?_ 0 (Nat.zero_le _)
  · skip
    refine G.sl [(.iload 5, 2, 5, 0, 0, 0), (.aload_n 0, 1, 0, 0, 0, 0), (.getfield 156, 3, 11, 20, 143, 0)] [] (pc2 := 51) (ls2 := [some (.ref 54), some (.int x1), some (.int ((k_fits_45 (M.1 61) (M.1 72) (M.1 75) np nt x1 n4 a2 a3 np).1)), some (.int ((k_fits_45 (M.1 61) (M.1 72) (M.1 75) np nt x1 n4 a2 a3 np).2)), some (.int (nI n4)), some (.int (nI np))]) (st2 := [.int (M.1 54 20), .int (nI np)]) (M2 := M) (Ps := []) (by decide +kernel) rfl rfl trivial ?_
    rw [cp]
    refine G.ic_ge (off := (44)) (tgt := 95) (by decide +kernel) rfl (fun _ => ?_) (fun h9 => absurd (nI_le (by omega) (by omega)) h9)
    refine G.loc (ls2 := [some (.ref 54), some (.int x1), some (.int ((k_fits_45 (M.1 61) (M.1 72) (M.1 75) np nt x1 n4 a2 a3 np).1)), some (.int ((k_fits_45 (M.1 61) (M.1 72) (M.1 75) np nt x1 n4 a2 a3 np).2)), some (.int (nI n4)), none]) (by simp [subL]) ?_
    exact hX
  · skip
    intro i5 hi ih
    rcases g19 : k_fits_45 (M.1 61) (M.1 72) (M.1 75) np nt x1 n4 a2 a3 i5 with ⟨s2, s3⟩
    try simp only [g19]
    show G z mX12_fits (d + 3) 0 0 45 [some (.ref 54), some (.int x1), some (.int s2), some (.int s3), some (.int (nI n4)), some (.int (nI i5))] [] M Q
    refine G.sl [(.iload 5, 2, 5, 0, 0, 0), (.aload_n 0, 1, 0, 0, 0, 0), (.getfield 156, 3, 11, 20, 143, 0)] [] (pc2 := 51) (ls2 := [some (.ref 54), some (.int x1), some (.int s2), some (.int s3), some (.int (nI n4)), some (.int (nI i5))]) (st2 := [.int (M.1 54 20), .int (nI i5)]) (M2 := M) (Ps := []) (by decide +kernel) rfl rfl trivial ?_
    rw [cp]
    refine G.ic_ge (off := (44)) (tgt := 95) (by decide +kernel) rfl (fun h9 => absurd h9 (nI_ge (by omega) (by omega))) (fun _ => ?_)
    refine G.sl [(.aload_n 0, 1, 0, 0, 0, 0), (.iload 4, 2, 4, 0, 0, 0), (.iload 5, 2, 5, 0, 0, 0)] [] (pc2 := 59) (ls2 := [some (.ref 54), some (.int x1), some (.int s2), some (.int s3), some (.int (nI n4)), some (.int (nI i5))]) (st2 := [.int (nI i5), .int (nI n4), .ref 54]) (M2 := M) (Ps := []) (by decide +kernel) rfl rfl trivial ?_
    have t21 : GM z mX12_isFit (d + 2) [.ref 54, .int (nI n4), .int (nI i5)] M (fun rs => rs = .inl (some (.int (k_isFit (M.1 61) (M.1 72) (M.1 75) np nt (nI n4) (nI i5))), M)) := by
      have q9 := c_k_isFit_54 z d M (nI n4) (nI i5) np hnp cp nt hnt ct
      try simp only [mput, mrow_same, mrow_hit, mrow_miss, mrow_sw, idr_eq, ne_eq, Nat.reduceEqDiff, not_false_eq_true, Nat.reduceLT, reduceCtorEq] at q9
      exact q9
    refine G.callV (as := [.int (nI n4), .int (nI i5)]) (rest := []) (a := 54) oX12_isFit lk_EvenFindersModel_409 (by decide +kernel) rfl rfl ⟨rfl, rfl⟩ (Nat.le_of_ble_eq_true rfl) rfl ⟨Nat.le_of_ble_eq_true rfl, Nat.le_of_ble_eq_true rfl⟩ t21 (fun v9 N9 h22 => ?_) (fun E9 N9 h22 => by cases h22)
    cases h22
    show G z mX12_fits (d + 3) 0 0 62 [some (.ref 54), some (.int x1), some (.int s2), some (.int s3), some (.int (nI n4)), some (.int (nI i5))] [.int (k_isFit (M.1 61) (M.1 72) (M.1 75) np nt (nI n4) (nI i5))] M Q
    refine G.if_ne (off := (6)) (tgt := 68) (by decide +kernel) rfl (fun c23 => ?_) (fun c23 => ?_)
    · skip
      refine G.sl [(.iinc 2 1, 3, 2, 0, 0, nI 1), (.iload_n 3, 1, 3, 0, 0, 0), (.iconst (-1), 1, 0, 0, 0, (-1))] [] (pc2 := 73) (ls2 := [some (.ref 54), some (.int x1), some (.int (s2 + nI 1)), some (.int s3), some (.int (nI n4)), some (.int (nI i5))]) (st2 := [.int ((-1)), .int s3]) (M2 := M) (Ps := []) (by decide +kernel) rfl rfl trivial ?_
      refine G.ic_ne (off := (14)) (tgt := 87) (by decide +kernel) rfl (fun c24 => ?_) (fun c24 => ?_)
      · skip
        refine G.sl [(.iload_n 3, 1, 3, 0, 0, 0), (.istore_n 3, 1, 3, 0, 0, 0), (.iinc 5 1, 3, 5, 0, 0, nI 1), (.goto (-47), 3, 45, 0, 0, 0)] [] (pc2 := 45) (ls2 := [some (.ref 54), some (.int x1), some (.int (s2 + nI 1)), some (.int s3), some (.int (nI n4)), some (.int ((nI i5) + nI 1))]) (st2 := []) (M2 := M) (Ps := []) (by decide +kernel) rfl rfl trivial ?_
        rw [nI_add i5 1]
        simp only [k_fits_45, g19, if_neg c23, if_neg c24] at ih
        exact ih
      · skip
        refine G.sl [(.bipush 10, 2, 0, 0, 0, nI 10), (.iload 4, 2, 4, 0, 0, 0), (.imul, 1, 0, 0, 0, 0), (.iload 5, 2, 5, 0, 0, 0), (.iadd, 1, 0, 0, 0, 0), (.goto 4, 3, 88, 0, 0, 0), (.istore_n 3, 1, 3, 0, 0, 0), (.iinc 5 1, 3, 5, 0, 0, nI 1), (.goto (-47), 3, 45, 0, 0, 0)] [] (pc2 := 45) (ls2 := [some (.ref 54), some (.int x1), some (.int (s2 + nI 1)), some (.int (((nI 10) * (nI n4)) + (nI i5))), some (.int (nI n4)), some (.int ((nI i5) + nI 1))]) (st2 := []) (M2 := M) (Ps := []) (by decide +kernel) rfl rfl trivial ?_
        rw [nI_add i5 1]
        simp only [k_fits_45, g19, if_neg c23, if_pos c24] at ih
        exact ih
    · skip
      refine G.sl [(.goto 24, 3, 89, 0, 0, 0), (.iinc 5 1, 3, 5, 0, 0, nI 1), (.goto (-47), 3, 45, 0, 0, 0)] [] (pc2 := 45) (ls2 := [some (.ref 54), some (.int x1), some (.int s2), some (.int s3), some (.int (nI n4)), some (.int ((nI i5) + nI 1))]) (st2 := []) (M2 := M) (Ps := []) (by decide +kernel) rfl rfl trivial ?_
      rw [nI_add i5 1]
      simp only [k_fits_45, g19, if_pos c23] at ih
      exact ih
