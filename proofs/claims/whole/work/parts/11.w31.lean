set_option maxHeartbeats 4000000 in
set_option maxRecDepth 3000 in
theorem c_e_can_0 (z : Zp) (d : Nat) (M : Mem) (x1 : Int32) (x2 : Int32) (nt : Nat) (hnt : nt ≤ 10) (ht : M.1 3 2 = nI nt) (nf : Nat) (hnf : nf ≤ 6) (hf : M.1 3 3 = nI nf) (hk : e_can_ok M nt nf x1 x2) : GM z mX11_can (d + 8) [.ref 0, .int x1, .int x2] M (fun rs => rs = e_can M nt nf x1 x2) := by
  simp only [e_can_ok] at hk
  refine GM.of oX11_can.1 (Nat.le_of_ble_eq_true rfl) ?_
  show G z mX11_can (d + 8) 0 0 0 [some (.ref 0), some (.int x1), some (.int x2)] [] M _
  obtain ⟨Q, hQ⟩ : ∃ Q : Rs → Prop, Q = (fun rs => rs = e_can M nt nf x1 x2) := ⟨_, rfl⟩
  rw [← hQ]
  refine G.sl [(.aload_n 0, 1, 0, 0, 0, 0), (.iload_n 1, 1, 1, 0, 0, 0)] [] (pc2 := 2) (ls2 := [some (.ref 0), some (.int x1), some (.int x2)]) (st2 := [.int x1, .ref 0]) (M2 := M) (Ps := []) (by decide +kernel) rfl rfl trivial ?_
  by_cases c1 : ¬ x1 < 0 ∧ x1 < nI nf
  · skip
    rw [if_pos c1] at hk
    have t2 : GM z mX11_needFinder (d + 7) [.ref 0, .int x1] M (fun rs => rs = .inl (none, M)) := e_needFinder_g z d _ x1 nf hf c1
    refine G.callV (as := [.int x1]) (rest := []) (a := 0) oX11_needFinder lk_EvenFinders_249 (by decide +kernel) rfl rfl ⟨rfl, rfl⟩ (Nat.le_of_ble_eq_true rfl) rfl ⟨Nat.le_of_ble_eq_true rfl, Nat.le_of_ble_eq_true rfl⟩ t2 (fun v9 N9 h3 => ?_) (fun E9 N9 h3 => by cases h3)
    cases h3
    show G z mX11_can (d + 8) 1 6 5 [some (.ref 0), some (.int x1), some (.int x2)] [] M Q
    refine G.sl [(.aload_n 0, 1, 0, 0, 0, 0), (.iload_n 2, 1, 2, 0, 0, 0)] [] (pc2 := 7) (ls2 := [some (.ref 0), some (.int x1), some (.int x2)]) (st2 := [.int x2, .ref 0]) (M2 := M) (Ps := []) (by decide +kernel) rfl rfl trivial ?_
    by_cases c4 : ¬ x2 < 0 ∧ x2 < nI nt
    · skip
      rw [if_pos c4] at hk
      have t5 : GM z mX11_needThing (d + 7) [.ref 0, .int x2] M (fun rs => rs = .inl (none, M)) := e_needThing_g z d _ x2 nt ht c4
      refine G.callV (as := [.int x2]) (rest := []) (a := 0) oX11_needThing lk_EvenFinders_240 (by decide +kernel) rfl rfl ⟨rfl, rfl⟩ (Nat.le_of_ble_eq_true rfl) rfl ⟨Nat.le_of_ble_eq_true rfl, Nat.le_of_ble_eq_true rfl⟩ t5 (fun v9 N9 h6 => ?_) (fun E9 N9 h6 => by cases h6)
      cases h6
      show G z mX11_can (d + 8) 2 12 10 [some (.ref 0), some (.int x1), some (.int x2)] [] M Q
      refine G.sl [(.aload_n 0, 1, 0, 0, 0, 0), (.getfield 60, 3, 10, 8, 114, 0), (.iload_n 1, 1, 1, 0, 0, 0), (.iload_n 2, 1, 2, 0, 0, 0)] [] (pc2 := 16) (ls2 := [some (.ref 0), some (.int x1), some (.int x2)]) (st2 := [.int x2, .int x1, .ref 37]) (M2 := M) (Ps := []) (by decide +kernel) rfl rfl trivial ?_
      obtain ⟨k7, k8, k9, k10, hk⟩ := hk
      refine G.eq (st' := [.int (nI (ix x2)), .int (nI (ix x1)), .ref 37]) ?_ rfl (by rw [← (show x1 = nI (ix x1) from (ixE k7)), ← (show x2 = nI (ix x2) from (ixE k9))]) rfl
      have t12 : GM z mX1_mayFind (d + 7) [.ref 37, .int (nI (ix x1)), .int (nI (ix x2))] M (fun rs => rs = .inl (some (.int (d_mayFind (M.1 38) (ix x1) (ix x2))), M)) := by
        have q9 := c_d_mayFind_37 z (d + 7) M (ix x1) (ix x2) k8 k10
        try simp only [mput, mrow_same, mrow_hit, mrow_miss, mrow_sw, idr_eq, ne_eq, Nat.reduceEqDiff, not_false_eq_true, Nat.reduceLT, reduceCtorEq] at q9
        exact q9
      refine G.callV (as := [.int (nI (ix x1)), .int (nI (ix x2))]) (rest := []) (a := 37) oX1_mayFind lk_EvenFinders_265 (by decide +kernel) rfl rfl ⟨rfl, rfl⟩ (Nat.le_of_ble_eq_true rfl) rfl ⟨Nat.le_of_ble_eq_true rfl, Nat.le_of_ble_eq_true rfl⟩ t12 (fun v9 N9 h13 => ?_) (fun E9 N9 h13 => by cases h13)
      cases h13
      show G z mX11_can (d + 8) 2 12 19 [some (.ref 0), some (.int x1), some (.int x2)] [.int (d_mayFind (M.1 38) (ix x1) (ix x2))] M Q
      exact G.reti (by decide +kernel) rfl (nar01 (d_mayFind_01 (M.1 38) (ix x1) (ix x2))) (Nat.le_of_ble_eq_true rfl) (Nat.le_of_ble_eq_true rfl) ((by rw [hQ]; simp only [e_can, if_pos c1, if_pos c4, mrow_self]))
    · skip
      rw [if_neg c4] at hk
      have t14 : GM z mX11_needThing (d + 7) [.ref 0, .int x2] M (fun rs => rs = .inr ("java/util/NoSuchElementException", mrow M 0 (upd (M.1 0) 15 ((M.1 0 15) + nI 1)))) := e_needThing_b z d _ x2 nt ht c4
      refine G.callV (as := [.int x2]) (rest := []) (a := 0) oX11_needThing lk_EvenFinders_240 (by decide +kernel) rfl rfl ⟨rfl, rfl⟩ (Nat.le_of_ble_eq_true rfl) rfl ⟨Nat.le_of_ble_eq_true rfl, Nat.le_of_ble_eq_true rfl⟩ t14 (fun v9 N9 h9 => by cases h9) (fun E9 N9 h9 => ?_)
      cases h9
      rw [hQ]
      simp only [e_can, if_pos c1, if_neg c4]
  · skip
    rw [if_neg c1] at hk
    have t15 : GM z mX11_needFinder (d + 7) [.ref 0, .int x1] M (fun rs => rs = .inr ("java/util/NoSuchElementException", mrow M 0 (upd (M.1 0) 15 ((M.1 0 15) + nI 1)))) := e_needFinder_b z d _ x1 nf hf c1
    refine G.callV (as := [.int x1]) (rest := []) (a := 0) oX11_needFinder lk_EvenFinders_249 (by decide +kernel) rfl rfl ⟨rfl, rfl⟩ (Nat.le_of_ble_eq_true rfl) rfl ⟨Nat.le_of_ble_eq_true rfl, Nat.le_of_ble_eq_true rfl⟩ t15 (fun v9 N9 h9 => by cases h9) (fun E9 N9 h9 => ?_)
    cases h9
    rw [hQ]
    simp only [e_can, if_neg c1]
set_option maxHeartbeats 4000000 in
set_option maxRecDepth 3000 in
theorem lp_e_ahead_0_28 (z : Zp) (d : Nat) (M : Mem) (Q : Rs → Prop) (x1 : Int32) (x2 : Int32) (nt : Nat) (hnt : nt ≤ 10) (ht : M.1 3 2 = nI nt) (nf : Nat) (hnf : nf ≤ 6) (hf : M.1 3 3 = nI nf) : ∀ (k0 : Nat) (s3 : Int32) (q41 : (Nat → Int32)), e_ahead_28_ok (M.1 7) nt nf x1 x2 k0 s3 q41 → (match e_ahead_28 (M.1 7) nt nf x1 x2 k0 s3 q41 with | (s3', q41') => G z mX11_ahead (d + 7) 2 12 46 [some (.ref 0), none, some (.int x2), none] [] (mrow M 41 (q41')) Q) → G z mX11_ahead (d + 7) 2 12 28 [some (.ref 0), some (.int x1), some (.int x2), some (.int s3)] [] (mrow M 41 q41) Q := by
  intro k0
  induction k0 with
  | zero =>
      intro s3 q41 hk hX
      exact (by simpa only [e_ahead_28_ok] using hk : False).elim
  | succ k0 ih =>
      intro s3 q41 hk hX
      simp only [e_ahead_28_ok] at hk
      refine G.sl [(.iload_n 3, 1, 3, 0, 0, 0), (.iload_n 1, 1, 1, 0, 0, 0)] [] (pc2 := 30) (ls2 := [some (.ref 0), some (.int x1), some (.int x2), some (.int s3)]) (st2 := [.int x1, .int s3]) (M2 := mrow M 41 q41) (Ps := []) (by decide +kernel) rfl rfl trivial ?_
      refine G.ic_ge (off := (16)) (tgt := 46) (by decide +kernel) rfl (fun c13 => ?_) (fun c13 => ?_)
      · skip
        rw [if_pos c13] at hk
        refine G.loc (ls2 := [some (.ref 0), none, some (.int x2), none]) (by simp [subL]) ?_
        simp only [e_ahead_28, if_pos c13] at hX
        exact hX
      · skip
        rw [if_neg c13] at hk
        refine G.sl [(.aload_n 0, 1, 0, 0, 0, 0), (.getfield 64, 3, 10, 9, 115, 0)] [] (pc2 := 37) (ls2 := [some (.ref 0), some (.int x1), some (.int x2), some (.int s3)]) (st2 := [.ref 40]) (M2 := mrow M 41 q41) (Ps := []) (by decide +kernel) rfl rfl trivial ?_
        obtain ⟨k14, hk⟩ := hk
        rcases g15 : d_nightFalls (M.1 7) q41 nt nf with ⟨u16, r17⟩
        try simp only [g15] at hk
        have t18 : GM z mX1_nightFalls (d + 6) [.ref 40] (mrow M 41 q41) (fun rs => rs = .inl (none, mrow M 41 r17)) := by
          have q9 := c_d_nightFalls_40 z (d + 5) (mrow M 41 q41) nt hnt ht nf hnf hf k14
          try simp only [mput, mrow_same, mrow_hit, mrow_miss, mrow_sw, idr_eq, ne_eq, Nat.reduceEqDiff, not_false_eq_true, Nat.reduceLT, reduceCtorEq, g15] at q9
          exact q9
        refine G.callV (as := []) (rest := []) (a := 40) oX1_nightFalls lk_EvenFinders_271 (by decide +kernel) rfl rfl ⟨rfl, rfl⟩ (Nat.le_of_ble_eq_true rfl) rfl ⟨Nat.le_of_ble_eq_true rfl, Nat.le_of_ble_eq_true rfl⟩ t18 (fun v9 N9 h19 => ?_) (fun E9 N9 h19 => by cases h19)
        cases h19
        show G z mX11_ahead (d + 7) 2 12 40 [some (.ref 0), some (.int x1), some (.int x2), some (.int s3)] [] (mrow M 41 r17) Q
        refine G.sl [(.iinc 3 1, 3, 3, 0, 0, nI 1), (.goto (-15), 3, 28, 0, 0, 0)] [] (pc2 := 28) (ls2 := [some (.ref 0), some (.int x1), some (.int x2), some (.int (s3 + nI 1))]) (st2 := []) (M2 := mrow M 41 r17) (Ps := []) (by decide +kernel) rfl rfl trivial ?_
        simp only [e_ahead_28, if_neg c13, g15] at hX
        exact ih (s3 + nI 1) r17 hk hX
set_option maxHeartbeats 4000000 in
set_option maxRecDepth 3000 in
theorem c_d_lyingWorth_40 (z : Zp) (d : Nat) (M : Mem) (nt : Nat) (hnt : nt ≤ 10) (ht : M.1 3 2 = nI nt) : GM z mX1_lyingWorth (d + 1) [.ref 40] M (fun rs => rs = .inl (some (.int (d_lyingWorth (M.1 7) (M.1 41) nt)), M)) := by
  refine GM.of oX1_lyingWorth.1 (Nat.le_of_ble_eq_true rfl) ?_
  show G z mX1_lyingWorth (d + 1) 0 0 0 [some (.ref 40)] [] M _
  obtain ⟨Q, hQ⟩ : ∃ Q : Rs → Prop, Q = (fun rs => rs = .inl (some (.int (d_lyingWorth (M.1 7) (M.1 41) nt)), M)) := ⟨_, rfl⟩
  rw [← hQ]
  refine G.sl [(.aload_n 0, 1, 0, 0, 0, 0), (.getfield 18, 3, 1, 2, 79, 0), (.aload_n 0, 1, 0, 0, 0, 0), (.iconst (-1), 1, 0, 0, 0, (-1))] [] (pc2 := 6) (ls2 := [some (.ref 40)]) (st2 := [.int ((-1)), .ref 40, .ref 3]) (M2 := M) (Ps := []) (by decide +kernel) rfl rfl trivial ?_
  have t2 : GM z mX1_heldBy (d) [.ref 40, .int ((-1))] M (fun rs => rs = .inl (some (.int (d_heldBy (M.1 41) nt ((-1)))), M)) := by
    have q9 := c_d_heldBy_40 z d M ((-1)) nt hnt ht
    try simp only [mput, mrow_same, mrow_hit, mrow_miss, mrow_sw, idr_eq, ne_eq, Nat.reduceEqDiff, not_false_eq_true, Nat.reduceLT, reduceCtorEq] at q9
    exact q9
  refine G.callV (as := [.int ((-1))]) (rest := [.ref 3]) (a := 40) oX1_heldBy lk_EvenFinders_Days_94 (by decide +kernel) rfl rfl ⟨rfl, rfl⟩ (Nat.le_of_ble_eq_true rfl) rfl ⟨Nat.le_of_ble_eq_true rfl, Nat.le_of_ble_eq_true rfl⟩ t2 (fun v9 N9 h3 => ?_) (fun E9 N9 h3 => by cases h3)
  cases h3
  show G z mX1_lyingWorth (d + 1) 0 0 9 [some (.ref 40)] [.int (d_heldBy (M.1 41) nt ((-1))), .ref 3] M Q
  have t5 : GM z mX7_worthOf (d) [.ref 3, .int (d_heldBy (M.1 41) nt ((-1)))] M (fun rs => rs = .inl (some (.int (v_worthOf (M.1 7) nt (d_heldBy (M.1 41) nt ((-1))))), M)) := by
    have q9 := c_v_worthOf_3 z d M (d_heldBy (M.1 41) nt ((-1))) nt hnt ht
    try simp only [mput, mrow_same, mrow_hit, mrow_miss, mrow_sw, idr_eq, ne_eq, Nat.reduceEqDiff, not_false_eq_true, Nat.reduceLT, reduceCtorEq] at q9
    exact q9
  refine G.callV (as := [.int (d_heldBy (M.1 41) nt ((-1)))]) (rest := []) (a := 3) oX7_worthOf lk_EvenFinders_Days_109 (by decide +kernel) rfl rfl ⟨rfl, rfl⟩ (Nat.le_of_ble_eq_true rfl) rfl ⟨Nat.le_of_ble_eq_true rfl, Nat.le_of_ble_eq_true rfl⟩ t5 (fun v9 N9 h6 => ?_) (fun E9 N9 h6 => by cases h6)
  cases h6
  show G z mX1_lyingWorth (d + 1) 0 0 12 [some (.ref 40)] [.int (v_worthOf (M.1 7) nt (d_heldBy (M.1 41) nt ((-1))))] M Q
  exact G.reti (by decide +kernel) rfl rfl (Nat.le_of_ble_eq_true rfl) (Nat.le_of_ble_eq_true rfl) ((by rw [hQ]; simp only [d_lyingWorth, mrow_self]))
set_option maxHeartbeats 4000000 in
set_option maxRecDepth 3000 in
theorem lp_d_shames_40_4 (z : Zp) (d : Nat) (M : Mem) (Q : Rs → Prop) (nf : Nat) (hnf : nf ≤ 6) (hf : M.1 3 3 = nI nf) (hX : G z mX1_shames (d) 0 0 33 [none, some (.int (d_shames_4 (M.1 41) nf)), none] [] M Q) : G z mX1_shames (d) 0 0 4 [some (.ref 40), some (.int (nI 0)), some (.int (nI 0))] [] M Q := by
  refine down (n := nf) (P := fun i2 => G z mX1_shames (d) 0 0 4 [some (.ref 40), some (.int (d_shames_4 (M.1 41) i2)), some (.int (nI i2))] [] M Q) ?_ ?_ 0 (Nat.zero_le _)
  · skip
    refine G.sl [(.iload_n 2, 1, 2, 0, 0, 0), (.aload_n 0, 1, 0, 0, 0, 0), (.getfield 18, 3, 1, 2, 79, 0), (.getfield 78, 3, 6, 3, 34, 0)] [] (pc2 := 12) (ls2 := [some (.ref 40), some (.int (d_shames_4 (M.1 41) nf)), some (.int (nI nf))]) (st2 := [.int (M.1 3 3), .int (nI nf)]) (M2 := M) (Ps := []) (by decide +kernel) rfl rfl trivial ?_
    rw [hf]
    refine G.ic_ge (off := (21)) (tgt := 33) (by decide +kernel) rfl (fun _ => ?_) (fun h9 => absurd (nI_le (by omega) (by omega)) h9)
    refine G.loc (ls2 := [none, some (.int (d_shames_4 (M.1 41) nf)), none]) (by simp [subL]) ?_
    exact hX
  · skip
    intro i2 hi ih
    show G z mX1_shames (d) 0 0 4 [some (.ref 40), some (.int (d_shames_4 (M.1 41) i2)), some (.int (nI i2))] [] M Q
    refine G.sl [(.iload_n 2, 1, 2, 0, 0, 0), (.aload_n 0, 1, 0, 0, 0, 0), (.getfield 18, 3, 1, 2, 79, 0), (.getfield 78, 3, 6, 3, 34, 0)] [] (pc2 := 12) (ls2 := [some (.ref 40), some (.int (d_shames_4 (M.1 41) i2)), some (.int (nI i2))]) (st2 := [.int (M.1 3 3), .int (nI i2)]) (M2 := M) (Ps := []) (by decide +kernel) rfl rfl trivial ?_
    rw [hf]
    refine G.ic_ge (off := (21)) (tgt := 33) (by decide +kernel) rfl (fun h9 => absurd h9 (nI_ge (by omega) (by omega))) (fun _ => ?_)
    refine G.sl [(.iload_n 1, 1, 1, 0, 0, 0), (.aload_n 0, 1, 0, 0, 0, 0), (.getfield 9, 3, 1, 0, 73, 0), (.bipush 25, 2, 0, 0, 0, nI 25), (.iload_n 2, 1, 2, 0, 0, 0), (.iadd, 1, 0, 0, 0, 0), (.iaload, 1, 0, 0, 0, 0), (.iadd, 1, 0, 0, 0, 0), (.istore_n 1, 1, 1, 0, 0, 0), (.iinc 2 1, 3, 2, 0, 0, nI 1), (.goto (-26), 3, 4, 0, 0, 0)] [25 + i2] (pc2 := 4) (ls2 := [some (.ref 40), some (.int ((d_shames_4 (M.1 41) i2) + (M.1 41 (25 + i2)))), some (.int ((nI i2) + nI 1))]) (st2 := []) (M2 := M) (Ps := [((nI 25) + (nI i2)) = nI (25 + i2) ∧ (25 + i2) < 51]) (by decide +kernel) rfl rfl ⟨⟨(nI_add _ _), (by omega)⟩, trivial⟩ ?_
    rw [nI_add i2 1]
    simp only [d_shames_4] at ih
    exact ih
set_option maxHeartbeats 4000000 in
set_option maxRecDepth 3000 in
theorem c_d_shames_40 (z : Zp) (d : Nat) (M : Mem) (nf : Nat) (hnf : nf ≤ 6) (hf : M.1 3 3 = nI nf) : GM z mX1_shames (d) [.ref 40] M (fun rs => rs = .inl (some (.int (d_shames (M.1 41) nf)), M)) := by
  refine GM.of oX1_shames.1 (Nat.le_of_ble_eq_true rfl) ?_
  show G z mX1_shames (d) 0 0 0 [some (.ref 40), none, none] [] M _
  obtain ⟨Q, hQ⟩ : ∃ Q : Rs → Prop, Q = (fun rs => rs = .inl (some (.int (d_shames (M.1 41) nf)), M)) := ⟨_, rfl⟩
  rw [← hQ]
  refine G.sl [(.iconst 0, 1, 0, 0, 0, nI 0), (.istore_n 1, 1, 1, 0, 0, 0), (.iconst 0, 1, 0, 0, 0, nI 0), (.istore_n 2, 1, 2, 0, 0, 0)] [] (pc2 := 4) (ls2 := [some (.ref 40), some (.int (nI 0)), some (.int (nI 0))]) (st2 := []) (M2 := M) (Ps := []) (by decide +kernel) rfl rfl trivial ?_
  refine lp_d_shames_40_4 z d M Q nf hnf hf ?_
  show G z mX1_shames (d) 0 0 33 [none, some (.int (d_shames_4 (M.1 41) nf)), none] [] M Q
  refine G.sl [(.iload_n 1, 1, 1, 0, 0, 0)] [] (pc2 := 34) (ls2 := [none, some (.int (d_shames_4 (M.1 41) nf)), none]) (st2 := [.int (d_shames_4 (M.1 41) nf)]) (M2 := M) (Ps := []) (by decide +kernel) rfl rfl trivial ?_
  exact G.reti (by decide +kernel) rfl rfl (Nat.le_of_ble_eq_true rfl) (Nat.le_of_ble_eq_true rfl) ((by rw [hQ]; simp only [d_shames, mrow_self]))
set_option maxHeartbeats 4000000 in
set_option maxRecDepth 3000 in
theorem c_d_heldByAll_40 (z : Zp) (d : Nat) (M : Mem) (nt : Nat) (hnt : nt ≤ 10) (ht : M.1 3 2 = nI nt) : GM z mX1_heldByAll (d + 1) [.ref 40] M (fun rs => rs = .inl (some (.int (d_heldByAll (M.1 41) nt)), M)) := by
  refine GM.of oX1_heldByAll.1 (Nat.le_of_ble_eq_true rfl) ?_
  show G z mX1_heldByAll (d + 1) 0 0 0 [some (.ref 40), none] [] M _
  obtain ⟨Q, hQ⟩ : ∃ Q : Rs → Prop, Q = (fun rs => rs = .inl (some (.int (d_heldByAll (M.1 41) nt)), M)) := ⟨_, rfl⟩
  rw [← hQ]
  refine G.sl [(.iconst 1, 1, 0, 0, 0, nI 1), (.aload_n 0, 1, 0, 0, 0, 0), (.getfield 18, 3, 1, 2, 79, 0), (.getfield 86, 3, 6, 2, 28, 0), (.ishl, 1, 0, 0, 0, 0), (.iconst 1, 1, 0, 0, 0, nI 1), (.isub, 1, 0, 0, 0, 0), (.istore_n 1, 1, 1, 0, 0, 0), (.iload_n 1, 1, 1, 0, 0, 0), (.aload_n 0, 1, 0, 0, 0, 0), (.iconst (-1), 1, 0, 0, 0, (-1))] [] (pc2 := 15) (ls2 := [some (.ref 40), some (.int (((nI 1) <<< ((M.1 3 2) &&& 31)) - (nI 1)))]) (st2 := [.int ((-1)), .ref 40, .int (((nI 1) <<< ((M.1 3 2) &&& 31)) - (nI 1))]) (M2 := M) (Ps := []) (by decide +kernel) rfl rfl trivial ?_
  rw [ht]
  have t2 : GM z mX1_heldBy (d) [.ref 40, .int ((-1))] M (fun rs => rs = .inl (some (.int (d_heldBy (M.1 41) nt ((-1)))), M)) := by
    have q9 := c_d_heldBy_40 z d M ((-1)) nt hnt ht
    try simp only [mput, mrow_same, mrow_hit, mrow_miss, mrow_sw, idr_eq, ne_eq, Nat.reduceEqDiff, not_false_eq_true, Nat.reduceLT, reduceCtorEq] at q9
    exact q9
  refine G.callV (as := [.int ((-1))]) (rest := [.int (((nI 1) <<< ((nI nt) &&& 31)) - (nI 1))]) (a := 40) oX1_heldBy lk_EvenFinders_Days_94 (by decide +kernel) rfl rfl ⟨rfl, rfl⟩ (Nat.le_of_ble_eq_true rfl) rfl ⟨Nat.le_of_ble_eq_true rfl, Nat.le_of_ble_eq_true rfl⟩ t2 (fun v9 N9 h3 => ?_) (fun E9 N9 h3 => by cases h3)
  cases h3
  show G z mX1_heldByAll (d + 1) 0 0 18 [some (.ref 40), some (.int (((nI 1) <<< ((nI nt) &&& 31)) - (nI 1)))] [.int (d_heldBy (M.1 41) nt ((-1))), .int (((nI 1) <<< ((nI nt) &&& 31)) - (nI 1))] M Q
  refine G.sl [(.iconst (-1), 1, 0, 0, 0, (-1)), (.ixor, 1, 0, 0, 0, 0), (.iand, 1, 0, 0, 0, 0)] [] (pc2 := 21) (ls2 := [some (.ref 40), some (.int (((nI 1) <<< ((nI nt) &&& 31)) - (nI 1)))]) (st2 := [.int ((((nI 1) <<< ((nI nt) &&& 31)) - (nI 1)) &&& ((d_heldBy (M.1 41) nt ((-1))) ^^^ ((-1))))]) (M2 := M) (Ps := []) (by decide +kernel) rfl rfl trivial ?_
  exact G.reti (by decide +kernel) rfl rfl (Nat.le_of_ble_eq_true rfl) (Nat.le_of_ble_eq_true rfl) ((by rw [hQ]; simp only [d_heldByAll, mrow_self]))
set_option maxHeartbeats 4000000 in
set_option maxRecDepth 3000 in
theorem c_e_ahead_0 (z : Zp) (d : Nat) (M : Mem) (x1 : Int32) (x2 : Int32) (nt : Nat) (hnt : nt ≤ 10) (ht : M.1 3 2 = nI nt) (nf : Nat) (hnf : nf ≤ 6) (hf : M.1 3 3 = nI nf) (hk : e_ahead_ok M nt nf x1 x2) : GM z mX11_ahead (d + 7) [.ref 0, .int x1, .int x2] M (fun rs => rs = e_ahead M nt nf x1 x2) := by
  simp only [e_ahead_ok] at hk
  refine GM.of oX11_ahead.1 (Nat.le_of_ble_eq_true rfl) ?_
  show G z mX11_ahead (d + 7) 0 0 0 [some (.ref 0), some (.int x1), some (.int x2), none] [] M _
  obtain ⟨Q, hQ⟩ : ∃ Q : Rs → Prop, Q = (fun rs => rs = e_ahead M nt nf x1 x2) := ⟨_, rfl⟩
  rw [← hQ]
  refine G.sl [(.aload_n 0, 1, 0, 0, 0, 0), (.iload_n 1, 1, 1, 0, 0, 0), (.iconst 0, 1, 0, 0, 0, nI 0), (.bipush 99, 2, 0, 0, 0, nI 99)] [] (pc2 := 5) (ls2 := [some (.ref 0), some (.int x1), some (.int x2), none]) (st2 := [.int (nI 99), .int (nI 0), .int x1, .ref 0]) (M2 := M) (Ps := []) (by decide +kernel) rfl rfl trivial ?_
  by_cases c1 : ¬ x1 < (nI 0) ∧ x1 ≤ (nI 99)
  · skip
    rw [if_pos c1] at hk
    have t2 : GM z mX11_needWithin (d + 6) [.ref 0, .int x1, .int (nI 0), .int (nI 99)] M (fun rs => rs = .inl (none, M)) := e_needWithin_g z d _ x1 (nI 0) (nI 99) c1
    refine G.callV (as := [.int x1, .int (nI 0), .int (nI 99)]) (rest := []) (a := 0) oX11_needWithin lk_EvenFinders_182 (by decide +kernel) rfl rfl ⟨rfl, rfl⟩ (Nat.le_of_ble_eq_true rfl) rfl ⟨Nat.le_of_ble_eq_true rfl, Nat.le_of_ble_eq_true rfl⟩ t2 (fun v9 N9 h3 => ?_) (fun E9 N9 h3 => by cases h3)
    cases h3
    show G z mX11_ahead (d + 7) 1 6 8 [some (.ref 0), some (.int x1), some (.int x2), none] [] M Q
    refine G.sl [(.aload_n 0, 1, 0, 0, 0, 0), (.iload_n 2, 1, 2, 0, 0, 0), (.iconst 0, 1, 0, 0, 0, nI 0), (.iconst 2, 1, 0, 0, 0, nI 2)] [] (pc2 := 12) (ls2 := [some (.ref 0), some (.int x1), some (.int x2), none]) (st2 := [.int (nI 2), .int (nI 0), .int x2, .ref 0]) (M2 := M) (Ps := []) (by decide +kernel) rfl rfl trivial ?_
    by_cases c4 : ¬ x2 < (nI 0) ∧ x2 ≤ (nI 2)
    · skip
      rw [if_pos c4] at hk
      have t5 : GM z mX11_needWithin (d + 6) [.ref 0, .int x2, .int (nI 0), .int (nI 2)] M (fun rs => rs = .inl (none, M)) := e_needWithin_g z d _ x2 (nI 0) (nI 2) c4
      refine G.callV (as := [.int x2, .int (nI 0), .int (nI 2)]) (rest := []) (a := 0) oX11_needWithin lk_EvenFinders_182 (by decide +kernel) rfl rfl ⟨rfl, rfl⟩ (Nat.le_of_ble_eq_true rfl) rfl ⟨Nat.le_of_ble_eq_true rfl, Nat.le_of_ble_eq_true rfl⟩ t5 (fun v9 N9 h6 => ?_) (fun E9 N9 h6 => by cases h6)
      cases h6
      show G z mX11_ahead (d + 7) 2 12 15 [some (.ref 0), some (.int x1), some (.int x2), none] [] M Q
      refine G.sl [(.aload_n 0, 1, 0, 0, 0, 0), (.getfield 64, 3, 10, 9, 115, 0), (.aload_n 0, 1, 0, 0, 0, 0), (.getfield 60, 3, 10, 8, 114, 0)] [] (pc2 := 23) (ls2 := [some (.ref 0), some (.int x1), some (.int x2), none]) (st2 := [.ref 37, .ref 40]) (M2 := M) (Ps := []) (by decide +kernel) rfl rfl trivial ?_
      obtain ⟨k7, hk⟩ := hk
      rcases g8 : d_take (M.1 38) (M.1 41) with ⟨u9, r10⟩
      try simp only [g8] at hk
      have t11 : GM z mX1_take (d + 6) [.ref 40, .ref 37] M (fun rs => rs = .inl (none, mrow M 41 r10)) := by
        have q9 := c_d_take_40_37 z (d + 5) M 
        try simp only [mput, mrow_same, mrow_hit, mrow_miss, mrow_sw, idr_eq, ne_eq, Nat.reduceEqDiff, not_false_eq_true, Nat.reduceLT, reduceCtorEq, g8] at q9
        exact q9
      refine G.callV (as := [.ref 37]) (rest := []) (a := 40) oX1_take lk_EvenFinders_269 (by decide +kernel) rfl rfl ⟨rfl, rfl⟩ (Nat.le_of_ble_eq_true rfl) rfl ⟨Nat.le_of_ble_eq_true rfl, Nat.le_of_ble_eq_true rfl⟩ t11 (fun v9 N9 h12 => ?_) (fun E9 N9 h12 => by cases h12)
      cases h12
      show G z mX11_ahead (d + 7) 2 12 26 [some (.ref 0), some (.int x1), some (.int x2), none] [] (mrow M 41 r10) Q
      refine G.sl [(.iconst 0, 1, 0, 0, 0, nI 0), (.istore_n 3, 1, 3, 0, 0, 0)] [] (pc2 := 28) (ls2 := [some (.ref 0), some (.int x1), some (.int x2), some (.int (nI 0))]) (st2 := []) (M2 := mrow M 41 r10) (Ps := []) (by decide +kernel) rfl rfl trivial ?_
      obtain ⟨k20, hk⟩ := hk
      refine G.mem (M' := mrow (mrow M 41 r10) 41 ((mrow M 41 r10).1 41)) (by simp only [mrow_self]) ?_
      refine lp_e_ahead_0_28 z d (mrow M 41 r10) Q x1 x2 nt hnt ht nf hnf hf FU (nI 0) ((mrow M 41 r10).1 41) (by first | (simp only [mput, mrow_same, mrow_hit, mrow_miss, mrow_sw, idr_eq, ne_eq, Nat.reduceEqDiff, not_false_eq_true, Nat.reduceLT, reduceCtorEq]; exact k20) | exact k20) ?_
      try simp only [mput, mrow_same, mrow_hit, mrow_miss, mrow_sw, idr_eq, ne_eq, Nat.reduceEqDiff, not_false_eq_true, Nat.reduceLT, reduceCtorEq]
      rcases g21 : e_ahead_28 (M.1 7) nt nf x1 x2 FU (nI 0) r10 with ⟨v22, r23⟩
      show G z mX11_ahead (d + 7) 2 12 46 [some (.ref 0), none, some (.int x2), none] [] (mrow M 41 r23) Q
      refine G.sl [(.iload_n 2, 1, 2, 0, 0, 0)] [] (pc2 := 47) (ls2 := [some (.ref 0), none, some (.int x2), none]) (st2 := [.int x2]) (M2 := mrow M 41 r23) (Ps := []) (by decide +kernel) rfl rfl trivial ?_
      refine G.if_ne (off := (11)) (tgt := 58) (by decide +kernel) rfl (fun c24 => ?_) (fun c24 => ?_)
      · skip
        refine G.sl [(.iload_n 2, 1, 2, 0, 0, 0), (.iconst 1, 1, 0, 0, 0, nI 1)] [] (pc2 := 60) (ls2 := [some (.ref 0), none, some (.int x2), none]) (st2 := [.int (nI 1), .int x2]) (M2 := mrow M 41 r23) (Ps := []) (by decide +kernel) rfl rfl trivial ?_
        refine G.ic_ne (off := (13)) (tgt := 73) (by decide +kernel) rfl (fun c25 => ?_) (fun c25 => ?_)
        · skip
          refine G.sl [(.aload_n 0, 1, 0, 0, 0, 0), (.getfield 64, 3, 10, 9, 115, 0)] [] (pc2 := 77) (ls2 := [some (.ref 0), none, some (.int x2), none]) (st2 := [.ref 40]) (M2 := mrow M 41 r23) (Ps := []) (by decide +kernel) rfl rfl trivial ?_
          have t27 : GM z mX1_lyingWorth (d + 6) [.ref 40] (mrow M 41 r23) (fun rs => rs = .inl (some (.int (d_lyingWorth (M.1 7) r23 nt)), mrow M 41 r23)) := by
            have q9 := c_d_lyingWorth_40 z (d + 5) (mrow M 41 r23) nt hnt ht
            try simp only [mput, mrow_same, mrow_hit, mrow_miss, mrow_sw, idr_eq, ne_eq, Nat.reduceEqDiff, not_false_eq_true, Nat.reduceLT, reduceCtorEq] at q9
            exact q9
          refine G.callV (as := []) (rest := []) (a := 40) oX1_lyingWorth lk_EvenFinders_206 (by decide +kernel) rfl rfl ⟨rfl, rfl⟩ (Nat.le_of_ble_eq_true rfl) rfl ⟨Nat.le_of_ble_eq_true rfl, Nat.le_of_ble_eq_true rfl⟩ t27 (fun v9 N9 h28 => ?_) (fun E9 N9 h28 => by cases h28)
          cases h28
          show G z mX11_ahead (d + 7) 2 12 80 [some (.ref 0), none, some (.int x2), none] [.int (d_lyingWorth (M.1 7) r23 nt)] (mrow M 41 r23) Q
          exact G.reti (by decide +kernel) rfl rfl (Nat.le_of_ble_eq_true rfl) (Nat.le_of_ble_eq_true rfl) ((by rw [hQ]; simp only [e_ahead, if_pos c1, if_pos c4, g8, g21, if_neg c24, if_neg c25, mrow_self]))
        · skip
          refine G.sl [(.aload_n 0, 1, 0, 0, 0, 0), (.getfield 64, 3, 10, 9, 115, 0)] [] (pc2 := 67) (ls2 := [some (.ref 0), none, some (.int x2), none]) (st2 := [.ref 40]) (M2 := mrow M 41 r23) (Ps := []) (by decide +kernel) rfl rfl trivial ?_
          have t30 : GM z mX1_shames (d + 6) [.ref 40] (mrow M 41 r23) (fun rs => rs = .inl (some (.int (d_shames r23 nf)), mrow M 41 r23)) := by
            have q9 := c_d_shames_40 z (d + 6) (mrow M 41 r23) nf hnf hf
            try simp only [mput, mrow_same, mrow_hit, mrow_miss, mrow_sw, idr_eq, ne_eq, Nat.reduceEqDiff, not_false_eq_true, Nat.reduceLT, reduceCtorEq] at q9
            exact q9
          refine G.callV (as := []) (rest := []) (a := 40) oX1_shames lk_EvenFinders_209 (by decide +kernel) rfl rfl ⟨rfl, rfl⟩ (Nat.le_of_ble_eq_true rfl) rfl ⟨Nat.le_of_ble_eq_true rfl, Nat.le_of_ble_eq_true rfl⟩ t30 (fun v9 N9 h31 => ?_) (fun E9 N9 h31 => by cases h31)
          cases h31
          show G z mX11_ahead (d + 7) 2 12 70 [some (.ref 0), none, some (.int x2), none] [.int (d_shames r23 nf)] (mrow M 41 r23) Q
          refine G.sl [(.goto 10, 3, 80, 0, 0, 0)] [] (pc2 := 80) (ls2 := [some (.ref 0), none, some (.int x2), none]) (st2 := [.int (d_shames r23 nf)]) (M2 := mrow M 41 r23) (Ps := []) (by decide +kernel) rfl rfl trivial ?_
          exact G.reti (by decide +kernel) rfl rfl (Nat.le_of_ble_eq_true rfl) (Nat.le_of_ble_eq_true rfl) ((by rw [hQ]; simp only [e_ahead, if_pos c1, if_pos c4, g8, g21, if_neg c24, if_pos c25, mrow_self]))
      · skip
        refine G.sl [(.aload_n 0, 1, 0, 0, 0, 0), (.getfield 64, 3, 10, 9, 115, 0)] [] (pc2 := 54) (ls2 := [some (.ref 0), none, some (.int x2), none]) (st2 := [.ref 40]) (M2 := mrow M 41 r23) (Ps := []) (by decide +kernel) rfl rfl trivial ?_
        have t33 : GM z mX1_heldByAll (d + 6) [.ref 40] (mrow M 41 r23) (fun rs => rs = .inl (some (.int (d_heldByAll r23 nt)), mrow M 41 r23)) := by
          have q9 := c_d_heldByAll_40 z (d + 5) (mrow M 41 r23) nt hnt ht
          try simp only [mput, mrow_same, mrow_hit, mrow_miss, mrow_sw, idr_eq, ne_eq, Nat.reduceEqDiff, not_false_eq_true, Nat.reduceLT, reduceCtorEq] at q9
          exact q9
        refine G.callV (as := []) (rest := []) (a := 40) oX1_heldByAll lk_EvenFinders_196 (by decide +kernel) rfl rfl ⟨rfl, rfl⟩ (Nat.le_of_ble_eq_true rfl) rfl ⟨Nat.le_of_ble_eq_true rfl, Nat.le_of_ble_eq_true rfl⟩ t33 (fun v9 N9 h34 => ?_) (fun E9 N9 h34 => by cases h34)
        cases h34
        show G z mX11_ahead (d + 7) 2 12 57 [some (.ref 0), none, some (.int x2), none] [.int (d_heldByAll r23 nt)] (mrow M 41 r23) Q
        exact G.reti (by decide +kernel) rfl rfl (Nat.le_of_ble_eq_true rfl) (Nat.le_of_ble_eq_true rfl) ((by rw [hQ]; simp only [e_ahead, if_pos c1, if_pos c4, g8, g21, if_pos c24, mrow_self]))
    · skip
      rw [if_neg c4] at hk
      have t35 : GM z mX11_needWithin (d + 6) [.ref 0, .int x2, .int (nI 0), .int (nI 2)] M (fun rs => rs = .inr ("java/lang/IllegalArgumentException", mrow M 0 (upd (M.1 0) 16 ((M.1 0 16) + nI 1)))) := e_needWithin_b z d _ x2 (nI 0) (nI 2) c4
      refine G.callV (as := [.int x2, .int (nI 0), .int (nI 2)]) (rest := []) (a := 0) oX11_needWithin lk_EvenFinders_182 (by decide +kernel) rfl rfl ⟨rfl, rfl⟩ (Nat.le_of_ble_eq_true rfl) rfl ⟨Nat.le_of_ble_eq_true rfl, Nat.le_of_ble_eq_true rfl⟩ t35 (fun v9 N9 h9 => by cases h9) (fun E9 N9 h9 => ?_)
      cases h9
      rw [hQ]
      simp only [e_ahead, if_pos c1, if_neg c4]
  · skip
    rw [if_neg c1] at hk
    have t36 : GM z mX11_needWithin (d + 6) [.ref 0, .int x1, .int (nI 0), .int (nI 99)] M (fun rs => rs = .inr ("java/lang/IllegalArgumentException", mrow M 0 (upd (M.1 0) 16 ((M.1 0 16) + nI 1)))) := e_needWithin_b z d _ x1 (nI 0) (nI 99) c1
    refine G.callV (as := [.int x1, .int (nI 0), .int (nI 99)]) (rest := []) (a := 0) oX11_needWithin lk_EvenFinders_182 (by decide +kernel) rfl rfl ⟨rfl, rfl⟩ (Nat.le_of_ble_eq_true rfl) rfl ⟨Nat.le_of_ble_eq_true rfl, Nat.le_of_ble_eq_true rfl⟩ t36 (fun v9 N9 h9 => by cases h9) (fun E9 N9 h9 => ?_)
    cases h9
    rw [hQ]
    simp only [e_ahead, if_neg c1]
set_option maxHeartbeats 4000000 in
set_option maxRecDepth 3000 in
theorem c_e_far_0 (z : Zp) (d : Nat) (M : Mem) (x1 : Int32) (x2 : Int32) (np : Nat) (hnp : np ≤ 8) (hp : M.1 3 0 = nI np) (hk : e_far_ok M np x1 x2) : GM z mX11_far (d + 8) [.ref 0, .int x1, .int x2] M (fun rs => rs = e_far M np x1 x2) := by
  simp only [e_far_ok] at hk
  refine GM.of oX11_far.1 (Nat.le_of_ble_eq_true rfl) ?_
  show G z mX11_far (d + 8) 0 0 0 [some (.ref 0), some (.int x1), some (.int x2)] [] M _
  obtain ⟨Q, hQ⟩ : ∃ Q : Rs → Prop, Q = (fun rs => rs = e_far M np x1 x2) := ⟨_, rfl⟩
  rw [← hQ]
  refine G.sl [(.aload_n 0, 1, 0, 0, 0, 0), (.iload_n 1, 1, 1, 0, 0, 0)] [] (pc2 := 2) (ls2 := [some (.ref 0), some (.int x1), some (.int x2)]) (st2 := [.int x1, .ref 0]) (M2 := M) (Ps := []) (by decide +kernel) rfl rfl trivial ?_
  by_cases c1 : ¬ x1 < 0 ∧ x1 < nI np
  · skip
    rw [if_pos c1] at hk
    have t2 : GM z mX11_needPlace (d + 7) [.ref 0, .int x1] M (fun rs => rs = .inl (none, M)) := e_needPlace_g z d _ x1 np hp c1
    refine G.callV (as := [.int x1]) (rest := []) (a := 0) oX11_needPlace lk_EvenFinders_212 (by decide +kernel) rfl rfl ⟨rfl, rfl⟩ (Nat.le_of_ble_eq_true rfl) rfl ⟨Nat.le_of_ble_eq_true rfl, Nat.le_of_ble_eq_true rfl⟩ t2 (fun v9 N9 h3 => ?_) (fun E9 N9 h3 => by cases h3)
    cases h3
    show G z mX11_far (d + 8) 1 6 5 [some (.ref 0), some (.int x1), some (.int x2)] [] M Q
    refine G.sl [(.aload_n 0, 1, 0, 0, 0, 0), (.iload_n 2, 1, 2, 0, 0, 0)] [] (pc2 := 7) (ls2 := [some (.ref 0), some (.int x1), some (.int x2)]) (st2 := [.int x2, .ref 0]) (M2 := M) (Ps := []) (by decide +kernel) rfl rfl trivial ?_
    by_cases c4 : ¬ x2 < 0 ∧ x2 < nI np
    · skip
      rw [if_pos c4] at hk
      have t5 : GM z mX11_needPlace (d + 7) [.ref 0, .int x2] M (fun rs => rs = .inl (none, M)) := e_needPlace_g z d _ x2 np hp c4
      refine G.callV (as := [.int x2]) (rest := []) (a := 0) oX11_needPlace lk_EvenFinders_212 (by decide +kernel) rfl rfl ⟨rfl, rfl⟩ (Nat.le_of_ble_eq_true rfl) rfl ⟨Nat.le_of_ble_eq_true rfl, Nat.le_of_ble_eq_true rfl⟩ t5 (fun v9 N9 h6 => ?_) (fun E9 N9 h6 => by cases h6)
      cases h6
      show G z mX11_far (d + 8) 2 12 10 [some (.ref 0), some (.int x1), some (.int x2)] [] M Q
      refine G.sl [(.aload_n 0, 1, 0, 0, 0, 0), (.getfield 19, 3, 10, 1, 107, 0), (.iload_n 1, 1, 1, 0, 0, 0), (.iload_n 2, 1, 2, 0, 0, 0)] [] (pc2 := 16) (ls2 := [some (.ref 0), some (.int x1), some (.int x2)]) (st2 := [.int x2, .int x1, .ref 3]) (M2 := M) (Ps := []) (by decide +kernel) rfl rfl trivial ?_
      obtain ⟨k7, k8, k9, k10, hk⟩ := hk
      refine G.eq (st' := [.int (nI (ix x2)), .int (nI (ix x1)), .ref 3]) ?_ rfl (by rw [← (show x1 = nI (ix x1) from (ixE k7)), ← (show x2 = nI (ix x2) from (ixE k9))]) rfl
      have t12 : GM z mX7_farFrom (d + 7) [.ref 3, .int (nI (ix x1)), .int (nI (ix x2))] M (fun rs => rs = .inl (some (.int (v_farFrom (M.1 11) (ix x1) (ix x2))), M)) := by
        have q9 := c_v_farFrom_3 z (d + 7) M (ix x1) (ix x2) k8 k10
        try simp only [mput, mrow_same, mrow_hit, mrow_miss, mrow_sw, idr_eq, ne_eq, Nat.reduceEqDiff, not_false_eq_true, Nat.reduceLT, reduceCtorEq] at q9
        exact q9
      refine G.callV (as := [.int (nI (ix x1)), .int (nI (ix x2))]) (rest := []) (a := 3) oX7_farFrom lk_EvenFinders_274 (by decide +kernel) rfl rfl ⟨rfl, rfl⟩ (Nat.le_of_ble_eq_true rfl) rfl ⟨Nat.le_of_ble_eq_true rfl, Nat.le_of_ble_eq_true rfl⟩ t12 (fun v9 N9 h13 => ?_) (fun E9 N9 h13 => by cases h13)
      cases h13
      show G z mX11_far (d + 8) 2 12 19 [some (.ref 0), some (.int x1), some (.int x2)] [.int (v_farFrom (M.1 11) (ix x1) (ix x2))] M Q
      exact G.reti (by decide +kernel) rfl rfl (Nat.le_of_ble_eq_true rfl) (Nat.le_of_ble_eq_true rfl) ((by rw [hQ]; simp only [e_far, if_pos c1, if_pos c4, mrow_self]))
    · skip
      rw [if_neg c4] at hk
      have t14 : GM z mX11_needPlace (d + 7) [.ref 0, .int x2] M (fun rs => rs = .inr ("java/util/NoSuchElementException", mrow M 0 (upd (M.1 0) 15 ((M.1 0 15) + nI 1)))) := e_needPlace_b z d _ x2 np hp c4
      refine G.callV (as := [.int x2]) (rest := []) (a := 0) oX11_needPlace lk_EvenFinders_212 (by decide +kernel) rfl rfl ⟨rfl, rfl⟩ (Nat.le_of_ble_eq_true rfl) rfl ⟨Nat.le_of_ble_eq_true rfl, Nat.le_of_ble_eq_true rfl⟩ t14 (fun v9 N9 h9 => by cases h9) (fun E9 N9 h9 => ?_)
      cases h9
      rw [hQ]
      simp only [e_far, if_pos c1, if_neg c4]
  · skip
    rw [if_neg c1] at hk
    have t15 : GM z mX11_needPlace (d + 7) [.ref 0, .int x1] M (fun rs => rs = .inr ("java/util/NoSuchElementException", mrow M 0 (upd (M.1 0) 15 ((M.1 0 15) + nI 1)))) := e_needPlace_b z d _ x1 np hp c1
    refine G.callV (as := [.int x1]) (rest := []) (a := 0) oX11_needPlace lk_EvenFinders_212 (by decide +kernel) rfl rfl ⟨rfl, rfl⟩ (Nat.le_of_ble_eq_true rfl) rfl ⟨Nat.le_of_ble_eq_true rfl, Nat.le_of_ble_eq_true rfl⟩ t15 (fun v9 N9 h9 => by cases h9) (fun E9 N9 h9 => ?_)
    cases h9
    rw [hQ]
    simp only [e_far, if_neg c1]
set_option maxHeartbeats 4000000 in
set_option maxRecDepth 3000 in
theorem c_e_round_0 (z : Zp) (d : Nat) (M : Mem) (x1 : Int32) (np : Nat) (hnp : np ≤ 8) (hp : M.1 3 0 = nI np) (nt : Nat) (hnt : nt ≤ 10) (ht : M.1 3 2 = nI nt) (nf : Nat) (hnf : nf ≤ 6) (hf : M.1 3 3 = nI nf) (hk : e_round_ok M np nt nf x1) : GM z mX11_round (d + 8) [.ref 0, .int x1] M (fun rs => rs = e_round M np nt nf x1) := by
  simp only [e_round_ok] at hk
  refine GM.of oX11_round.1 (Nat.le_of_ble_eq_true rfl) ?_
  show G z mX11_round (d + 8) 0 0 0 [some (.ref 0), some (.int x1)] [] M _
  obtain ⟨Q, hQ⟩ : ∃ Q : Rs → Prop, Q = (fun rs => rs = e_round M np nt nf x1) := ⟨_, rfl⟩
  rw [← hQ]
  refine G.sl [(.aload_n 0, 1, 0, 0, 0, 0), (.iload_n 1, 1, 1, 0, 0, 0)] [] (pc2 := 2) (ls2 := [some (.ref 0), some (.int x1)]) (st2 := [.int x1, .ref 0]) (M2 := M) (Ps := []) (by decide +kernel) rfl rfl trivial ?_
  by_cases c1 : ¬ x1 < 0 ∧ x1 < nI nf
  · skip
    rw [if_pos c1] at hk
    have t2 : GM z mX11_needFinder (d + 7) [.ref 0, .int x1] M (fun rs => rs = .inl (none, M)) := e_needFinder_g z d _ x1 nf hf c1
    refine G.callV (as := [.int x1]) (rest := []) (a := 0) oX11_needFinder lk_EvenFinders_249 (by decide +kernel) rfl rfl ⟨rfl, rfl⟩ (Nat.le_of_ble_eq_true rfl) rfl ⟨Nat.le_of_ble_eq_true rfl, Nat.le_of_ble_eq_true rfl⟩ t2 (fun v9 N9 h3 => ?_) (fun E9 N9 h3 => by cases h3)
    cases h3
    show G z mX11_round (d + 8) 1 6 5 [some (.ref 0), some (.int x1)] [] M Q
    refine G.sl [(.aload_n 0, 1, 0, 0, 0, 0), (.getfield 79, 3, 10, 11, 117, 0), (.iload_n 1, 1, 1, 0, 0, 0)] [] (pc2 := 10) (ls2 := [some (.ref 0), some (.int x1)]) (st2 := [.int x1, .ref 47]) (M2 := M) (Ps := []) (by decide +kernel) rfl rfl trivial ?_
    obtain ⟨k4, k5, hk⟩ := hk
    obtain ⟨k6, hk⟩ := hk
    refine G.eq (st' := [.int (nI (ix x1)), .ref 47]) ?_ rfl (by rw [← (show x1 = nI (ix x1) from (ixE k4))]) rfl
    rcases g7 : w_leastRound (M.1 11) (M.1 38) (M.1 48) np nt (ix x1) with ⟨v8, r9⟩
    have t10 : GM z mX8_leastRound (d + 7) [.ref 47, .int (nI (ix x1))] M (fun rs => rs = .inl (some (.int v8), mrow M 48 r9)) := by
      have q9 := c_w_leastRound_47 z (d + 5) M (ix x1) np hnp hp nt hnt ht k5 k6
      try simp only [mput, mrow_same, mrow_hit, mrow_miss, mrow_sw, idr_eq, ne_eq, Nat.reduceEqDiff, not_false_eq_true, Nat.reduceLT, reduceCtorEq, g7] at q9
      exact q9
    refine G.callV (as := [.int (nI (ix x1))]) (rest := []) (a := 47) oX8_leastRound lk_EvenFinders_277 (by decide +kernel) rfl rfl ⟨rfl, rfl⟩ (Nat.le_of_ble_eq_true rfl) rfl ⟨Nat.le_of_ble_eq_true rfl, Nat.le_of_ble_eq_true rfl⟩ t10 (fun v9 N9 h11 => ?_) (fun E9 N9 h11 => by cases h11)
    cases h11
    show G z mX11_round (d + 8) 1 6 13 [some (.ref 0), some (.int x1)] [.int v8] (mrow M 48 r9) Q
    exact G.reti (by decide +kernel) rfl rfl (Nat.le_of_ble_eq_true rfl) (Nat.le_of_ble_eq_true rfl) ((by rw [hQ]; simp only [e_round, if_pos c1, g7, mrow_self]))
  · skip
    rw [if_neg c1] at hk
    have t12 : GM z mX11_needFinder (d + 7) [.ref 0, .int x1] M (fun rs => rs = .inr ("java/util/NoSuchElementException", mrow M 0 (upd (M.1 0) 15 ((M.1 0 15) + nI 1)))) := e_needFinder_b z d _ x1 nf hf c1
    refine G.callV (as := [.int x1]) (rest := []) (a := 0) oX11_needFinder lk_EvenFinders_249 (by decide +kernel) rfl rfl ⟨rfl, rfl⟩ (Nat.le_of_ble_eq_true rfl) rfl ⟨Nat.le_of_ble_eq_true rfl, Nat.le_of_ble_eq_true rfl⟩ t12 (fun v9 N9 h9 => by cases h9) (fun E9 N9 h9 => ?_)
    cases h9
    rw [hQ]
    simp only [e_round, if_neg c1]
set_option maxHeartbeats 4000000 in
set_option maxRecDepth 3000 in
theorem c_e_meet_0 (z : Zp) (d : Nat) (M : Mem) (x1 : Int32) (np : Nat) (hnp : np ≤ 8) (hp : M.1 3 0 = nI np) (nf : Nat) (hnf : nf ≤ 6) (hf : M.1 3 3 = nI nf) (hk : e_meet_ok M np nf x1) : GM z mX11_meet (d + 7) [.ref 0, .int x1] M (fun rs => rs = e_meet M np nf x1) := by
  simp only [e_meet_ok] at hk
  refine GM.of oX11_meet.1 (Nat.le_of_ble_eq_true rfl) ?_
  show G z mX11_meet (d + 7) 0 0 0 [some (.ref 0), some (.int x1), none] [] M _
  obtain ⟨Q, hQ⟩ : ∃ Q : Rs → Prop, Q = (fun rs => rs = e_meet M np nf x1) := ⟨_, rfl⟩
  rw [← hQ]
  refine G.sl [(.aload_n 0, 1, 0, 0, 0, 0), (.iload_n 1, 1, 1, 0, 0, 0), (.iconst 0, 1, 0, 0, 0, nI 0), (.iconst 1, 1, 0, 0, 0, nI 1)] [] (pc2 := 4) (ls2 := [some (.ref 0), some (.int x1), none]) (st2 := [.int (nI 1), .int (nI 0), .int x1, .ref 0]) (M2 := M) (Ps := []) (by decide +kernel) rfl rfl trivial ?_
  by_cases c1 : ¬ x1 < (nI 0) ∧ x1 ≤ (nI 1)
  · skip
    rw [if_pos c1] at hk
    have t2 : GM z mX11_needWithin (d + 6) [.ref 0, .int x1, .int (nI 0), .int (nI 1)] M (fun rs => rs = .inl (none, M)) := e_needWithin_g z d _ x1 (nI 0) (nI 1) c1
    refine G.callV (as := [.int x1, .int (nI 0), .int (nI 1)]) (rest := []) (a := 0) oX11_needWithin lk_EvenFinders_182 (by decide +kernel) rfl rfl ⟨rfl, rfl⟩ (Nat.le_of_ble_eq_true rfl) rfl ⟨Nat.le_of_ble_eq_true rfl, Nat.le_of_ble_eq_true rfl⟩ t2 (fun v9 N9 h3 => ?_) (fun E9 N9 h3 => by cases h3)
    cases h3
    show G z mX11_meet (d + 7) 1 6 7 [some (.ref 0), some (.int x1), none] [] M Q
    refine G.sl [(.aload_n 0, 1, 0, 0, 0, 0), (.getfield 79, 3, 10, 11, 117, 0)] [] (pc2 := 11) (ls2 := [some (.ref 0), some (.int x1), none]) (st2 := [.ref 47]) (M2 := M) (Ps := []) (by decide +kernel) rfl rfl trivial ?_
    obtain ⟨k4, hk⟩ := hk
    have t5 : GM z mX8_meetingPlace (d + 6) [.ref 47] M (fun rs => rs = .inl (some (.int (w_meetingPlace (M.1 11) (M.1 38) np nf)), M)) := by
      have q9 := c_w_meetingPlace_47 z (d + 4) M np hnp hp nf hnf hf k4
      try simp only [mput, mrow_same, mrow_hit, mrow_miss, mrow_sw, idr_eq, ne_eq, Nat.reduceEqDiff, not_false_eq_true, Nat.reduceLT, reduceCtorEq] at q9
      exact q9
    refine G.callV (as := []) (rest := []) (a := 47) oX8_meetingPlace lk_EvenFinders_280 (by decide +kernel) rfl rfl ⟨rfl, rfl⟩ (Nat.le_of_ble_eq_true rfl) rfl ⟨Nat.le_of_ble_eq_true rfl, Nat.le_of_ble_eq_true rfl⟩ t5 (fun v9 N9 h6 => ?_) (fun E9 N9 h6 => by cases h6)
    cases h6
    show G z mX11_meet (d + 7) 1 6 14 [some (.ref 0), some (.int x1), none] [.int (w_meetingPlace (M.1 11) (M.1 38) np nf)] M Q
    refine G.sl [(.istore_n 2, 1, 2, 0, 0, 0), (.iload_n 1, 1, 1, 0, 0, 0)] [] (pc2 := 16) (ls2 := [some (.ref 0), some (.int x1), some (.int (w_meetingPlace (M.1 11) (M.1 38) np nf))]) (st2 := [.int x1]) (M2 := M) (Ps := []) (by decide +kernel) rfl rfl trivial ?_
    refine G.if_eq (off := (8)) (tgt := 24) (by decide +kernel) rfl (fun c7 => ?_) (fun c7 => ?_)
    · skip
      rw [if_pos c7] at hk
      refine G.sl [(.iload_n 2, 1, 2, 0, 0, 0), (.goto 11, 3, 36, 0, 0, 0)] [] (pc2 := 36) (ls2 := [some (.ref 0), some (.int x1), some (.int (w_meetingPlace (M.1 11) (M.1 38) np nf))]) (st2 := [.int (w_meetingPlace (M.1 11) (M.1 38) np nf)]) (M2 := M) (Ps := []) (by decide +kernel) rfl rfl trivial ?_
      exact G.reti (by decide +kernel) rfl rfl (Nat.le_of_ble_eq_true rfl) (Nat.le_of_ble_eq_true rfl) ((by rw [hQ]; simp only [e_meet, if_pos c1, if_pos c7, mrow_self]))
    · skip
      rw [if_neg c7] at hk
      refine G.sl [(.iload_n 2, 1, 2, 0, 0, 0), (.iconst (-1), 1, 0, 0, 0, (-1))] [] (pc2 := 21) (ls2 := [some (.ref 0), some (.int x1), some (.int (w_meetingPlace (M.1 11) (M.1 38) np nf))]) (st2 := [.int ((-1)), .int (w_meetingPlace (M.1 11) (M.1 38) np nf)]) (M2 := M) (Ps := []) (by decide +kernel) rfl rfl trivial ?_
      refine G.ic_ne (off := (7)) (tgt := 28) (by decide +kernel) rfl (fun c8 => ?_) (fun c8 => ?_)
      · skip
        rw [if_neg c8] at hk
        refine G.sl [(.aload_n 0, 1, 0, 0, 0, 0), (.getfield 79, 3, 10, 11, 117, 0), (.iload_n 2, 1, 2, 0, 0, 0)] [] (pc2 := 33) (ls2 := [some (.ref 0), some (.int x1), some (.int (w_meetingPlace (M.1 11) (M.1 38) np nf))]) (st2 := [.int (w_meetingPlace (M.1 11) (M.1 38) np nf), .ref 47]) (M2 := M) (Ps := []) (by decide +kernel) rfl rfl trivial ?_
        obtain ⟨k9, k10, hk⟩ := hk
        obtain ⟨k11, hk⟩ := hk
        refine G.eq (st' := [.int (nI (ix (w_meetingPlace (M.1 11) (M.1 38) np nf))), .ref 47]) ?_ rfl (by rw [← (show w_meetingPlace (M.1 11) (M.1 38) np nf = nI (ix (w_meetingPlace (M.1 11) (M.1 38) np nf)) from (ixE k9))]) rfl
        have t12 : GM z mX8_walkOfAll (d + 6) [.ref 47, .int (nI (ix (w_meetingPlace (M.1 11) (M.1 38) np nf)))] M (fun rs => rs = .inl (some (.int (w_walkOfAll (M.1 11) (M.1 38) nf (ix (w_meetingPlace (M.1 11) (M.1 38) np nf)))), M)) := by
          have q9 := c_w_walkOfAll_47 z (d + 5) M (ix (w_meetingPlace (M.1 11) (M.1 38) np nf)) nf hnf hf k10 k11
          try simp only [mput, mrow_same, mrow_hit, mrow_miss, mrow_sw, idr_eq, ne_eq, Nat.reduceEqDiff, not_false_eq_true, Nat.reduceLT, reduceCtorEq] at q9
          exact q9
        refine G.callV (as := [.int (nI (ix (w_meetingPlace (M.1 11) (M.1 38) np nf)))]) (rest := []) (a := 47) oX8_walkOfAll lk_EvenFinders_283 (by decide +kernel) rfl rfl ⟨rfl, rfl⟩ (Nat.le_of_ble_eq_true rfl) rfl ⟨Nat.le_of_ble_eq_true rfl, Nat.le_of_ble_eq_true rfl⟩ t12 (fun v9 N9 h13 => ?_) (fun E9 N9 h13 => by cases h13)
        cases h13
        show G z mX11_meet (d + 7) 1 6 36 [some (.ref 0), some (.int x1), some (.int (w_meetingPlace (M.1 11) (M.1 38) np nf))] [.int (w_walkOfAll (M.1 11) (M.1 38) nf (ix (w_meetingPlace (M.1 11) (M.1 38) np nf)))] M Q
        exact G.reti (by decide +kernel) rfl rfl (Nat.le_of_ble_eq_true rfl) (Nat.le_of_ble_eq_true rfl) ((by rw [hQ]; simp only [e_meet, if_pos c1, if_neg c7, if_neg c8, mrow_self]))
      · skip
        rw [if_pos c8] at hk
        refine G.sl [(.iload_n 2, 1, 2, 0, 0, 0), (.goto 11, 3, 36, 0, 0, 0)] [] (pc2 := 36) (ls2 := [some (.ref 0), some (.int x1), some (.int (w_meetingPlace (M.1 11) (M.1 38) np nf))]) (st2 := [.int (w_meetingPlace (M.1 11) (M.1 38) np nf)]) (M2 := M) (Ps := []) (by decide +kernel) rfl rfl trivial ?_
        exact G.reti (by decide +kernel) rfl rfl (Nat.le_of_ble_eq_true rfl) (Nat.le_of_ble_eq_true rfl) ((by rw [hQ]; simp only [e_meet, if_pos c1, if_neg c7, if_pos c8, mrow_self]))
  · skip
    rw [if_neg c1] at hk
    have t14 : GM z mX11_needWithin (d + 6) [.ref 0, .int x1, .int (nI 0), .int (nI 1)] M (fun rs => rs = .inr ("java/lang/IllegalArgumentException", mrow M 0 (upd (M.1 0) 16 ((M.1 0 16) + nI 1)))) := e_needWithin_b z d _ x1 (nI 0) (nI 1) c1
    refine G.callV (as := [.int x1, .int (nI 0), .int (nI 1)]) (rest := []) (a := 0) oX11_needWithin lk_EvenFinders_182 (by decide +kernel) rfl rfl ⟨rfl, rfl⟩ (Nat.le_of_ble_eq_true rfl) rfl ⟨Nat.le_of_ble_eq_true rfl, Nat.le_of_ble_eq_true rfl⟩ t14 (fun v9 N9 h9 => by cases h9) (fun E9 N9 h9 => ?_)
    cases h9
    rw [hQ]
    simp only [e_meet, if_neg c1]
set_option maxHeartbeats 4000000 in
set_option maxRecDepth 3000 in
theorem c_e_reach_0 (z : Zp) (d : Nat) (M : Mem) (x1 : Int32) (nt : Nat) (hnt : nt ≤ 10) (ht : M.1 3 2 = nI nt) (nf : Nat) (hnf : nf ≤ 6) (hf : M.1 3 3 = nI nf) (hk : e_reach_ok M nt nf x1) : GM z mX11_reach (d + 8) [.ref 0, .int x1] M (fun rs => rs = e_reach M nt nf x1) := by
  simp only [e_reach_ok] at hk
  refine GM.of oX11_reach.1 (Nat.le_of_ble_eq_true rfl) ?_
  show G z mX11_reach (d + 8) 0 0 0 [some (.ref 0), some (.int x1)] [] M _
  obtain ⟨Q, hQ⟩ : ∃ Q : Rs → Prop, Q = (fun rs => rs = e_reach M nt nf x1) := ⟨_, rfl⟩
  rw [← hQ]
  refine G.sl [(.aload_n 0, 1, 0, 0, 0, 0), (.iload_n 1, 1, 1, 0, 0, 0)] [] (pc2 := 2) (ls2 := [some (.ref 0), some (.int x1)]) (st2 := [.int x1, .ref 0]) (M2 := M) (Ps := []) (by decide +kernel) rfl rfl trivial ?_
  by_cases c1 : ¬ x1 < 0 ∧ x1 < nI nf
  · skip
    rw [if_pos c1] at hk
    have t2 : GM z mX11_needFinder (d + 7) [.ref 0, .int x1] M (fun rs => rs = .inl (none, M)) := e_needFinder_g z d _ x1 nf hf c1
    refine G.callV (as := [.int x1]) (rest := []) (a := 0) oX11_needFinder lk_EvenFinders_249 (by decide +kernel) rfl rfl ⟨rfl, rfl⟩ (Nat.le_of_ble_eq_true rfl) rfl ⟨Nat.le_of_ble_eq_true rfl, Nat.le_of_ble_eq_true rfl⟩ t2 (fun v9 N9 h3 => ?_) (fun E9 N9 h3 => by cases h3)
    cases h3
    show G z mX11_reach (d + 8) 1 6 5 [some (.ref 0), some (.int x1)] [] M Q
    refine G.sl [(.aload_n 0, 1, 0, 0, 0, 0), (.getfield 79, 3, 10, 11, 117, 0), (.iload_n 1, 1, 1, 0, 0, 0)] [] (pc2 := 10) (ls2 := [some (.ref 0), some (.int x1)]) (st2 := [.int x1, .ref 47]) (M2 := M) (Ps := []) (by decide +kernel) rfl rfl trivial ?_
    obtain ⟨k4, k5, hk⟩ := hk
    obtain ⟨k6, hk⟩ := hk
    refine G.eq (st' := [.int (nI (ix x1)), .ref 47]) ?_ rfl (by rw [← (show x1 = nI (ix x1) from (ixE k4))]) rfl
    have t7 : GM z mX8_inReach (d + 7) [.ref 47, .int (nI (ix x1))] M (fun rs => rs = .inl (some (.int (w_inReach (M.1 11) (M.1 38) nt (ix x1))), M)) := by
      have q9 := c_w_inReach_47 z (d + 5) M (ix x1) nt hnt ht k5 k6
      try simp only [mput, mrow_same, mrow_hit, mrow_miss, mrow_sw, idr_eq, ne_eq, Nat.reduceEqDiff, not_false_eq_true, Nat.reduceLT, reduceCtorEq] at q9
      exact q9
    refine G.callV (as := [.int (nI (ix x1))]) (rest := []) (a := 47) oX8_inReach lk_EvenFinders_286 (by decide +kernel) rfl rfl ⟨rfl, rfl⟩ (Nat.le_of_ble_eq_true rfl) rfl ⟨Nat.le_of_ble_eq_true rfl, Nat.le_of_ble_eq_true rfl⟩ t7 (fun v9 N9 h8 => ?_) (fun E9 N9 h8 => by cases h8)
    cases h8
    show G z mX11_reach (d + 8) 1 6 13 [some (.ref 0), some (.int x1)] [.int (w_inReach (M.1 11) (M.1 38) nt (ix x1))] M Q
    exact G.reti (by decide +kernel) rfl rfl (Nat.le_of_ble_eq_true rfl) (Nat.le_of_ble_eq_true rfl) ((by rw [hQ]; simp only [e_reach, if_pos c1, mrow_self]))
  · skip
    rw [if_neg c1] at hk
    have t9 : GM z mX11_needFinder (d + 7) [.ref 0, .int x1] M (fun rs => rs = .inr ("java/util/NoSuchElementException", mrow M 0 (upd (M.1 0) 15 ((M.1 0 15) + nI 1)))) := e_needFinder_b z d _ x1 nf hf c1
    refine G.callV (as := [.int x1]) (rest := []) (a := 0) oX11_needFinder lk_EvenFinders_249 (by decide +kernel) rfl rfl ⟨rfl, rfl⟩ (Nat.le_of_ble_eq_true rfl) rfl ⟨Nat.le_of_ble_eq_true rfl, Nat.le_of_ble_eq_true rfl⟩ t9 (fun v9 N9 h9 => by cases h9) (fun E9 N9 h9 => ?_)
    cases h9
    rw [hQ]
    simp only [e_reach, if_neg c1]
set_option maxHeartbeats 4000000 in
set_option maxRecDepth 3000 in
theorem c_e_settle_0 (z : Zp) (d : Nat) (M : Mem) (x1 : Int32) (nt : Nat) (hnt : nt ≤ 10) (ht : M.1 3 2 = nI nt) (nf : Nat) (hnf : nf ≤ 6) (hf : M.1 3 3 = nI nf) (hk : e_settle_ok M nt nf x1) : GM z mX11_settle (d + 8) [.ref 0, .int x1] M (fun rs => rs = e_settle M nt nf x1) := by
  simp only [e_settle_ok] at hk
  refine GM.of oX11_settle.1 (Nat.le_of_ble_eq_true rfl) ?_
  show G z mX11_settle (d + 8) 0 0 0 [some (.ref 0), some (.int x1)] [] M _
  obtain ⟨Q, hQ⟩ : ∃ Q : Rs → Prop, Q = (fun rs => rs = e_settle M nt nf x1) := ⟨_, rfl⟩
  rw [← hQ]
  refine G.sl [(.aload_n 0, 1, 0, 0, 0, 0), (.iload_n 1, 1, 1, 0, 0, 0)] [] (pc2 := 2) (ls2 := [some (.ref 0), some (.int x1)]) (st2 := [.int x1, .ref 0]) (M2 := M) (Ps := []) (by decide +kernel) rfl rfl trivial ?_
  by_cases c1 : ¬ x1 < 0 ∧ x1 < nI nf
  · skip
    rw [if_pos c1] at hk
    have t2 : GM z mX11_needFinder (d + 7) [.ref 0, .int x1] M (fun rs => rs = .inl (none, M)) := e_needFinder_g z d _ x1 nf hf c1
    refine G.callV (as := [.int x1]) (rest := []) (a := 0) oX11_needFinder lk_EvenFinders_249 (by decide +kernel) rfl rfl ⟨rfl, rfl⟩ (Nat.le_of_ble_eq_true rfl) rfl ⟨Nat.le_of_ble_eq_true rfl, Nat.le_of_ble_eq_true rfl⟩ t2 (fun v9 N9 h3 => ?_) (fun E9 N9 h3 => by cases h3)
    cases h3
    show G z mX11_settle (d + 8) 1 6 5 [some (.ref 0), some (.int x1)] [] M Q
    refine G.sl [(.aload_n 0, 1, 0, 0, 0, 0), (.getfield 60, 3, 10, 8, 114, 0), (.iload_n 1, 1, 1, 0, 0, 0)] [] (pc2 := 10) (ls2 := [some (.ref 0), some (.int x1)]) (st2 := [.int x1, .ref 37]) (M2 := M) (Ps := []) (by decide +kernel) rfl rfl trivial ?_
    obtain ⟨k4, k5, hk⟩ := hk
    obtain ⟨k6, hk⟩ := hk
    refine G.eq (st' := [.int (nI (ix x1)), .ref 37]) ?_ rfl (by rw [← (show x1 = nI (ix x1) from (ixE k4))]) rfl
    have t7 : GM z mX1_leastToBeEven (d + 7) [.ref 37, .int (nI (ix x1))] M (fun rs => rs = .inl (some (.int (d_leastToBeEven (M.1 7) (M.1 38) nt (ix x1))), M)) := by
      have q9 := c_d_leastToBeEven_37 z (d + 6) M (ix x1) nt hnt ht k5 k6
      try simp only [mput, mrow_same, mrow_hit, mrow_miss, mrow_sw, idr_eq, ne_eq, Nat.reduceEqDiff, not_false_eq_true, Nat.reduceLT, reduceCtorEq] at q9
      exact q9
    refine G.callV (as := [.int (nI (ix x1))]) (rest := []) (a := 37) oX1_leastToBeEven lk_EvenFinders_289 (by decide +kernel) rfl rfl ⟨rfl, rfl⟩ (Nat.le_of_ble_eq_true rfl) rfl ⟨Nat.le_of_ble_eq_true rfl, Nat.le_of_ble_eq_true rfl⟩ t7 (fun v9 N9 h8 => ?_) (fun E9 N9 h8 => by cases h8)
    cases h8
    show G z mX11_settle (d + 8) 1 6 13 [some (.ref 0), some (.int x1)] [.int (d_leastToBeEven (M.1 7) (M.1 38) nt (ix x1))] M Q
    exact G.reti (by decide +kernel) rfl rfl (Nat.le_of_ble_eq_true rfl) (Nat.le_of_ble_eq_true rfl) ((by rw [hQ]; simp only [e_settle, if_pos c1, mrow_self]))
  · skip
    rw [if_neg c1] at hk
    have t9 : GM z mX11_needFinder (d + 7) [.ref 0, .int x1] M (fun rs => rs = .inr ("java/util/NoSuchElementException", mrow M 0 (upd (M.1 0) 15 ((M.1 0 15) + nI 1)))) := e_needFinder_b z d _ x1 nf hf c1
    refine G.callV (as := [.int x1]) (rest := []) (a := 0) oX11_needFinder lk_EvenFinders_249 (by decide +kernel) rfl rfl ⟨rfl, rfl⟩ (Nat.le_of_ble_eq_true rfl) rfl ⟨Nat.le_of_ble_eq_true rfl, Nat.le_of_ble_eq_true rfl⟩ t9 (fun v9 N9 h9 => by cases h9) (fun E9 N9 h9 => ?_)
    cases h9
    rw [hQ]
    simp only [e_settle, if_neg c1]
set_option maxHeartbeats 4000000 in
set_option maxRecDepth 3000 in
theorem c_e_parts_0 (z : Zp) (d : Nat) (M : Mem) (x1 : Int32) (x2 : Int32) (nt : Nat) (hnt : nt ≤ 10) (ht : M.1 3 2 = nI nt) (nf : Nat) (hnf : nf ≤ 6) (hf : M.1 3 3 = nI nf) (hk : e_parts_ok M nt nf x1 x2) : GM z mX11_parts (d + 8) [.ref 0, .int x1, .int x2] M (fun rs => rs = e_parts M nt nf x1 x2) := by
  simp only [e_parts_ok] at hk
  refine GM.of oX11_parts.1 (Nat.le_of_ble_eq_true rfl) ?_
  show G z mX11_parts (d + 8) 0 0 0 [some (.ref 0), some (.int x1), some (.int x2)] [] M _
  obtain ⟨Q, hQ⟩ : ∃ Q : Rs → Prop, Q = (fun rs => rs = e_parts M nt nf x1 x2) := ⟨_, rfl⟩
  rw [← hQ]
  refine G.sl [(.aload_n 0, 1, 0, 0, 0, 0), (.iload_n 1, 1, 1, 0, 0, 0)] [] (pc2 := 2) (ls2 := [some (.ref 0), some (.int x1), some (.int x2)]) (st2 := [.int x1, .ref 0]) (M2 := M) (Ps := []) (by decide +kernel) rfl rfl trivial ?_
  by_cases c1 : ¬ x1 < 0 ∧ x1 < nI nf
  · skip
    rw [if_pos c1] at hk
    have t2 : GM z mX11_needFinder (d + 7) [.ref 0, .int x1] M (fun rs => rs = .inl (none, M)) := e_needFinder_g z d _ x1 nf hf c1
    refine G.callV (as := [.int x1]) (rest := []) (a := 0) oX11_needFinder lk_EvenFinders_249 (by decide +kernel) rfl rfl ⟨rfl, rfl⟩ (Nat.le_of_ble_eq_true rfl) rfl ⟨Nat.le_of_ble_eq_true rfl, Nat.le_of_ble_eq_true rfl⟩ t2 (fun v9 N9 h3 => ?_) (fun E9 N9 h3 => by cases h3)
    cases h3
    show G z mX11_parts (d + 8) 1 6 5 [some (.ref 0), some (.int x1), some (.int x2)] [] M Q
    refine G.sl [(.aload_n 0, 1, 0, 0, 0, 0), (.iload_n 2, 1, 2, 0, 0, 0), (.iconst 0, 1, 0, 0, 0, nI 0), (.sipush 600, 3, 0, 0, 0, nI 600)] [] (pc2 := 11) (ls2 := [some (.ref 0), some (.int x1), some (.int x2)]) (st2 := [.int (nI 600), .int (nI 0), .int x2, .ref 0]) (M2 := M) (Ps := []) (by decide +kernel) rfl rfl trivial ?_
    by_cases c4 : ¬ x2 < (nI 0) ∧ x2 ≤ (nI 600)
    · skip
      rw [if_pos c4] at hk
      have t5 : GM z mX11_needWithin (d + 7) [.ref 0, .int x2, .int (nI 0), .int (nI 600)] M (fun rs => rs = .inl (none, M)) := e_needWithin_g z (d + 1) _ x2 (nI 0) (nI 600) c4
      refine G.callV (as := [.int x2, .int (nI 0), .int (nI 600)]) (rest := []) (a := 0) oX11_needWithin lk_EvenFinders_182 (by decide +kernel) rfl rfl ⟨rfl, rfl⟩ (Nat.le_of_ble_eq_true rfl) rfl ⟨Nat.le_of_ble_eq_true rfl, Nat.le_of_ble_eq_true rfl⟩ t5 (fun v9 N9 h6 => ?_) (fun E9 N9 h6 => by cases h6)
      cases h6
      show G z mX11_parts (d + 8) 2 12 14 [some (.ref 0), some (.int x1), some (.int x2)] [] M Q
      refine G.sl [(.aload_n 0, 1, 0, 0, 0, 0), (.getfield 60, 3, 10, 8, 114, 0), (.iload_n 1, 1, 1, 0, 0, 0), (.iload_n 2, 1, 2, 0, 0, 0)] [] (pc2 := 20) (ls2 := [some (.ref 0), some (.int x1), some (.int x2)]) (st2 := [.int x2, .int x1, .ref 37]) (M2 := M) (Ps := []) (by decide +kernel) rfl rfl trivial ?_
      obtain ⟨k7, hk⟩ := hk
      have t8 : GM z mX1_setsWorth (d + 7) [.ref 37, .int x1, .int x2] M (fun rs => rs = .inl (some (.int (d_setsWorth (M.1 7) (M.1 38) nt x1 x2)), M)) := by
        have q9 := c_d_setsWorth_37 z (d + 6) M x1 x2 nt hnt ht k7
        try simp only [mput, mrow_same, mrow_hit, mrow_miss, mrow_sw, idr_eq, ne_eq, Nat.reduceEqDiff, not_false_eq_true, Nat.reduceLT, reduceCtorEq] at q9
        exact q9
      refine G.callV (as := [.int x1, .int x2]) (rest := []) (a := 37) oX1_setsWorth lk_EvenFinders_292 (by decide +kernel) rfl rfl ⟨rfl, rfl⟩ (Nat.le_of_ble_eq_true rfl) rfl ⟨Nat.le_of_ble_eq_true rfl, Nat.le_of_ble_eq_true rfl⟩ t8 (fun v9 N9 h9 => ?_) (fun E9 N9 h9 => by cases h9)
      cases h9
      show G z mX11_parts (d + 8) 2 12 23 [some (.ref 0), some (.int x1), some (.int x2)] [.int (d_setsWorth (M.1 7) (M.1 38) nt x1 x2)] M Q
      exact G.reti (by decide +kernel) rfl rfl (Nat.le_of_ble_eq_true rfl) (Nat.le_of_ble_eq_true rfl) ((by rw [hQ]; simp only [e_parts, if_pos c1, if_pos c4, mrow_self]))
    · skip
      rw [if_neg c4] at hk
      have t10 : GM z mX11_needWithin (d + 7) [.ref 0, .int x2, .int (nI 0), .int (nI 600)] M (fun rs => rs = .inr ("java/lang/IllegalArgumentException", mrow M 0 (upd (M.1 0) 16 ((M.1 0 16) + nI 1)))) := e_needWithin_b z (d + 1) _ x2 (nI 0) (nI 600) c4
      refine G.callV (as := [.int x2, .int (nI 0), .int (nI 600)]) (rest := []) (a := 0) oX11_needWithin lk_EvenFinders_182 (by decide +kernel) rfl rfl ⟨rfl, rfl⟩ (Nat.le_of_ble_eq_true rfl) rfl ⟨Nat.le_of_ble_eq_true rfl, Nat.le_of_ble_eq_true rfl⟩ t10 (fun v9 N9 h9 => by cases h9) (fun E9 N9 h9 => ?_)
      cases h9
      rw [hQ]
      simp only [e_parts, if_pos c1, if_neg c4]
  · skip
    rw [if_neg c1] at hk
    have t11 : GM z mX11_needFinder (d + 7) [.ref 0, .int x1] M (fun rs => rs = .inr ("java/util/NoSuchElementException", mrow M 0 (upd (M.1 0) 15 ((M.1 0 15) + nI 1)))) := e_needFinder_b z d _ x1 nf hf c1
    refine G.callV (as := [.int x1]) (rest := []) (a := 0) oX11_needFinder lk_EvenFinders_249 (by decide +kernel) rfl rfl ⟨rfl, rfl⟩ (Nat.le_of_ble_eq_true rfl) rfl ⟨Nat.le_of_ble_eq_true rfl, Nat.le_of_ble_eq_true rfl⟩ t11 (fun v9 N9 h9 => by cases h9) (fun E9 N9 h9 => ?_)
    cases h9
    rw [hQ]
    simp only [e_parts, if_neg c1]
set_option maxHeartbeats 4000000 in
set_option maxRecDepth 3000 in
theorem c_e_fits_0 (z : Zp) (d : Nat) (M : Mem) (x1 : Int32) (np : Nat) (hnp : np ≤ 8) (hp : M.1 3 0 = nI np) (nt : Nat) (hnt : nt ≤ 10) (ht : M.1 3 2 = nI nt) (hk : e_fits_ok M np nt x1) : GM z mX11_fits (d + 7) [.ref 0, .int x1] M (fun rs => rs = e_fits M np nt x1) := by
  simp only [e_fits_ok] at hk
  refine GM.of oX11_fits.1 (Nat.le_of_ble_eq_true rfl) ?_
  show G z mX11_fits (d + 7) 0 0 0 [some (.ref 0), some (.int x1)] [] M _
  obtain ⟨Q, hQ⟩ : ∃ Q : Rs → Prop, Q = (fun rs => rs = e_fits M np nt x1) := ⟨_, rfl⟩
  rw [← hQ]
  refine G.sl [(.aload_n 0, 1, 0, 0, 0, 0), (.iload_n 1, 1, 1, 0, 0, 0), (.iconst 0, 1, 0, 0, 0, nI 0), (.iconst 1, 1, 0, 0, 0, nI 1)] [] (pc2 := 4) (ls2 := [some (.ref 0), some (.int x1)]) (st2 := [.int (nI 1), .int (nI 0), .int x1, .ref 0]) (M2 := M) (Ps := []) (by decide +kernel) rfl rfl trivial ?_
  by_cases c1 : ¬ x1 < (nI 0) ∧ x1 ≤ (nI 1)
  · skip
    rw [if_pos c1] at hk
    have t2 : GM z mX11_needWithin (d + 6) [.ref 0, .int x1, .int (nI 0), .int (nI 1)] M (fun rs => rs = .inl (none, M)) := e_needWithin_g z d _ x1 (nI 0) (nI 1) c1
    refine G.callV (as := [.int x1, .int (nI 0), .int (nI 1)]) (rest := []) (a := 0) oX11_needWithin lk_EvenFinders_182 (by decide +kernel) rfl rfl ⟨rfl, rfl⟩ (Nat.le_of_ble_eq_true rfl) rfl ⟨Nat.le_of_ble_eq_true rfl, Nat.le_of_ble_eq_true rfl⟩ t2 (fun v9 N9 h3 => ?_) (fun E9 N9 h3 => by cases h3)
    cases h3
    show G z mX11_fits (d + 7) 1 6 7 [some (.ref 0), some (.int x1)] [] M Q
    refine G.sl [(.aload_n 0, 1, 0, 0, 0, 0), (.getfield 88, 3, 10, 12, 118, 0)] [] (pc2 := 11) (ls2 := [some (.ref 0), some (.int x1)]) (st2 := [.ref 49]) (M2 := M) (Ps := []) (by decide +kernel) rfl rfl trivial ?_
    obtain ⟨k4, hk⟩ := hk
    rcases g5 : s_listPairs (M.1 7) (M.1 30) (M.1 38) (M.1 49) (M.1 50) (M.1 51) np nt with ⟨u6, r7, r8, r9⟩
    have t10 : GM z mX5_listPairs (d + 6) [.ref 49] M (fun rs => rs = .inl (none, mrow (mrow (mrow M 49 r7) 50 r8) 51 r9)) := by
      have q9 := c_s_listPairs_49 z (d + 4) M np hnp hp nt hnt ht k4
      try simp only [mput, mrow_same, mrow_hit, mrow_miss, mrow_sw, idr_eq, ne_eq, Nat.reduceEqDiff, not_false_eq_true, Nat.reduceLT, reduceCtorEq, g5] at q9
      exact q9
    refine G.callV (as := []) (rest := []) (a := 49) oX5_listPairs lk_EvenFinders_295 (by decide +kernel) rfl rfl ⟨rfl, rfl⟩ (Nat.le_of_ble_eq_true rfl) rfl ⟨Nat.le_of_ble_eq_true rfl, Nat.le_of_ble_eq_true rfl⟩ t10 (fun v9 N9 h11 => ?_) (fun E9 N9 h11 => by cases h11)
    cases h11
    show G z mX11_fits (d + 7) 1 6 14 [some (.ref 0), some (.int x1)] [] (mrow (mrow (mrow M 49 r7) 50 r8) 51 r9) Q
    refine G.sl [(.iload_n 1, 1, 1, 0, 0, 0)] [] (pc2 := 15) (ls2 := [some (.ref 0), some (.int x1)]) (st2 := [.int x1]) (M2 := mrow (mrow (mrow M 49 r7) 50 r8) 51 r9) (Ps := []) (by decide +kernel) rfl rfl trivial ?_
    refine G.if_ne (off := (11)) (tgt := 26) (by decide +kernel) rfl (fun c12 => ?_) (fun c12 => ?_)
    · skip
      refine G.sl [(.aload_n 0, 1, 0, 0, 0, 0), (.getfield 88, 3, 10, 12, 118, 0), (.getfield 298, 3, 4, 0, 92, 0)] [] (pc2 := 33) (ls2 := [some (.ref 0), some (.int x1)]) (st2 := [.int (r7 0)]) (M2 := mrow (mrow (mrow M 49 r7) 50 r8) 51 r9) (Ps := []) (by decide +kernel) rfl rfl trivial ?_
      refine G.if_le (off := (15)) (tgt := 48) (by decide +kernel) rfl (fun c13 => ?_) (fun c13 => ?_)
      · skip
        refine G.sl [(.iconst (-1), 1, 0, 0, 0, (-1))] [] (pc2 := 49) (ls2 := [some (.ref 0), some (.int x1)]) (st2 := [.int ((-1))]) (M2 := mrow (mrow (mrow M 49 r7) 50 r8) 51 r9) (Ps := []) (by decide +kernel) rfl rfl trivial ?_
        exact G.reti (by decide +kernel) rfl rfl (Nat.le_of_ble_eq_true rfl) (Nat.le_of_ble_eq_true rfl) ((by rw [hQ]; simp only [e_fits, if_pos c1, g5, if_neg c12, if_pos c13, mrow_self]))
      · skip
        refine G.sl [(.aload_n 0, 1, 0, 0, 0, 0), (.getfield 88, 3, 10, 12, 118, 0), (.getfield 301, 3, 4, 1, 94, 0), (.iconst 0, 1, 0, 0, 0, nI 0), (.iaload, 1, 0, 0, 0, 0), (.goto 4, 3, 49, 0, 0, 0)] [0] (pc2 := 49) (ls2 := [some (.ref 0), some (.int x1)]) (st2 := [.int (r8 0)]) (M2 := mrow (mrow (mrow M 49 r7) 50 r8) 51 r9) (Ps := [(nI 0) = nI 0 ∧ 0 < 80]) (by decide +kernel) rfl rfl ⟨⟨rfl, (by omega)⟩, trivial⟩ ?_
        exact G.reti (by decide +kernel) rfl rfl (Nat.le_of_ble_eq_true rfl) (Nat.le_of_ble_eq_true rfl) ((by rw [hQ]; simp only [e_fits, if_pos c1, g5, if_neg c12, if_neg c13, mrow_self]))
    · skip
      refine G.sl [(.aload_n 0, 1, 0, 0, 0, 0), (.getfield 88, 3, 10, 12, 118, 0), (.getfield 298, 3, 4, 0, 92, 0)] [] (pc2 := 25) (ls2 := [some (.ref 0), some (.int x1)]) (st2 := [.int (r7 0)]) (M2 := mrow (mrow (mrow M 49 r7) 50 r8) 51 r9) (Ps := []) (by decide +kernel) rfl rfl trivial ?_
      exact G.reti (by decide +kernel) rfl rfl (Nat.le_of_ble_eq_true rfl) (Nat.le_of_ble_eq_true rfl) ((by rw [hQ]; simp only [e_fits, if_pos c1, g5, if_pos c12, mrow_self]))
  · skip
    rw [if_neg c1] at hk
    have t14 : GM z mX11_needWithin (d + 6) [.ref 0, .int x1, .int (nI 0), .int (nI 1)] M (fun rs => rs = .inr ("java/lang/IllegalArgumentException", mrow M 0 (upd (M.1 0) 16 ((M.1 0 16) + nI 1)))) := e_needWithin_b z d _ x1 (nI 0) (nI 1) c1
    refine G.callV (as := [.int x1, .int (nI 0), .int (nI 1)]) (rest := []) (a := 0) oX11_needWithin lk_EvenFinders_182 (by decide +kernel) rfl rfl ⟨rfl, rfl⟩ (Nat.le_of_ble_eq_true rfl) rfl ⟨Nat.le_of_ble_eq_true rfl, Nat.le_of_ble_eq_true rfl⟩ t14 (fun v9 N9 h9 => by cases h9) (fun E9 N9 h9 => ?_)
    cases h9
    rw [hQ]
    simp only [e_fits, if_neg c1]
set_option maxHeartbeats 4000000 in
set_option maxRecDepth 3000 in
theorem c_e_look_0 (z : Zp) (d : Nat) (M : Mem) (x1 : Int32) (np : Nat) (hnp : np ≤ 8) (hp : M.1 3 0 = nI np) (nt : Nat) (hnt : nt ≤ 10) (ht : M.1 3 2 = nI nt) (hk : e_look_ok M np nt x1) : GM z mX11_look (d + 7) [.ref 0, .int x1] M (fun rs => rs = e_look M np nt x1) := by
  simp only [e_look_ok] at hk
  refine GM.of oX11_look.1 (Nat.le_of_ble_eq_true rfl) ?_
  show G z mX11_look (d + 7) 0 0 0 [some (.ref 0), some (.int x1), none] [] M _
  obtain ⟨Q, hQ⟩ : ∃ Q : Rs → Prop, Q = (fun rs => rs = e_look M np nt x1) := ⟨_, rfl⟩
  rw [← hQ]
  refine G.sl [(.aload_n 0, 1, 0, 0, 0, 0), (.iload_n 1, 1, 1, 0, 0, 0), (.iconst 0, 1, 0, 0, 0, nI 0), (.iconst 1, 1, 0, 0, 0, nI 1)] [] (pc2 := 4) (ls2 := [some (.ref 0), some (.int x1), none]) (st2 := [.int (nI 1), .int (nI 0), .int x1, .ref 0]) (M2 := M) (Ps := []) (by decide +kernel) rfl rfl trivial ?_
  by_cases c1 : ¬ x1 < (nI 0) ∧ x1 ≤ (nI 1)
  · skip
    rw [if_pos c1] at hk
    have t2 : GM z mX11_needWithin (d + 6) [.ref 0, .int x1, .int (nI 0), .int (nI 1)] M (fun rs => rs = .inl (none, M)) := e_needWithin_g z d _ x1 (nI 0) (nI 1) c1
    refine G.callV (as := [.int x1, .int (nI 0), .int (nI 1)]) (rest := []) (a := 0) oX11_needWithin lk_EvenFinders_182 (by decide +kernel) rfl rfl ⟨rfl, rfl⟩ (Nat.le_of_ble_eq_true rfl) rfl ⟨Nat.le_of_ble_eq_true rfl, Nat.le_of_ble_eq_true rfl⟩ t2 (fun v9 N9 h3 => ?_) (fun E9 N9 h3 => by cases h3)
    cases h3
    show G z mX11_look (d + 7) 1 6 7 [some (.ref 0), some (.int x1), none] [] M Q
    refine G.sl [(.aload_n 0, 1, 0, 0, 0, 0), (.getfield 88, 3, 10, 12, 118, 0)] [] (pc2 := 11) (ls2 := [some (.ref 0), some (.int x1), none]) (st2 := [.ref 49]) (M2 := M) (Ps := []) (by decide +kernel) rfl rfl trivial ?_
    obtain ⟨k4, hk⟩ := hk
    rcases g5 : s_listPairs (M.1 7) (M.1 30) (M.1 38) (M.1 49) (M.1 50) (M.1 51) np nt with ⟨u6, r7, r8, r9⟩
    try simp only [g5] at hk
    have t10 : GM z mX5_listPairs (d + 6) [.ref 49] M (fun rs => rs = .inl (none, mrow (mrow (mrow M 49 r7) 50 r8) 51 r9)) := by
      have q9 := c_s_listPairs_49 z (d + 4) M np hnp hp nt hnt ht k4
      try simp only [mput, mrow_same, mrow_hit, mrow_miss, mrow_sw, idr_eq, ne_eq, Nat.reduceEqDiff, not_false_eq_true, Nat.reduceLT, reduceCtorEq, g5] at q9
      exact q9
    refine G.callV (as := []) (rest := []) (a := 49) oX5_listPairs lk_EvenFinders_295 (by decide +kernel) rfl rfl ⟨rfl, rfl⟩ (Nat.le_of_ble_eq_true rfl) rfl ⟨Nat.le_of_ble_eq_true rfl, Nat.le_of_ble_eq_true rfl⟩ t10 (fun v9 N9 h11 => ?_) (fun E9 N9 h11 => by cases h11)
    cases h11
    show G z mX11_look (d + 7) 1 6 14 [some (.ref 0), some (.int x1), none] [] (mrow (mrow (mrow M 49 r7) 50 r8) 51 r9) Q
    refine G.sl [(.aload_n 0, 1, 0, 0, 0, 0), (.getfield 88, 3, 10, 12, 118, 0)] [] (pc2 := 18) (ls2 := [some (.ref 0), some (.int x1), none]) (st2 := [.ref 49]) (M2 := mrow (mrow (mrow M 49 r7) 50 r8) 51 r9) (Ps := []) (by decide +kernel) rfl rfl trivial ?_
    obtain ⟨k12, hk⟩ := hk
    rcases g13 : s_nextPlace (M.1 7) (M.1 30) (M.1 38) r7 r8 r9 (M.1 52) np with ⟨v14, r15⟩
    try simp only [g13] at hk
    have t16 : GM z mX5_nextPlace (d + 6) [.ref 49] (mrow (mrow (mrow M 49 r7) 50 r8) 51 r9) (fun rs => rs = .inl (some (.int v14), mrow (mrow (mrow (mrow M 49 r7) 50 r8) 51 r9) 52 r15)) := by
      have q9 := c_s_nextPlace_49 z (d + 4) (mrow (mrow (mrow M 49 r7) 50 r8) 51 r9) np hnp hp k12
      try simp only [mput, mrow_same, mrow_hit, mrow_miss, mrow_sw, idr_eq, ne_eq, Nat.reduceEqDiff, not_false_eq_true, Nat.reduceLT, reduceCtorEq, g13] at q9
      exact q9
    refine G.callV (as := []) (rest := []) (a := 49) oX5_nextPlace lk_EvenFinders_304 (by decide +kernel) rfl rfl ⟨rfl, rfl⟩ (Nat.le_of_ble_eq_true rfl) rfl ⟨Nat.le_of_ble_eq_true rfl, Nat.le_of_ble_eq_true rfl⟩ t16 (fun v9 N9 h17 => ?_) (fun E9 N9 h17 => by cases h17)
    cases h17
    show G z mX11_look (d + 7) 1 6 21 [some (.ref 0), some (.int x1), none] [.int v14] (mrow (mrow (mrow (mrow M 49 r7) 50 r8) 51 r9) 52 r15) Q
    refine G.sl [(.istore_n 2, 1, 2, 0, 0, 0), (.iload_n 1, 1, 1, 0, 0, 0)] [] (pc2 := 23) (ls2 := [some (.ref 0), some (.int x1), some (.int v14)]) (st2 := [.int x1]) (M2 := mrow (mrow (mrow (mrow M 49 r7) 50 r8) 51 r9) 52 r15) (Ps := []) (by decide +kernel) rfl rfl trivial ?_
    refine G.if_eq (off := (8)) (tgt := 31) (by decide +kernel) rfl (fun c18 => ?_) (fun c18 => ?_)
    · skip
      rw [if_pos c18] at hk
      refine G.sl [(.iload_n 2, 1, 2, 0, 0, 0), (.goto 11, 3, 43, 0, 0, 0)] [] (pc2 := 43) (ls2 := [some (.ref 0), some (.int x1), some (.int v14)]) (st2 := [.int v14]) (M2 := mrow (mrow (mrow (mrow M 49 r7) 50 r8) 51 r9) 52 r15) (Ps := []) (by decide +kernel) rfl rfl trivial ?_
      exact G.reti (by decide +kernel) rfl rfl (Nat.le_of_ble_eq_true rfl) (Nat.le_of_ble_eq_true rfl) ((by rw [hQ]; simp only [e_look, if_pos c1, g5, g13, if_pos c18, mrow_self]))
    · skip
      rw [if_neg c18] at hk
      refine G.sl [(.iload_n 2, 1, 2, 0, 0, 0), (.iconst (-1), 1, 0, 0, 0, (-1))] [] (pc2 := 28) (ls2 := [some (.ref 0), some (.int x1), some (.int v14)]) (st2 := [.int ((-1)), .int v14]) (M2 := mrow (mrow (mrow (mrow M 49 r7) 50 r8) 51 r9) 52 r15) (Ps := []) (by decide +kernel) rfl rfl trivial ?_
      refine G.ic_ne (off := (7)) (tgt := 35) (by decide +kernel) rfl (fun c19 => ?_) (fun c19 => ?_)
      · skip
        rw [if_neg c19] at hk
        refine G.sl [(.aload_n 0, 1, 0, 0, 0, 0), (.getfield 88, 3, 10, 12, 118, 0), (.iload_n 2, 1, 2, 0, 0, 0)] [] (pc2 := 40) (ls2 := [some (.ref 0), some (.int x1), some (.int v14)]) (st2 := [.int v14, .ref 49]) (M2 := mrow (mrow (mrow (mrow M 49 r7) 50 r8) 51 r9) 52 r15) (Ps := []) (by decide +kernel) rfl rfl trivial ?_
        obtain ⟨k20, k21, hk⟩ := hk
        obtain ⟨k22, hk⟩ := hk
        refine G.eq (st' := [.int (nI (ix v14)), .ref 49]) ?_ rfl (by rw [← (show v14 = nI (ix v14) from (ixE k20))]) rfl
        rcases g23 : s_leftAtWorst (M.1 7) (M.1 38) r7 r8 r9 r15 (ix v14) with ⟨v24, r25⟩
        have t26 : GM z mX5_leftAtWorst (d + 6) [.ref 49, .int (nI (ix v14))] (mrow (mrow (mrow (mrow M 49 r7) 50 r8) 51 r9) 52 r15) (fun rs => rs = .inl (some (.int v24), mrow (mrow (mrow (mrow M 49 r7) 50 r8) 51 r9) 52 r25)) := by
          have q9 := c_s_leftAtWorst_49 z (d + 5) (mrow (mrow (mrow (mrow M 49 r7) 50 r8) 51 r9) 52 r15) (ix v14) k21 k22
          try simp only [mput, mrow_same, mrow_hit, mrow_miss, mrow_sw, idr_eq, ne_eq, Nat.reduceEqDiff, not_false_eq_true, Nat.reduceLT, reduceCtorEq, g23] at q9
          exact q9
        refine G.callV (as := [.int (nI (ix v14))]) (rest := []) (a := 49) oX5_leftAtWorst lk_EvenFinders_307 (by decide +kernel) rfl rfl ⟨rfl, rfl⟩ (Nat.le_of_ble_eq_true rfl) rfl ⟨Nat.le_of_ble_eq_true rfl, Nat.le_of_ble_eq_true rfl⟩ t26 (fun v9 N9 h27 => ?_) (fun E9 N9 h27 => by cases h27)
        cases h27
        show G z mX11_look (d + 7) 1 6 43 [some (.ref 0), some (.int x1), some (.int v14)] [.int v24] (mrow (mrow (mrow (mrow M 49 r7) 50 r8) 51 r9) 52 r25) Q
        exact G.reti (by decide +kernel) rfl rfl (Nat.le_of_ble_eq_true rfl) (Nat.le_of_ble_eq_true rfl) ((by rw [hQ]; simp only [e_look, if_pos c1, g5, g13, if_neg c18, if_neg c19, g23, mrow_self]))
      · skip
        rw [if_pos c19] at hk
        refine G.sl [(.iload_n 2, 1, 2, 0, 0, 0), (.goto 11, 3, 43, 0, 0, 0)] [] (pc2 := 43) (ls2 := [some (.ref 0), some (.int x1), some (.int v14)]) (st2 := [.int v14]) (M2 := mrow (mrow (mrow (mrow M 49 r7) 50 r8) 51 r9) 52 r15) (Ps := []) (by decide +kernel) rfl rfl trivial ?_
        exact G.reti (by decide +kernel) rfl rfl (Nat.le_of_ble_eq_true rfl) (Nat.le_of_ble_eq_true rfl) ((by rw [hQ]; simp only [e_look, if_pos c1, g5, g13, if_neg c18, if_pos c19, mrow_self]))
  · skip
    rw [if_neg c1] at hk
    have t28 : GM z mX11_needWithin (d + 6) [.ref 0, .int x1, .int (nI 0), .int (nI 1)] M (fun rs => rs = .inr ("java/lang/IllegalArgumentException", mrow M 0 (upd (M.1 0) 16 ((M.1 0 16) + nI 1)))) := e_needWithin_b z d _ x1 (nI 0) (nI 1) c1
    refine G.callV (as := [.int x1, .int (nI 0), .int (nI 1)]) (rest := []) (a := 0) oX11_needWithin lk_EvenFinders_182 (by decide +kernel) rfl rfl ⟨rfl, rfl⟩ (Nat.le_of_ble_eq_true rfl) rfl ⟨Nat.le_of_ble_eq_true rfl, Nat.le_of_ble_eq_true rfl⟩ t28 (fun v9 N9 h9 => by cases h9) (fun E9 N9 h9 => ?_)
    cases h9
    rw [hQ]
    simp only [e_look, if_neg c1]
set_option maxHeartbeats 4000000 in
set_option maxRecDepth 3000 in
theorem c_e_pins_0 (z : Zp) (d : Nat) (M : Mem) (x1 : Int32) (x2 : Int32) (x3 : Int32) (x4 : Int32) (hk : e_pins_ok M x1 x2 x3 x4) : GM z mX11_pins (d + 7) [.ref 0, .int x1, .int x2, .int x3, .int x4] M (fun rs => rs = e_pins M x1 x2 x3 x4) := by
  simp only [e_pins_ok] at hk
  refine GM.of oX11_pins.1 (Nat.le_of_ble_eq_true rfl) ?_
  show G z mX11_pins (d + 7) 0 0 0 [some (.ref 0), some (.int x1), some (.int x2), some (.int x3), some (.int x4)] [] M _
  obtain ⟨Q, hQ⟩ : ∃ Q : Rs → Prop, Q = (fun rs => rs = e_pins M x1 x2 x3 x4) := ⟨_, rfl⟩
  rw [← hQ]
  refine G.sl [(.aload_n 0, 1, 0, 0, 0, 0), (.iload_n 1, 1, 1, 0, 0, 0), (.iconst 0, 1, 0, 0, 0, nI 0), (.bipush 20, 2, 0, 0, 0, nI 20)] [] (pc2 := 5) (ls2 := [some (.ref 0), some (.int x1), some (.int x2), some (.int x3), some (.int x4)]) (st2 := [.int (nI 20), .int (nI 0), .int x1, .ref 0]) (M2 := M) (Ps := []) (by decide +kernel) rfl rfl trivial ?_
  by_cases c1 : ¬ x1 < (nI 0) ∧ x1 ≤ (nI 20)
  · skip
    rw [if_pos c1] at hk
    have t2 : GM z mX11_needWithin (d + 6) [.ref 0, .int x1, .int (nI 0), .int (nI 20)] M (fun rs => rs = .inl (none, M)) := e_needWithin_g z d _ x1 (nI 0) (nI 20) c1
    refine G.callV (as := [.int x1, .int (nI 0), .int (nI 20)]) (rest := []) (a := 0) oX11_needWithin lk_EvenFinders_182 (by decide +kernel) rfl rfl ⟨rfl, rfl⟩ (Nat.le_of_ble_eq_true rfl) rfl ⟨Nat.le_of_ble_eq_true rfl, Nat.le_of_ble_eq_true rfl⟩ t2 (fun v9 N9 h3 => ?_) (fun E9 N9 h3 => by cases h3)
    cases h3
    show G z mX11_pins (d + 7) 1 6 8 [some (.ref 0), some (.int x1), some (.int x2), some (.int x3), some (.int x4)] [] M Q
    refine G.sl [(.aload_n 0, 1, 0, 0, 0, 0), (.iload_n 2, 1, 2, 0, 0, 0), (.iconst 0, 1, 0, 0, 0, nI 0), (.iload_n 1, 1, 1, 0, 0, 0)] [] (pc2 := 12) (ls2 := [some (.ref 0), some (.int x1), some (.int x2), some (.int x3), some (.int x4)]) (st2 := [.int x1, .int (nI 0), .int x2, .ref 0]) (M2 := M) (Ps := []) (by decide +kernel) rfl rfl trivial ?_
    by_cases c4 : ¬ x2 < (nI 0) ∧ x2 ≤ x1
    · skip
      rw [if_pos c4] at hk
      have t5 : GM z mX11_needWithin (d + 6) [.ref 0, .int x2, .int (nI 0), .int x1] M (fun rs => rs = .inl (none, M)) := e_needWithin_g z d _ x2 (nI 0) x1 c4
      refine G.callV (as := [.int x2, .int (nI 0), .int x1]) (rest := []) (a := 0) oX11_needWithin lk_EvenFinders_182 (by decide +kernel) rfl rfl ⟨rfl, rfl⟩ (Nat.le_of_ble_eq_true rfl) rfl ⟨Nat.le_of_ble_eq_true rfl, Nat.le_of_ble_eq_true rfl⟩ t5 (fun v9 N9 h6 => ?_) (fun E9 N9 h6 => by cases h6)
      cases h6
      show G z mX11_pins (d + 7) 2 12 15 [some (.ref 0), some (.int x1), some (.int x2), some (.int x3), some (.int x4)] [] M Q
      refine G.sl [(.aload_n 0, 1, 0, 0, 0, 0), (.iload_n 3, 1, 3, 0, 0, 0), (.iconst 0, 1, 0, 0, 0, nI 0), (.iload_n 1, 1, 1, 0, 0, 0)] [] (pc2 := 19) (ls2 := [some (.ref 0), some (.int x1), some (.int x2), some (.int x3), some (.int x4)]) (st2 := [.int x1, .int (nI 0), .int x3, .ref 0]) (M2 := M) (Ps := []) (by decide +kernel) rfl rfl trivial ?_
      by_cases c7 : ¬ x3 < (nI 0) ∧ x3 ≤ x1
      · skip
        rw [if_pos c7] at hk
        have t8 : GM z mX11_needWithin (d + 6) [.ref 0, .int x3, .int (nI 0), .int x1] M (fun rs => rs = .inl (none, M)) := e_needWithin_g z d _ x3 (nI 0) x1 c7
        refine G.callV (as := [.int x3, .int (nI 0), .int x1]) (rest := []) (a := 0) oX11_needWithin lk_EvenFinders_182 (by decide +kernel) rfl rfl ⟨rfl, rfl⟩ (Nat.le_of_ble_eq_true rfl) rfl ⟨Nat.le_of_ble_eq_true rfl, Nat.le_of_ble_eq_true rfl⟩ t8 (fun v9 N9 h9 => ?_) (fun E9 N9 h9 => by cases h9)
        cases h9
        show G z mX11_pins (d + 7) 3 18 22 [some (.ref 0), some (.int x1), some (.int x2), some (.int x3), some (.int x4)] [] M Q
        refine G.sl [(.aload_n 0, 1, 0, 0, 0, 0), (.iload 4, 2, 4, 0, 0, 0), (.iconst 0, 1, 0, 0, 0, nI 0), (.iconst 1, 1, 0, 0, 0, nI 1)] [] (pc2 := 27) (ls2 := [some (.ref 0), some (.int x1), some (.int x2), some (.int x3), some (.int x4)]) (st2 := [.int (nI 1), .int (nI 0), .int x4, .ref 0]) (M2 := M) (Ps := []) (by decide +kernel) rfl rfl trivial ?_
        by_cases c10 : ¬ x4 < (nI 0) ∧ x4 ≤ (nI 1)
        · skip
          rw [if_pos c10] at hk
          have t11 : GM z mX11_needWithin (d + 6) [.ref 0, .int x4, .int (nI 0), .int (nI 1)] M (fun rs => rs = .inl (none, M)) := e_needWithin_g z d _ x4 (nI 0) (nI 1) c10
          refine G.callV (as := [.int x4, .int (nI 0), .int (nI 1)]) (rest := []) (a := 0) oX11_needWithin lk_EvenFinders_182 (by decide +kernel) rfl rfl ⟨rfl, rfl⟩ (Nat.le_of_ble_eq_true rfl) rfl ⟨Nat.le_of_ble_eq_true rfl, Nat.le_of_ble_eq_true rfl⟩ t11 (fun v9 N9 h12 => ?_) (fun E9 N9 h12 => by cases h12)
          cases h12
          show G z mX11_pins (d + 7) 4 24 30 [some (.ref 0), some (.int x1), some (.int x2), some (.int x3), some (.int x4)] [] M Q
          refine G.sl [(.iload_n 1, 1, 1, 0, 0, 0), (.iload_n 2, 1, 2, 0, 0, 0), (.iload_n 3, 1, 3, 0, 0, 0), (.iload 4, 2, 4, 0, 0, 0)] [] (pc2 := 35) (ls2 := [some (.ref 0), some (.int x1), some (.int x2), some (.int x3), some (.int x4)]) (st2 := [.int x4, .int x3, .int x2, .int x1]) (M2 := M) (Ps := []) (by decide +kernel) rfl rfl trivial ?_
          obtain ⟨k13, hk⟩ := hk
          have t14 : GM z mX4_bentPart (d + 6) [.int x1, .int x2, .int x3, .int x4] M (fun rs => rs = .inl (some (.long (o_bentPart x1 x2 x3 x4)), M)) := by
            have q9 := c_o_bentPart z (d + 5) M x1 x2 x3 x4 k13
            try simp only [mput, mrow_same, mrow_hit, mrow_miss, mrow_sw, idr_eq, ne_eq, Nat.reduceEqDiff, not_false_eq_true, Nat.reduceLT, reduceCtorEq] at q9
            exact q9
          refine G.callS (as := [.int x1, .int x2, .int x3, .int x4]) (rest := []) oX4_bentPart lk_EvenFinders_310 (by decide +kernel) rfl (Nat.le_of_ble_eq_true rfl) rfl ⟨Nat.le_of_ble_eq_true rfl, Nat.le_of_ble_eq_true rfl⟩ t14 (fun v9 N9 h15 => ?_) (fun E9 N9 h15 => by cases h15)
          cases h15
          show G z mX11_pins (d + 7) 4 24 38 [some (.ref 0), some (.int x1), some (.int x2), some (.int x3), some (.int x4)] [.long (o_bentPart x1 x2 x3 x4)] M Q
          exact G.retl (by decide +kernel) rfl (Nat.le_of_ble_eq_true rfl) (Nat.le_of_ble_eq_true rfl) ((by rw [hQ]; simp only [e_pins, if_pos c1, if_pos c4, if_pos c7, if_pos c10, mrow_self]))
        · skip
          rw [if_neg c10] at hk
          have t16 : GM z mX11_needWithin (d + 6) [.ref 0, .int x4, .int (nI 0), .int (nI 1)] M (fun rs => rs = .inr ("java/lang/IllegalArgumentException", mrow M 0 (upd (M.1 0) 16 ((M.1 0 16) + nI 1)))) := e_needWithin_b z d _ x4 (nI 0) (nI 1) c10
          refine G.callV (as := [.int x4, .int (nI 0), .int (nI 1)]) (rest := []) (a := 0) oX11_needWithin lk_EvenFinders_182 (by decide +kernel) rfl rfl ⟨rfl, rfl⟩ (Nat.le_of_ble_eq_true rfl) rfl ⟨Nat.le_of_ble_eq_true rfl, Nat.le_of_ble_eq_true rfl⟩ t16 (fun v9 N9 h9 => by cases h9) (fun E9 N9 h9 => ?_)
          cases h9
          rw [hQ]
          simp only [e_pins, if_pos c1, if_pos c4, if_pos c7, if_neg c10]
      · skip
        rw [if_neg c7] at hk
        have t17 : GM z mX11_needWithin (d + 6) [.ref 0, .int x3, .int (nI 0), .int x1] M (fun rs => rs = .inr ("java/lang/IllegalArgumentException", mrow M 0 (upd (M.1 0) 16 ((M.1 0 16) + nI 1)))) := e_needWithin_b z d _ x3 (nI 0) x1 c7
        refine G.callV (as := [.int x3, .int (nI 0), .int x1]) (rest := []) (a := 0) oX11_needWithin lk_EvenFinders_182 (by decide +kernel) rfl rfl ⟨rfl, rfl⟩ (Nat.le_of_ble_eq_true rfl) rfl ⟨Nat.le_of_ble_eq_true rfl, Nat.le_of_ble_eq_true rfl⟩ t17 (fun v9 N9 h9 => by cases h9) (fun E9 N9 h9 => ?_)
        cases h9
        rw [hQ]
        simp only [e_pins, if_pos c1, if_pos c4, if_neg c7]
    · skip
      rw [if_neg c4] at hk
      have t18 : GM z mX11_needWithin (d + 6) [.ref 0, .int x2, .int (nI 0), .int x1] M (fun rs => rs = .inr ("java/lang/IllegalArgumentException", mrow M 0 (upd (M.1 0) 16 ((M.1 0 16) + nI 1)))) := e_needWithin_b z d _ x2 (nI 0) x1 c4
      refine G.callV (as := [.int x2, .int (nI 0), .int x1]) (rest := []) (a := 0) oX11_needWithin lk_EvenFinders_182 (by decide +kernel) rfl rfl ⟨rfl, rfl⟩ (Nat.le_of_ble_eq_true rfl) rfl ⟨Nat.le_of_ble_eq_true rfl, Nat.le_of_ble_eq_true rfl⟩ t18 (fun v9 N9 h9 => by cases h9) (fun E9 N9 h9 => ?_)
      cases h9
      rw [hQ]
      simp only [e_pins, if_pos c1, if_neg c4]
  · skip
    rw [if_neg c1] at hk
    have t19 : GM z mX11_needWithin (d + 6) [.ref 0, .int x1, .int (nI 0), .int (nI 20)] M (fun rs => rs = .inr ("java/lang/IllegalArgumentException", mrow M 0 (upd (M.1 0) 16 ((M.1 0 16) + nI 1)))) := e_needWithin_b z d _ x1 (nI 0) (nI 20) c1
    refine G.callV (as := [.int x1, .int (nI 0), .int (nI 20)]) (rest := []) (a := 0) oX11_needWithin lk_EvenFinders_182 (by decide +kernel) rfl rfl ⟨rfl, rfl⟩ (Nat.le_of_ble_eq_true rfl) rfl ⟨Nat.le_of_ble_eq_true rfl, Nat.le_of_ble_eq_true rfl⟩ t19 (fun v9 N9 h9 => by cases h9) (fun E9 N9 h9 => ?_)
    cases h9
    rw [hQ]
    simp only [e_pins, if_neg c1]
set_option maxHeartbeats 4000000 in
set_option maxRecDepth 3000 in
theorem c_e_takes_0 (z : Zp) (d : Nat) (M : Mem) (x1 : Int32) (x2 : Int32) (x3 : Int32) (hk : e_takes_ok M x1 x2 x3) : GM z mX11_takes (d + 7) [.ref 0, .int x1, .int x2, .int x3] M (fun rs => rs = e_takes M x1 x2 x3) := by
  simp only [e_takes_ok] at hk
  refine GM.of oX11_takes.1 (Nat.le_of_ble_eq_true rfl) ?_
  show G z mX11_takes (d + 7) 0 0 0 [some (.ref 0), some (.int x1), some (.int x2), some (.int x3), none] [] M _
  obtain ⟨Q, hQ⟩ : ∃ Q : Rs → Prop, Q = (fun rs => rs = e_takes M x1 x2 x3) := ⟨_, rfl⟩
  rw [← hQ]
  refine G.sl [(.aload_n 0, 1, 0, 0, 0, 0), (.iload_n 1, 1, 1, 0, 0, 0), (.iconst 0, 1, 0, 0, 0, nI 0), (.bipush 99, 2, 0, 0, 0, nI 99)] [] (pc2 := 5) (ls2 := [some (.ref 0), some (.int x1), some (.int x2), some (.int x3), none]) (st2 := [.int (nI 99), .int (nI 0), .int x1, .ref 0]) (M2 := M) (Ps := []) (by decide +kernel) rfl rfl trivial ?_
  by_cases c1 : ¬ x1 < (nI 0) ∧ x1 ≤ (nI 99)
  · skip
    rw [if_pos c1] at hk
    have t2 : GM z mX11_needWithin (d + 6) [.ref 0, .int x1, .int (nI 0), .int (nI 99)] M (fun rs => rs = .inl (none, M)) := e_needWithin_g z d _ x1 (nI 0) (nI 99) c1
    refine G.callV (as := [.int x1, .int (nI 0), .int (nI 99)]) (rest := []) (a := 0) oX11_needWithin lk_EvenFinders_182 (by decide +kernel) rfl rfl ⟨rfl, rfl⟩ (Nat.le_of_ble_eq_true rfl) rfl ⟨Nat.le_of_ble_eq_true rfl, Nat.le_of_ble_eq_true rfl⟩ t2 (fun v9 N9 h3 => ?_) (fun E9 N9 h3 => by cases h3)
    cases h3
    show G z mX11_takes (d + 7) 1 6 8 [some (.ref 0), some (.int x1), some (.int x2), some (.int x3), none] [] M Q
    refine G.sl [(.aload_n 0, 1, 0, 0, 0, 0), (.iload_n 2, 1, 2, 0, 0, 0), (.iconst 0, 1, 0, 0, 0, nI 0), (.bipush 99, 2, 0, 0, 0, nI 99)] [] (pc2 := 13) (ls2 := [some (.ref 0), some (.int x1), some (.int x2), some (.int x3), none]) (st2 := [.int (nI 99), .int (nI 0), .int x2, .ref 0]) (M2 := M) (Ps := []) (by decide +kernel) rfl rfl trivial ?_
    by_cases c4 : ¬ x2 < (nI 0) ∧ x2 ≤ (nI 99)
    · skip
      rw [if_pos c4] at hk
      have t5 : GM z mX11_needWithin (d + 6) [.ref 0, .int x2, .int (nI 0), .int (nI 99)] M (fun rs => rs = .inl (none, M)) := e_needWithin_g z d _ x2 (nI 0) (nI 99) c4
      refine G.callV (as := [.int x2, .int (nI 0), .int (nI 99)]) (rest := []) (a := 0) oX11_needWithin lk_EvenFinders_182 (by decide +kernel) rfl rfl ⟨rfl, rfl⟩ (Nat.le_of_ble_eq_true rfl) rfl ⟨Nat.le_of_ble_eq_true rfl, Nat.le_of_ble_eq_true rfl⟩ t5 (fun v9 N9 h6 => ?_) (fun E9 N9 h6 => by cases h6)
      cases h6
      show G z mX11_takes (d + 7) 2 12 16 [some (.ref 0), some (.int x1), some (.int x2), some (.int x3), none] [] M Q
      refine G.sl [(.aload_n 0, 1, 0, 0, 0, 0), (.iload_n 3, 1, 3, 0, 0, 0), (.iconst 0, 1, 0, 0, 0, nI 0), (.iconst 2, 1, 0, 0, 0, nI 2)] [] (pc2 := 20) (ls2 := [some (.ref 0), some (.int x1), some (.int x2), some (.int x3), none]) (st2 := [.int (nI 2), .int (nI 0), .int x3, .ref 0]) (M2 := M) (Ps := []) (by decide +kernel) rfl rfl trivial ?_
      by_cases c7 : ¬ x3 < (nI 0) ∧ x3 ≤ (nI 2)
      · skip
        rw [if_pos c7] at hk
        have t8 : GM z mX11_needWithin (d + 6) [.ref 0, .int x3, .int (nI 0), .int (nI 2)] M (fun rs => rs = .inl (none, M)) := e_needWithin_g z d _ x3 (nI 0) (nI 2) c7
        refine G.callV (as := [.int x3, .int (nI 0), .int (nI 2)]) (rest := []) (a := 0) oX11_needWithin lk_EvenFinders_182 (by decide +kernel) rfl rfl ⟨rfl, rfl⟩ (Nat.le_of_ble_eq_true rfl) rfl ⟨Nat.le_of_ble_eq_true rfl, Nat.le_of_ble_eq_true rfl⟩ t8 (fun v9 N9 h9 => ?_) (fun E9 N9 h9 => by cases h9)
        cases h9
        show G z mX11_takes (d + 7) 3 18 23 [some (.ref 0), some (.int x1), some (.int x2), some (.int x3), none] [] M Q
        refine G.sl [(.iload_n 3, 1, 3, 0, 0, 0)] [] (pc2 := 24) (ls2 := [some (.ref 0), some (.int x1), some (.int x2), some (.int x3), none]) (st2 := [.int x3]) (M2 := M) (Ps := []) (by decide +kernel) rfl rfl trivial ?_
        refine G.if_ne (off := (9)) (tgt := 33) (by decide +kernel) rfl (fun c10 => ?_) (fun c10 => ?_)
        · skip
          rw [if_neg c10] at hk
          refine G.sl [(.iload_n 1, 1, 1, 0, 0, 0), (.iload_n 2, 1, 2, 0, 0, 0)] [] (pc2 := 35) (ls2 := [some (.ref 0), some (.int x1), some (.int x2), some (.int x3), none]) (st2 := [.int x2, .int x1]) (M2 := M) (Ps := []) (by decide +kernel) rfl rfl trivial ?_
          obtain ⟨k11, hk⟩ := hk
          have t12 : GM z mX4_firstRest (d + 6) [.int x1, .int x2] M (fun rs => rs = .inl (some (.int (o_firstRest x1 x2)), M)) := by
            have q9 := c_o_firstRest z (d + 4) M x1 x2 k11
            try simp only [mput, mrow_same, mrow_hit, mrow_miss, mrow_sw, idr_eq, ne_eq, Nat.reduceEqDiff, not_false_eq_true, Nat.reduceLT, reduceCtorEq] at q9
            exact q9
          refine G.callS (as := [.int x1, .int x2]) (rest := []) oX4_firstRest lk_EvenFinders_319 (by decide +kernel) rfl (Nat.le_of_ble_eq_true rfl) rfl ⟨Nat.le_of_ble_eq_true rfl, Nat.le_of_ble_eq_true rfl⟩ t12 (fun v9 N9 h13 => ?_) (fun E9 N9 h13 => by cases h13)
          cases h13
          show G z mX11_takes (d + 7) 3 18 38 [some (.ref 0), some (.int x1), some (.int x2), some (.int x3), none] [.int (o_firstRest x1 x2)] M Q
          refine G.sl [(.istore 4, 2, 4, 0, 0, 0), (.iload_n 3, 1, 3, 0, 0, 0), (.iconst 1, 1, 0, 0, 0, nI 1)] [] (pc2 := 42) (ls2 := [some (.ref 0), some (.int x1), some (.int x2), some (.int x3), some (.int (o_firstRest x1 x2))]) (st2 := [.int (nI 1), .int x3]) (M2 := M) (Ps := []) (by decide +kernel) rfl rfl trivial ?_
          refine G.ic_ne (off := (6)) (tgt := 48) (by decide +kernel) rfl (fun c14 => ?_) (fun c14 => ?_)
          · skip
            refine G.sl [(.iload 4, 2, 4, 0, 0, 0), (.iconst (-1), 1, 0, 0, 0, (-1))] [] (pc2 := 51) (ls2 := [some (.ref 0), some (.int x1), some (.int x2), some (.int x3), some (.int (o_firstRest x1 x2))]) (st2 := [.int ((-1)), .int (o_firstRest x1 x2)]) (M2 := M) (Ps := []) (by decide +kernel) rfl rfl trivial ?_
            refine G.ic_ne (off := (7)) (tgt := 58) (by decide +kernel) rfl (fun c15 => ?_) (fun c15 => ?_)
            · skip
              refine G.sl [(.iload 4, 2, 4, 0, 0, 0), (.iload_n 1, 1, 1, 0, 0, 0), (.iload_n 2, 1, 2, 0, 0, 0)] [] (pc2 := 62) (ls2 := [some (.ref 0), some (.int x1), some (.int x2), some (.int x3), some (.int (o_firstRest x1 x2))]) (st2 := [.int x2, .int x1, .int (o_firstRest x1 x2)]) (M2 := M) (Ps := []) (by decide +kernel) rfl rfl trivial ?_
              have t17 : GM z mX4_bothHave (d + 6) [.int (o_firstRest x1 x2), .int x1, .int x2] M (fun rs => rs = .inl (some (.int (o_bothHave (o_firstRest x1 x2) x1 x2)), M)) := by
                have q9 := c_o_bothHave z (d + 5) M (o_firstRest x1 x2) x1 x2
                try simp only [mput, mrow_same, mrow_hit, mrow_miss, mrow_sw, idr_eq, ne_eq, Nat.reduceEqDiff, not_false_eq_true, Nat.reduceLT, reduceCtorEq] at q9
                exact q9
              refine G.callS (as := [.int (o_firstRest x1 x2), .int x1, .int x2]) (rest := []) oX4_bothHave lk_EvenFinders_322 (by decide +kernel) rfl (Nat.le_of_ble_eq_true rfl) rfl ⟨Nat.le_of_ble_eq_true rfl, Nat.le_of_ble_eq_true rfl⟩ t17 (fun v9 N9 h18 => ?_) (fun E9 N9 h18 => by cases h18)
              cases h18
              show G z mX11_takes (d + 7) 3 18 65 [some (.ref 0), some (.int x1), some (.int x2), some (.int x3), some (.int (o_firstRest x1 x2))] [.int (o_bothHave (o_firstRest x1 x2) x1 x2)] M Q
              exact G.reti (by decide +kernel) rfl rfl (Nat.le_of_ble_eq_true rfl) (Nat.le_of_ble_eq_true rfl) ((by rw [hQ]; simp only [e_takes, if_pos c1, if_pos c4, if_pos c7, if_neg c10, if_neg c14, if_neg c15, mrow_self]))
            · skip
              refine G.sl [(.iconst 0, 1, 0, 0, 0, nI 0), (.goto 10, 3, 65, 0, 0, 0)] [] (pc2 := 65) (ls2 := [some (.ref 0), some (.int x1), some (.int x2), some (.int x3), some (.int (o_firstRest x1 x2))]) (st2 := [.int (nI 0)]) (M2 := M) (Ps := []) (by decide +kernel) rfl rfl trivial ?_
              exact G.reti (by decide +kernel) rfl rfl (Nat.le_of_ble_eq_true rfl) (Nat.le_of_ble_eq_true rfl) ((by rw [hQ]; simp only [e_takes, if_pos c1, if_pos c4, if_pos c7, if_neg c10, if_neg c14, if_pos c15, mrow_self]))
          · skip
            refine G.sl [(.iload 4, 2, 4, 0, 0, 0)] [] (pc2 := 47) (ls2 := [some (.ref 0), some (.int x1), some (.int x2), some (.int x3), some (.int (o_firstRest x1 x2))]) (st2 := [.int (o_firstRest x1 x2)]) (M2 := M) (Ps := []) (by decide +kernel) rfl rfl trivial ?_
            exact G.reti (by decide +kernel) rfl rfl (Nat.le_of_ble_eq_true rfl) (Nat.le_of_ble_eq_true rfl) ((by rw [hQ]; simp only [e_takes, if_pos c1, if_pos c4, if_pos c7, if_neg c10, if_pos c14, mrow_self]))
        · skip
          rw [if_pos c10] at hk
          refine G.sl [(.iload_n 1, 1, 1, 0, 0, 0), (.iload_n 2, 1, 2, 0, 0, 0)] [] (pc2 := 29) (ls2 := [some (.ref 0), some (.int x1), some (.int x2), some (.int x3), none]) (st2 := [.int x2, .int x1]) (M2 := M) (Ps := []) (by decide +kernel) rfl rfl trivial ?_
          obtain ⟨k19, hk⟩ := hk
          have t20 : GM z mX4_rests (d + 6) [.int x1, .int x2] M (fun rs => rs = .inl (some (.int (o_rests x1 x2)), M)) := by
            have q9 := c_o_rests z (d + 4) M x1 x2 k19
            try simp only [mput, mrow_same, mrow_hit, mrow_miss, mrow_sw, idr_eq, ne_eq, Nat.reduceEqDiff, not_false_eq_true, Nat.reduceLT, reduceCtorEq] at q9
            exact q9
          refine G.callS (as := [.int x1, .int x2]) (rest := []) oX4_rests lk_EvenFinders_316 (by decide +kernel) rfl (Nat.le_of_ble_eq_true rfl) rfl ⟨Nat.le_of_ble_eq_true rfl, Nat.le_of_ble_eq_true rfl⟩ t20 (fun v9 N9 h21 => ?_) (fun E9 N9 h21 => by cases h21)
          cases h21
          show G z mX11_takes (d + 7) 3 18 32 [some (.ref 0), some (.int x1), some (.int x2), some (.int x3), none] [.int (o_rests x1 x2)] M Q
          exact G.reti (by decide +kernel) rfl rfl (Nat.le_of_ble_eq_true rfl) (Nat.le_of_ble_eq_true rfl) ((by rw [hQ]; simp only [e_takes, if_pos c1, if_pos c4, if_pos c7, if_pos c10, mrow_self]))
      · skip
        rw [if_neg c7] at hk
        have t22 : GM z mX11_needWithin (d + 6) [.ref 0, .int x3, .int (nI 0), .int (nI 2)] M (fun rs => rs = .inr ("java/lang/IllegalArgumentException", mrow M 0 (upd (M.1 0) 16 ((M.1 0 16) + nI 1)))) := e_needWithin_b z d _ x3 (nI 0) (nI 2) c7
        refine G.callV (as := [.int x3, .int (nI 0), .int (nI 2)]) (rest := []) (a := 0) oX11_needWithin lk_EvenFinders_182 (by decide +kernel) rfl rfl ⟨rfl, rfl⟩ (Nat.le_of_ble_eq_true rfl) rfl ⟨Nat.le_of_ble_eq_true rfl, Nat.le_of_ble_eq_true rfl⟩ t22 (fun v9 N9 h9 => by cases h9) (fun E9 N9 h9 => ?_)
        cases h9
        rw [hQ]
        simp only [e_takes, if_pos c1, if_pos c4, if_neg c7]
    · skip
      rw [if_neg c4] at hk
      have t23 : GM z mX11_needWithin (d + 6) [.ref 0, .int x2, .int (nI 0), .int (nI 99)] M (fun rs => rs = .inr ("java/lang/IllegalArgumentException", mrow M 0 (upd (M.1 0) 16 ((M.1 0 16) + nI 1)))) := e_needWithin_b z d _ x2 (nI 0) (nI 99) c4
      refine G.callV (as := [.int x2, .int (nI 0), .int (nI 99)]) (rest := []) (a := 0) oX11_needWithin lk_EvenFinders_182 (by decide +kernel) rfl rfl ⟨rfl, rfl⟩ (Nat.le_of_ble_eq_true rfl) rfl ⟨Nat.le_of_ble_eq_true rfl, Nat.le_of_ble_eq_true rfl⟩ t23 (fun v9 N9 h9 => by cases h9) (fun E9 N9 h9 => ?_)
      cases h9
      rw [hQ]
      simp only [e_takes, if_pos c1, if_neg c4]
  · skip
    rw [if_neg c1] at hk
    have t24 : GM z mX11_needWithin (d + 6) [.ref 0, .int x1, .int (nI 0), .int (nI 99)] M (fun rs => rs = .inr ("java/lang/IllegalArgumentException", mrow M 0 (upd (M.1 0) 16 ((M.1 0 16) + nI 1)))) := e_needWithin_b z d _ x1 (nI 0) (nI 99) c1
    refine G.callV (as := [.int x1, .int (nI 0), .int (nI 99)]) (rest := []) (a := 0) oX11_needWithin lk_EvenFinders_182 (by decide +kernel) rfl rfl ⟨rfl, rfl⟩ (Nat.le_of_ble_eq_true rfl) rfl ⟨Nat.le_of_ble_eq_true rfl, Nat.le_of_ble_eq_true rfl⟩ t24 (fun v9 N9 h9 => by cases h9) (fun E9 N9 h9 => ?_)
    cases h9
    rw [hQ]
    simp only [e_takes, if_neg c1]
set_option maxHeartbeats 4000000 in
set_option maxRecDepth 3000 in
theorem c_e_sixpence_0 (z : Zp) (d : Nat) (M : Mem) (x1 : Int32) (x2 : Int32) (x3 : Int32) (nt : Nat) (hnt : nt ≤ 10) (ht : M.1 3 2 = nI nt) (nf : Nat) (hnf : nf ≤ 6) (hf : M.1 3 3 = nI nf) (hk : e_sixpence_ok M nt nf x1 x2 x3) : GM z mX11_sixpence (d + 8) [.ref 0, .int x1, .int x2, .int x3] M (fun rs => rs = e_sixpence M nt nf x1 x2 x3) := by
  simp only [e_sixpence_ok] at hk
  refine GM.of oX11_sixpence.1 (Nat.le_of_ble_eq_true rfl) ?_
  show G z mX11_sixpence (d + 8) 0 0 0 [some (.ref 0), some (.int x1), some (.int x2), some (.int x3)] [] M _
  obtain ⟨Q, hQ⟩ : ∃ Q : Rs → Prop, Q = (fun rs => rs = e_sixpence M nt nf x1 x2 x3) := ⟨_, rfl⟩
  rw [← hQ]
  refine G.sl [(.aload_n 0, 1, 0, 0, 0, 0), (.iload_n 1, 1, 1, 0, 0, 0)] [] (pc2 := 2) (ls2 := [some (.ref 0), some (.int x1), some (.int x2), some (.int x3)]) (st2 := [.int x1, .ref 0]) (M2 := M) (Ps := []) (by decide +kernel) rfl rfl trivial ?_
  by_cases c1 : ¬ x1 < 0 ∧ x1 < nI nf
  · skip
    rw [if_pos c1] at hk
    have t2 : GM z mX11_needFinder (d + 7) [.ref 0, .int x1] M (fun rs => rs = .inl (none, M)) := e_needFinder_g z d _ x1 nf hf c1
    refine G.callV (as := [.int x1]) (rest := []) (a := 0) oX11_needFinder lk_EvenFinders_249 (by decide +kernel) rfl rfl ⟨rfl, rfl⟩ (Nat.le_of_ble_eq_true rfl) rfl ⟨Nat.le_of_ble_eq_true rfl, Nat.le_of_ble_eq_true rfl⟩ t2 (fun v9 N9 h3 => ?_) (fun E9 N9 h3 => by cases h3)
    cases h3
    show G z mX11_sixpence (d + 8) 1 6 5 [some (.ref 0), some (.int x1), some (.int x2), some (.int x3)] [] M Q
    refine G.sl [(.aload_n 0, 1, 0, 0, 0, 0), (.iload_n 2, 1, 2, 0, 0, 0), (.iconst 0, 1, 0, 0, 0, nI 0), (.iconst 1, 1, 0, 0, 0, nI 1), (.aload_n 0, 1, 0, 0, 0, 0), (.getfield 19, 3, 10, 1, 107, 0), (.getfield 189, 3, 6, 3, 33, 0), (.ishl, 1, 0, 0, 0, 0), (.iconst 1, 1, 0, 0, 0, nI 1), (.isub, 1, 0, 0, 0, 0)] [] (pc2 := 19) (ls2 := [some (.ref 0), some (.int x1), some (.int x2), some (.int x3)]) (st2 := [.int (((nI 1) <<< ((M.1 3 3) &&& 31)) - (nI 1)), .int (nI 0), .int x2, .ref 0]) (M2 := M) (Ps := []) (by decide +kernel) rfl rfl trivial ?_
    rw [hf]
    by_cases c4 : ¬ x2 < (nI 0) ∧ x2 ≤ (((nI 1) <<< ((nI nf) &&& 31)) - (nI 1))
    · skip
      rw [if_pos c4] at hk
      have t5 : GM z mX11_needWithin (d + 7) [.ref 0, .int x2, .int (nI 0), .int (((nI 1) <<< ((nI nf) &&& 31)) - (nI 1))] M (fun rs => rs = .inl (none, M)) := e_needWithin_g z (d + 1) _ x2 (nI 0) (((nI 1) <<< ((nI nf) &&& 31)) - (nI 1)) c4
      refine G.callV (as := [.int x2, .int (nI 0), .int (((nI 1) <<< ((nI nf) &&& 31)) - (nI 1))]) (rest := []) (a := 0) oX11_needWithin lk_EvenFinders_182 (by decide +kernel) rfl rfl ⟨rfl, rfl⟩ (Nat.le_of_ble_eq_true rfl) rfl ⟨Nat.le_of_ble_eq_true rfl, Nat.le_of_ble_eq_true rfl⟩ t5 (fun v9 N9 h6 => ?_) (fun E9 N9 h6 => by cases h6)
      cases h6
      show G z mX11_sixpence (d + 8) 2 12 22 [some (.ref 0), some (.int x1), some (.int x2), some (.int x3)] [] M Q
      refine G.sl [(.aload_n 0, 1, 0, 0, 0, 0), (.iload_n 3, 1, 3, 0, 0, 0), (.iconst 0, 1, 0, 0, 0, nI 0), (.sipush 999, 3, 0, 0, 0, nI 999)] [] (pc2 := 28) (ls2 := [some (.ref 0), some (.int x1), some (.int x2), some (.int x3)]) (st2 := [.int (nI 999), .int (nI 0), .int x3, .ref 0]) (M2 := M) (Ps := []) (by decide +kernel) rfl rfl trivial ?_
      by_cases c7 : ¬ x3 < (nI 0) ∧ x3 ≤ (nI 999)
      · skip
        rw [if_pos c7] at hk
        have t8 : GM z mX11_needWithin (d + 7) [.ref 0, .int x3, .int (nI 0), .int (nI 999)] M (fun rs => rs = .inl (none, M)) := e_needWithin_g z (d + 1) _ x3 (nI 0) (nI 999) c7
        refine G.callV (as := [.int x3, .int (nI 0), .int (nI 999)]) (rest := []) (a := 0) oX11_needWithin lk_EvenFinders_182 (by decide +kernel) rfl rfl ⟨rfl, rfl⟩ (Nat.le_of_ble_eq_true rfl) rfl ⟨Nat.le_of_ble_eq_true rfl, Nat.le_of_ble_eq_true rfl⟩ t8 (fun v9 N9 h9 => ?_) (fun E9 N9 h9 => by cases h9)
        cases h9
        show G z mX11_sixpence (d + 8) 3 18 31 [some (.ref 0), some (.int x1), some (.int x2), some (.int x3)] [] M Q
        refine G.sl [(.aload_n 0, 1, 0, 0, 0, 0), (.getfield 60, 3, 10, 8, 114, 0), (.iload_n 1, 1, 1, 0, 0, 0), (.iload_n 2, 1, 2, 0, 0, 0), (.iload_n 3, 1, 3, 0, 0, 0)] [] (pc2 := 38) (ls2 := [some (.ref 0), some (.int x1), some (.int x2), some (.int x3)]) (st2 := [.int x3, .int x2, .int x1, .ref 37]) (M2 := M) (Ps := []) (by decide +kernel) rfl rfl trivial ?_
        obtain ⟨k10, k11, hk⟩ := hk
        obtain ⟨k12, hk⟩ := hk
        refine G.eq (st' := [.int x3, .int x2, .int (nI (ix x1)), .ref 37]) ?_ rfl (by rw [← (show x1 = nI (ix x1) from (ixE k10))]) rfl
        rcases g13 : d_levelled (M.1 7) (M.1 38) (M.1 39) nt nf (ix x1) x2 x3 with ⟨v14, r15⟩
        have t16 : GM z mX1_levelled (d + 7) [.ref 37, .int (nI (ix x1)), .int x2, .int x3] M (fun rs => rs = .inl (some (.int v14), mrow M 39 r15)) := by
          have q9 := c_d_levelled_37 z (d + 5) M (ix x1) x2 x3 nt hnt ht nf hnf hf k11 k12
          try simp only [mput, mrow_same, mrow_hit, mrow_miss, mrow_sw, idr_eq, ne_eq, Nat.reduceEqDiff, not_false_eq_true, Nat.reduceLT, reduceCtorEq, g13] at q9
          exact q9
        refine G.callV (as := [.int (nI (ix x1)), .int x2, .int x3]) (rest := []) (a := 37) oX1_levelled lk_EvenFinders_326 (by decide +kernel) rfl rfl ⟨rfl, rfl⟩ (Nat.le_of_ble_eq_true rfl) rfl ⟨Nat.le_of_ble_eq_true rfl, Nat.le_of_ble_eq_true rfl⟩ t16 (fun v9 N9 h17 => ?_) (fun E9 N9 h17 => by cases h17)
        cases h17
        show G z mX11_sixpence (d + 8) 3 18 41 [some (.ref 0), some (.int x1), some (.int x2), some (.int x3)] [.int v14] (mrow M 39 r15) Q
        exact G.reti (by decide +kernel) rfl rfl (Nat.le_of_ble_eq_true rfl) (Nat.le_of_ble_eq_true rfl) ((by rw [hQ]; simp only [e_sixpence, if_pos c1, if_pos c4, if_pos c7, g13, mrow_self]))
      · skip
        rw [if_neg c7] at hk
        have t18 : GM z mX11_needWithin (d + 7) [.ref 0, .int x3, .int (nI 0), .int (nI 999)] M (fun rs => rs = .inr ("java/lang/IllegalArgumentException", mrow M 0 (upd (M.1 0) 16 ((M.1 0 16) + nI 1)))) := e_needWithin_b z (d + 1) _ x3 (nI 0) (nI 999) c7
        refine G.callV (as := [.int x3, .int (nI 0), .int (nI 999)]) (rest := []) (a := 0) oX11_needWithin lk_EvenFinders_182 (by decide +kernel) rfl rfl ⟨rfl, rfl⟩ (Nat.le_of_ble_eq_true rfl) rfl ⟨Nat.le_of_ble_eq_true rfl, Nat.le_of_ble_eq_true rfl⟩ t18 (fun v9 N9 h9 => by cases h9) (fun E9 N9 h9 => ?_)
        cases h9
        rw [hQ]
        simp only [e_sixpence, if_pos c1, if_pos c4, if_neg c7]
    · skip
      rw [if_neg c4] at hk
      have t19 : GM z mX11_needWithin (d + 7) [.ref 0, .int x2, .int (nI 0), .int (((nI 1) <<< ((nI nf) &&& 31)) - (nI 1))] M (fun rs => rs = .inr ("java/lang/IllegalArgumentException", mrow M 0 (upd (M.1 0) 16 ((M.1 0 16) + nI 1)))) := e_needWithin_b z (d + 1) _ x2 (nI 0) (((nI 1) <<< ((nI nf) &&& 31)) - (nI 1)) c4
      refine G.callV (as := [.int x2, .int (nI 0), .int (((nI 1) <<< ((nI nf) &&& 31)) - (nI 1))]) (rest := []) (a := 0) oX11_needWithin lk_EvenFinders_182 (by decide +kernel) rfl rfl ⟨rfl, rfl⟩ (Nat.le_of_ble_eq_true rfl) rfl ⟨Nat.le_of_ble_eq_true rfl, Nat.le_of_ble_eq_true rfl⟩ t19 (fun v9 N9 h9 => by cases h9) (fun E9 N9 h9 => ?_)
      cases h9
      rw [hQ]
      simp only [e_sixpence, if_pos c1, if_neg c4]
  · skip
    rw [if_neg c1] at hk
    have t20 : GM z mX11_needFinder (d + 7) [.ref 0, .int x1] M (fun rs => rs = .inr ("java/util/NoSuchElementException", mrow M 0 (upd (M.1 0) 15 ((M.1 0 15) + nI 1)))) := e_needFinder_b z d _ x1 nf hf c1
    refine G.callV (as := [.int x1]) (rest := []) (a := 0) oX11_needFinder lk_EvenFinders_249 (by decide +kernel) rfl rfl ⟨rfl, rfl⟩ (Nat.le_of_ble_eq_true rfl) rfl ⟨Nat.le_of_ble_eq_true rfl, Nat.le_of_ble_eq_true rfl⟩ t20 (fun v9 N9 h9 => by cases h9) (fun E9 N9 h9 => ?_)
    cases h9
    rw [hQ]
    simp only [e_sixpence, if_neg c1]
set_option maxHeartbeats 4000000 in
set_option maxRecDepth 3000 in
theorem lp_d_greatestLying_37_4 (z : Zp) (d : Nat) (M : Mem) (Q : Rs → Prop) (nt : Nat) (hnt : nt ≤ 10) (ht : M.1 3 2 = nI nt) (hk : ∀ i2, i2 < nt → d_greatestLying_4_ok (M.1 7) (M.1 38) i2) (hX : G z mX1_greatestLying (d) 0 0 62 [none, some (.int (d_greatestLying_4 (M.1 7) (M.1 38) nt)), none] [] M Q) : G z mX1_greatestLying (d) 0 0 4 [some (.ref 37), some (.int ((-1))), some (.int (nI 0))] [] M Q := by
  refine down (n := nt) (P := fun i2 => G z mX1_greatestLying (d) 0 0 4 [some (.ref 37), some (.int (d_greatestLying_4 (M.1 7) (M.1 38) i2)), some (.int (nI i2))] [] M Q) ?_ ?_ 0 (Nat.zero_le _)
  · skip
    refine G.sl [(.iload_n 2, 1, 2, 0, 0, 0), (.aload_n 0, 1, 0, 0, 0, 0), (.getfield 18, 3, 1, 2, 79, 0), (.getfield 86, 3, 6, 2, 28, 0)] [] (pc2 := 12) (ls2 := [some (.ref 37), some (.int (d_greatestLying_4 (M.1 7) (M.1 38) nt)), some (.int (nI nt))]) (st2 := [.int (M.1 3 2), .int (nI nt)]) (M2 := M) (Ps := []) (by decide +kernel) rfl rfl trivial ?_
    rw [ht]
    refine G.ic_ge (off := (50)) (tgt := 62) (by decide +kernel) rfl (fun _ => ?_) (fun h9 => absurd (nI_le (by omega) (by omega)) h9)
    refine G.loc (ls2 := [none, some (.int (d_greatestLying_4 (M.1 7) (M.1 38) nt)), none]) (by simp [subL]) ?_
    exact hX
  · skip
    intro i2 hi ih
    have hk := hk i2 hi
    simp only [d_greatestLying_4_ok] at hk
    show G z mX1_greatestLying (d) 0 0 4 [some (.ref 37), some (.int (d_greatestLying_4 (M.1 7) (M.1 38) i2)), some (.int (nI i2))] [] M Q
    refine G.sl [(.iload_n 2, 1, 2, 0, 0, 0), (.aload_n 0, 1, 0, 0, 0, 0), (.getfield 18, 3, 1, 2, 79, 0), (.getfield 86, 3, 6, 2, 28, 0)] [] (pc2 := 12) (ls2 := [some (.ref 37), some (.int (d_greatestLying_4 (M.1 7) (M.1 38) i2)), some (.int (nI i2))]) (st2 := [.int (M.1 3 2), .int (nI i2)]) (M2 := M) (Ps := []) (by decide +kernel) rfl rfl trivial ?_
    rw [ht]
    refine G.ic_ge (off := (50)) (tgt := 62) (by decide +kernel) rfl (fun h9 => absurd h9 (nI_ge (by omega) (by omega))) (fun _ => ?_)
    refine G.sl [(.aload_n 0, 1, 0, 0, 0, 0), (.getfield 9, 3, 1, 0, 73, 0), (.bipush 41, 2, 0, 0, 0, nI 41), (.iload_n 2, 1, 2, 0, 0, 0), (.iadd, 1, 0, 0, 0, 0), (.iaload, 1, 0, 0, 0, 0), (.iconst (-1), 1, 0, 0, 0, (-1))] [41 + i2] (pc2 := 25) (ls2 := [some (.ref 37), some (.int (d_greatestLying_4 (M.1 7) (M.1 38) i2)), some (.int (nI i2))]) (st2 := [.int ((-1)), .int (M.1 38 (41 + i2))]) (M2 := M) (Ps := [((nI 41) + (nI i2)) = nI (41 + i2) ∧ (41 + i2) < 51]) (by decide +kernel) rfl rfl ⟨⟨(nI_add _ _), (by omega)⟩, trivial⟩ ?_
    refine G.ic_ne (off := (31)) (tgt := 56) (by decide +kernel) rfl (fun c1 => ?_) (fun c1 => ?_)
    · skip
      rw [if_neg c1] at hk
      refine G.sl [(.iinc 2 1, 3, 2, 0, 0, nI 1), (.goto (-55), 3, 4, 0, 0, 0)] [] (pc2 := 4) (ls2 := [some (.ref 37), some (.int (d_greatestLying_4 (M.1 7) (M.1 38) i2)), some (.int ((nI i2) + nI 1))]) (st2 := []) (M2 := M) (Ps := []) (by decide +kernel) rfl rfl trivial ?_
      rw [nI_add i2 1]
      simp only [d_greatestLying_4, if_neg c1] at ih
      exact ih
    · skip
      rw [if_pos c1] at hk
      refine G.sl [(.iload_n 1, 1, 1, 0, 0, 0), (.iconst (-1), 1, 0, 0, 0, (-1))] [] (pc2 := 30) (ls2 := [some (.ref 37), some (.int (d_greatestLying_4 (M.1 7) (M.1 38) i2)), some (.int (nI i2))]) (st2 := [.int ((-1)), .int (d_greatestLying_4 (M.1 7) (M.1 38) i2)]) (M2 := M) (Ps := []) (by decide +kernel) rfl rfl trivial ?_
      refine G.ic_eq (off := (24)) (tgt := 54) (by decide +kernel) rfl (fun c2 => ?_) (fun c2 => ?_)
      · skip
        rw [if_pos c2] at hk
        refine G.sl [(.iload_n 2, 1, 2, 0, 0, 0), (.istore_n 1, 1, 1, 0, 0, 0), (.iinc 2 1, 3, 2, 0, 0, nI 1), (.goto (-55), 3, 4, 0, 0, 0)] [] (pc2 := 4) (ls2 := [some (.ref 37), some (.int (nI i2)), some (.int ((nI i2) + nI 1))]) (st2 := []) (M2 := M) (Ps := []) (by decide +kernel) rfl rfl trivial ?_
        rw [nI_add i2 1]
        simp only [d_greatestLying_4, if_pos c1, if_pos c2] at ih
        exact ih
      · skip
        rw [if_neg c2] at hk
        obtain ⟨k3, k4, hk⟩ := hk
        refine G.sl [(.aload_n 0, 1, 0, 0, 0, 0), (.getfield 18, 3, 1, 2, 79, 0), (.getfield 63, 3, 6, 7, 44, 0), (.iload_n 2, 1, 2, 0, 0, 0), (.iaload, 1, 0, 0, 0, 0), (.aload_n 0, 1, 0, 0, 0, 0), (.getfield 18, 3, 1, 2, 79, 0), (.getfield 63, 3, 6, 7, 44, 0), (.iload_n 1, 1, 1, 0, 0, 0), (.iaload, 1, 0, 0, 0, 0)] [i2, ix (d_greatestLying_4 (M.1 7) (M.1 38) i2)] (pc2 := 51) (ls2 := [some (.ref 37), some (.int (d_greatestLying_4 (M.1 7) (M.1 38) i2)), some (.int (nI i2))]) (st2 := [.int (M.1 7 (ix (d_greatestLying_4 (M.1 7) (M.1 38) i2))), .int (M.1 7 i2)]) (M2 := M) (Ps := [(nI i2) = nI i2 ∧ i2 < 10, (d_greatestLying_4 (M.1 7) (M.1 38) i2) = nI (ix (d_greatestLying_4 (M.1 7) (M.1 38) i2)) ∧ (ix (d_greatestLying_4 (M.1 7) (M.1 38) i2)) < 10]) (by decide +kernel) rfl rfl ⟨⟨rfl, (by omega)⟩, ⟨(ixE k3), k4⟩, trivial⟩ ?_
        refine G.ic_le (off := (5)) (tgt := 56) (by decide +kernel) rfl (fun c5 => ?_) (fun c5 => ?_)
        · skip
          refine G.sl [(.iinc 2 1, 3, 2, 0, 0, nI 1), (.goto (-55), 3, 4, 0, 0, 0)] [] (pc2 := 4) (ls2 := [some (.ref 37), some (.int (d_greatestLying_4 (M.1 7) (M.1 38) i2)), some (.int ((nI i2) + nI 1))]) (st2 := []) (M2 := M) (Ps := []) (by decide +kernel) rfl rfl trivial ?_
          rw [nI_add i2 1]
          simp only [d_greatestLying_4, if_pos c1, if_neg c2, if_pos c5] at ih
          exact ih
        · skip
          refine G.sl [(.iload_n 2, 1, 2, 0, 0, 0), (.istore_n 1, 1, 1, 0, 0, 0), (.iinc 2 1, 3, 2, 0, 0, nI 1), (.goto (-55), 3, 4, 0, 0, 0)] [] (pc2 := 4) (ls2 := [some (.ref 37), some (.int (nI i2)), some (.int ((nI i2) + nI 1))]) (st2 := []) (M2 := M) (Ps := []) (by decide +kernel) rfl rfl trivial ?_
          rw [nI_add i2 1]
          simp only [d_greatestLying_4, if_pos c1, if_neg c2, if_neg c5] at ih
          exact ih
