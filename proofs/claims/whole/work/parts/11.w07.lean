set_option maxHeartbeats 4000000 in
set_option maxRecDepth 3000 in
theorem lp_y_goBy_53_70d (z : Zp) (d : Nat) (M : Mem) (Q : Rs → Prop) (nn : Nat) (x2 : Int32) (x3 : Int32) (x5 : Int32) (nr : Nat) (hnr : nr ≤ 12) (hr : M.1 3 1 = nI nr) (nt : Nat) (hnt : nt ≤ 10) (ht : M.1 3 2 = nI nt) (nf : Nat) (hnf : nf ≤ 6) (hf : M.1 3 3 = nI nf) (hnn : nn = 3) : ∀ (k0 : Nat) (i6 : Nat) (q22 : (Nat → Int32)) (q24 : (Nat → Int32)) (q41 : (Nat → Int32)) (q53 : (Nat → Int32)), i6 + k0 = nn → y_goBy_70d_ok (M.1 4) (M.1 5) (M.1 6) (M.1 7) (M.1 21) (M.1 23) nr nt nf x2 x3 x5 k0 i6 q22 q24 q41 q53 → (HX (match y_goBy_70d (M.1 4) (M.1 5) (M.1 6) (M.1 7) (M.1 21) (M.1 23) nr nt nf x2 x3 x5 k0 i6 q22 q24 q41 q53 with | (q22', q24', q41', q53') => G z mX10_goBy (d + 5) 0 0 92 [some (.ref 53), none, some (.int x2), some (.int x3), some (.int (nI 1)), some (.int x5), none] [] (mrow (mrow (mrow (mrow M 22 (q22')) 24 (q24')) 41 (q41')) 53 (q53')) Q)) → G z mX10_goBy (d + 5) 0 0 70 [some (.ref 53), none, some (.int x2), some (.int x3), some (.int (nI 1)), some (.int x5), some (.int (nI i6))] [] (mrow (mrow (mrow (mrow M 22 q22) 24 q24) 41 q41) 53 q53) Q := by
  intro k0
  induction k0 with
  | zero =>
      intro i6 q22 q24 q41 q53 hn hk hX
      refine G.sl [(.iload 6, 2, 6, 0, 0, 0), (.iconst 3, 1, 0, 0, 0, nI 3)] [] (pc2 := 73) (ls2 := [some (.ref 53), none, some (.int x2), some (.int x3), some (.int (nI 1)), some (.int x5), some (.int (nI i6))]) (st2 := [.int (nI 3), .int (nI i6)]) (M2 := mrow (mrow (mrow (mrow M 22 q22) 24 q24) 41 q41) 53 q53) (Ps := []) (by decide +kernel) rfl rfl trivial ?_
      refine G.ic_ge (off := (19)) (tgt := 92) (by decide +kernel) rfl (fun _ => ?_) (fun h9 => absurd (nI_le (by omega) (by omega)) h9)
      refine G.loc (ls2 := [some (.ref 53), none, some (.int x2), some (.int x3), some (.int (nI 1)), some (.int x5), none]) (by simp [subL]) ?_
      simp only [y_goBy_70d] at hX
      exact hX trivial
  | succ k0 ih =>
      intro i6 q22 q24 q41 q53 hn hk hX
      simp only [y_goBy_70d_ok] at hk
      refine G.sl [(.iload 6, 2, 6, 0, 0, 0), (.iconst 3, 1, 0, 0, 0, nI 3)] [] (pc2 := 73) (ls2 := [some (.ref 53), none, some (.int x2), some (.int x3), some (.int (nI 1)), some (.int x5), some (.int (nI i6))]) (st2 := [.int (nI 3), .int (nI i6)]) (M2 := mrow (mrow (mrow (mrow M 22 q22) 24 q24) 41 q41) 53 q53) (Ps := []) (by decide +kernel) rfl rfl trivial ?_
      refine G.ic_ge (off := (19)) (tgt := 92) (by decide +kernel) rfl (fun h9 => absurd h9 (nI_ge (by omega) (by omega))) (fun _ => ?_)
      refine G.sl [(.iload 4, 2, 4, 0, 0, 0)] [] (pc2 := 78) (ls2 := [some (.ref 53), none, some (.int x2), some (.int x3), some (.int (nI 1)), some (.int x5), some (.int (nI i6))]) (st2 := [.int (nI 1)]) (M2 := mrow (mrow (mrow (mrow M 22 q22) 24 q24) 41 q41) 53 q53) (Ps := []) (by decide +kernel) rfl rfl trivial ?_
      refine G.if_eq (off := (14)) (tgt := 92) (by decide +kernel) rfl (fun h9 => absurd h9 (by decide)) (fun _ => ?_)
      refine G.sl [(.aload_n 0, 1, 0, 0, 0, 0), (.iload_n 2, 1, 2, 0, 0, 0)] [] (pc2 := 83) (ls2 := [some (.ref 53), none, some (.int x2), some (.int x3), some (.int (nI 1)), some (.int x5), some (.int (nI i6))]) (st2 := [.int x2, .ref 53]) (M2 := mrow (mrow (mrow (mrow M 22 q22) 24 q24) 41 q41) 53 q53) (Ps := []) (by decide +kernel) rfl rfl trivial ?_
      obtain ⟨k71, hk⟩ := hk
      rcases g72 : y_goOneTime (M.1 4) (M.1 5) (M.1 6) (M.1 7) (M.1 21) q22 (M.1 23) q24 q41 q53 nr nt nf x2 with ⟨u73, r74, r75, r76, r77⟩
      try simp only [g72] at hk
      have t78 : GM z mX10_goOneTime (d + 4) [.ref 53, .int x2] (mrow (mrow (mrow (mrow M 22 q22) 24 q24) 41 q41) 53 q53) (fun rs => rs = .inl (none, mrow (mrow (mrow (mrow M 22 r74) 24 r75) 41 r76) 53 r77)) := by
        have q9 := c_y_goOneTime_53 z d (mrow (mrow (mrow (mrow M 22 q22) 24 q24) 41 q41) 53 q53) x2 nr hnr hr nt hnt ht nf hnf hf k71
        try simp only [mput, mrow_same, mrow_hit, mrow_miss, mrow_sw, idr_eq, ne_eq, Nat.reduceEqDiff, not_false_eq_true, Nat.reduceLT, reduceCtorEq, g72] at q9
        exact q9
      refine G.callV (as := [.int x2]) (rest := []) (a := 53) oX10_goOneTime lk_EvenFinders_Years_44 (by decide +kernel) rfl rfl ⟨rfl, rfl⟩ (Nat.le_of_ble_eq_true rfl) rfl ⟨Nat.le_of_ble_eq_true rfl, Nat.le_of_ble_eq_true rfl⟩ t78 (fun v9 N9 h79 => ?_) (fun E9 N9 h79 => by cases h79)
      cases h79
      show G z mX10_goBy (d + 5) 0 0 86 [some (.ref 53), none, some (.int x2), some (.int x3), some (.int (nI 1)), some (.int x5), some (.int (nI i6))] [] (mrow (mrow (mrow (mrow M 22 r74) 24 r75) 41 r76) 53 r77) Q
      refine G.sl [(.iinc 6 1, 3, 6, 0, 0, nI 1), (.goto (-19), 3, 70, 0, 0, 0)] [] (pc2 := 70) (ls2 := [some (.ref 53), none, some (.int x2), some (.int x3), some (.int (nI 1)), some (.int x5), some (.int ((nI i6) + nI 1))]) (st2 := []) (M2 := mrow (mrow (mrow (mrow M 22 r74) 24 r75) 41 r76) 53 r77) (Ps := []) (by decide +kernel) rfl rfl trivial ?_
      rw [nI_add i6 1]
      simp only [y_goBy_70d, g72] at hX
      exact ih (i6 + 1) r74 r75 r76 r77 (by omega) hk hX
set_option maxHeartbeats 4000000 in
set_option maxRecDepth 3000 in
theorem lp_y_goBy_53_61d (z : Zp) (d : Nat) (M : Mem) (Q : Rs → Prop) (x2 : Int32) (x3 : Int32) (nr : Nat) (hnr : nr ≤ 12) (hr : M.1 3 1 = nI nr) (nt : Nat) (hnt : nt ≤ 10) (ht : M.1 3 2 = nI nt) (nf : Nat) (hnf : nf ≤ 6) (hf : M.1 3 3 = nI nf) : ∀ (k0 : Nat) (s5 : Int32) (q22 : (Nat → Int32)) (q24 : (Nat → Int32)) (q41 : (Nat → Int32)) (q53 : (Nat → Int32)), y_goBy_61d_ok (M.1 4) (M.1 5) (M.1 6) (M.1 7) (M.1 21) (M.1 23) nr nt nf x2 x3 k0 s5 q22 q24 q41 q53 → (HX (match y_goBy_61d (M.1 4) (M.1 5) (M.1 6) (M.1 7) (M.1 21) (M.1 23) nr nt nf x2 x3 k0 s5 q22 q24 q41 q53 with | (s5', q22', q24', q41', q53') => G z mX10_goBy (d + 5) 0 0 105 [none, none, none, none, none, none, none] [] (mrow (mrow (mrow (mrow M 22 (q22')) 24 (q24')) 41 (q41')) 53 (q53')) Q)) → G z mX10_goBy (d + 5) 0 0 61 [some (.ref 53), none, some (.int x2), some (.int x3), some (.int (nI 1)), some (.int s5), none] [] (mrow (mrow (mrow (mrow M 22 q22) 24 q24) 41 q41) 53 q53) Q := by
  intro k0
  induction k0 with
  | zero =>
      intro s5 q22 q24 q41 q53 hk hX
      exact (by simpa only [y_goBy_61d_ok] using hk : False).elim
  | succ k0 ih =>
      intro s5 q22 q24 q41 q53 hk hX
      simp only [y_goBy_61d_ok] at hk
      refine G.sl [(.iload 5, 2, 5, 0, 0, 0), (.iload_n 3, 1, 3, 0, 0, 0)] [] (pc2 := 64) (ls2 := [some (.ref 53), none, some (.int x2), some (.int x3), some (.int (nI 1)), some (.int s5), none]) (st2 := [.int x3, .int s5]) (M2 := mrow (mrow (mrow (mrow M 22 q22) 24 q24) 41 q41) 53 q53) (Ps := []) (by decide +kernel) rfl rfl trivial ?_
      refine G.ic_ge (off := (41)) (tgt := 105) (by decide +kernel) rfl (fun c70 => ?_) (fun c70 => ?_)
      · skip
        rw [if_pos c70] at hk
        refine G.loc (ls2 := [none, none, none, none, none, none, none]) (by simp [subL]) ?_
        simp only [y_goBy_61d, if_pos c70] at hX
        exact hX trivial
      · skip
        rw [if_neg c70] at hk
        refine G.sl [(.iconst 0, 1, 0, 0, 0, nI 0), (.istore 6, 2, 6, 0, 0, 0)] [] (pc2 := 70) (ls2 := [some (.ref 53), none, some (.int x2), some (.int x3), some (.int (nI 1)), some (.int s5), some (.int (nI 0))]) (st2 := []) (M2 := mrow (mrow (mrow (mrow M 22 q22) 24 q24) 41 q41) 53 q53) (Ps := []) (by decide +kernel) rfl rfl trivial ?_
        obtain ⟨k80, hk⟩ := hk
        refine G.mem (M' := mrow (mrow (mrow (mrow (mrow (mrow (mrow (mrow M 22 q22) 24 q24) 41 q41) 53 q53) 22 ((mrow (mrow (mrow (mrow M 22 q22) 24 q24) 41 q41) 53 q53).1 22)) 24 ((mrow (mrow (mrow (mrow M 22 q22) 24 q24) 41 q41) 53 q53).1 24)) 41 ((mrow (mrow (mrow (mrow M 22 q22) 24 q24) 41 q41) 53 q53).1 41)) 53 ((mrow (mrow (mrow (mrow M 22 q22) 24 q24) 41 q41) 53 q53).1 53)) (by simp only [mrow_self]) ?_
        refine lp_y_goBy_53_70d z d (mrow (mrow (mrow (mrow M 22 q22) 24 q24) 41 q41) 53 q53) Q (cN 3) x2 x3 s5 nr hnr hr nt hnt ht nf hnf hf (cN_eq 3) (cN 3) 0 ((mrow (mrow (mrow (mrow M 22 q22) 24 q24) 41 q41) 53 q53).1 22) ((mrow (mrow (mrow (mrow M 22 q22) 24 q24) 41 q41) 53 q53).1 24) ((mrow (mrow (mrow (mrow M 22 q22) 24 q24) 41 q41) 53 q53).1 41) ((mrow (mrow (mrow (mrow M 22 q22) 24 q24) 41 q41) 53 q53).1 53) (Nat.zero_add _) (by first | (simp only [mput, mrow_same, mrow_hit, mrow_miss, mrow_sw, idr_eq, ne_eq, Nat.reduceEqDiff, not_false_eq_true, Nat.reduceLT, reduceCtorEq]; exact k80) | exact k80) (fun _ => ?_)
        try simp only [mput, mrow_same, mrow_hit, mrow_miss, mrow_sw, idr_eq, ne_eq, Nat.reduceEqDiff, not_false_eq_true, Nat.reduceLT, reduceCtorEq]
        rcases g81 : y_goBy_70d (M.1 4) (M.1 5) (M.1 6) (M.1 7) (M.1 21) (M.1 23) nr nt nf x2 x3 s5 (cN 3) 0 q22 q24 q41 q53 with ⟨r82, r83, r84, r85⟩
        try simp only [g81] at hk
        show G z mX10_goBy (d + 5) 0 0 92 [some (.ref 53), none, some (.int x2), some (.int x3), some (.int (nI 1)), some (.int s5), none] [] (mrow (mrow (mrow (mrow M 22 r82) 24 r83) 41 r84) 53 r85) Q
        refine G.sl [(.aload_n 0, 1, 0, 0, 0, 0), (.getfield 17, 3, 9, 4, 105, 0)] [] (pc2 := 96) (ls2 := [some (.ref 53), none, some (.int x2), some (.int x3), some (.int (nI 1)), some (.int s5), none]) (st2 := [.ref 40]) (M2 := mrow (mrow (mrow (mrow M 22 r82) 24 r83) 41 r84) 53 r85) (Ps := []) (by decide +kernel) rfl rfl trivial ?_
        obtain ⟨k86, hk⟩ := hk
        rcases g87 : d_nightFalls (M.1 7) r84 nt nf with ⟨u88, r89⟩
        try simp only [g87] at hk
        have t90 : GM z mX1_nightFalls (d + 4) [.ref 40] (mrow (mrow (mrow (mrow M 22 r82) 24 r83) 41 r84) 53 r85) (fun rs => rs = .inl (none, mrow (mrow (mrow (mrow M 22 r82) 24 r83) 41 r89) 53 r85)) := by
          have q9 := c_d_nightFalls_40 z (d + 3) (mrow (mrow (mrow (mrow M 22 r82) 24 r83) 41 r84) 53 r85) nt hnt ht nf hnf hf k86
          try simp only [mput, mrow_same, mrow_hit, mrow_miss, mrow_sw, idr_eq, ne_eq, Nat.reduceEqDiff, not_false_eq_true, Nat.reduceLT, reduceCtorEq, g87] at q9
          exact q9
        refine G.callV (as := []) (rest := []) (a := 40) oX1_nightFalls lk_EvenFinders_Years_48 (by decide +kernel) rfl rfl ⟨rfl, rfl⟩ (Nat.le_of_ble_eq_true rfl) rfl ⟨Nat.le_of_ble_eq_true rfl, Nat.le_of_ble_eq_true rfl⟩ t90 (fun v9 N9 h91 => ?_) (fun E9 N9 h91 => by cases h91)
        cases h91
        show G z mX10_goBy (d + 5) 0 0 99 [some (.ref 53), none, some (.int x2), some (.int x3), some (.int (nI 1)), some (.int s5), none] [] (mrow (mrow (mrow (mrow M 22 r82) 24 r83) 41 r89) 53 r85) Q
        refine G.sl [(.iinc 5 1, 3, 5, 0, 0, nI 1), (.goto (-41), 3, 61, 0, 0, 0)] [] (pc2 := 61) (ls2 := [some (.ref 53), none, some (.int x2), some (.int x3), some (.int (nI 1)), some (.int (s5 + nI 1)), none]) (st2 := []) (M2 := mrow (mrow (mrow (mrow M 22 r82) 24 r83) 41 r89) 53 r85) (Ps := []) (by decide +kernel) rfl rfl trivial ?_
        simp only [y_goBy_61d, if_neg c70, g81, g87] at hX
        exact ih (s5 + nI 1) r82 r83 r89 r85 hk hX
set_option maxHeartbeats 4000000 in
set_option maxRecDepth 3000 in
theorem c_y_goBy_53 (z : Zp) (d : Nat) (M : Mem) (x1 : Int32) (x2 : Int32) (x3 : Int32) (nr : Nat) (hnr : nr ≤ 12) (hr : M.1 3 1 = nI nr) (nt : Nat) (hnt : nt ≤ 10) (ht : M.1 3 2 = nI nt) (nf : Nat) (hnf : nf ≤ 6) (hf : M.1 3 3 = nI nf) (hk : y_goBy_ok (M.1 4) (M.1 5) (M.1 6) (M.1 7) (M.1 21) (M.1 22) (M.1 23) (M.1 24) (M.1 38) (M.1 41) (M.1 53) nr nt nf x1 x2 x3) : GM z mX10_goBy (d + 5) [.ref 53, .int x1, .int x2, .int x3] M (fun rs => rs = .inl (none, mrow (mrow (mrow (mrow M 22 ((y_goBy (M.1 4) (M.1 5) (M.1 6) (M.1 7) (M.1 21) (M.1 22) (M.1 23) (M.1 24) (M.1 38) (M.1 41) (M.1 53) nr nt nf x1 x2 x3).2.1)) 24 ((y_goBy (M.1 4) (M.1 5) (M.1 6) (M.1 7) (M.1 21) (M.1 22) (M.1 23) (M.1 24) (M.1 38) (M.1 41) (M.1 53) nr nt nf x1 x2 x3).2.2.1)) 41 ((y_goBy (M.1 4) (M.1 5) (M.1 6) (M.1 7) (M.1 21) (M.1 22) (M.1 23) (M.1 24) (M.1 38) (M.1 41) (M.1 53) nr nt nf x1 x2 x3).2.2.2.1)) 53 ((y_goBy (M.1 4) (M.1 5) (M.1 6) (M.1 7) (M.1 21) (M.1 22) (M.1 23) (M.1 24) (M.1 38) (M.1 41) (M.1 53) nr nt nf x1 x2 x3).2.2.2.2))) := by
  simp only [y_goBy_ok] at hk
  refine GM.of oX10_goBy.1 (Nat.le_of_ble_eq_true rfl) ?_
  show G z mX10_goBy (d + 5) 0 0 0 [some (.ref 53), some (.int x1), some (.int x2), some (.int x3), none, none, none] [] M _
  obtain ⟨Q, hQ⟩ : ∃ Q : Rs → Prop, Q = (fun rs => rs = .inl (none, mrow (mrow (mrow (mrow M 22 ((y_goBy (M.1 4) (M.1 5) (M.1 6) (M.1 7) (M.1 21) (M.1 22) (M.1 23) (M.1 24) (M.1 38) (M.1 41) (M.1 53) nr nt nf x1 x2 x3).2.1)) 24 ((y_goBy (M.1 4) (M.1 5) (M.1 6) (M.1 7) (M.1 21) (M.1 22) (M.1 23) (M.1 24) (M.1 38) (M.1 41) (M.1 53) nr nt nf x1 x2 x3).2.2.1)) 41 ((y_goBy (M.1 4) (M.1 5) (M.1 6) (M.1 7) (M.1 21) (M.1 22) (M.1 23) (M.1 24) (M.1 38) (M.1 41) (M.1 53) nr nt nf x1 x2 x3).2.2.2.1)) 53 ((y_goBy (M.1 4) (M.1 5) (M.1 6) (M.1 7) (M.1 21) (M.1 22) (M.1 23) (M.1 24) (M.1 38) (M.1 41) (M.1 53) nr nt nf x1 x2 x3).2.2.2.2))) := ⟨_, rfl⟩
  rw [← hQ]
  refine G.sl [(.aload_n 0, 1, 0, 0, 0, 0), (.getfield 17, 3, 9, 4, 105, 0), (.aload_n 0, 1, 0, 0, 0, 0), (.getfield 13, 3, 9, 3, 104, 0)] [] (pc2 := 8) (ls2 := [some (.ref 53), some (.int x1), some (.int x2), some (.int x3), none, none, none]) (st2 := [.ref 37, .ref 40]) (M2 := M) (Ps := []) (by decide +kernel) rfl rfl trivial ?_
  obtain ⟨k1, hk⟩ := hk
  rcases g2 : d_take (M.1 38) (M.1 41) with ⟨u3, r4⟩
  try simp only [g2] at hk
  have t5 : GM z mX1_take (d + 4) [.ref 40, .ref 37] M (fun rs => rs = .inl (none, mrow M 41 r4)) := by
    have q9 := c_d_take_40_37 z (d + 3) M 
    try simp only [mput, mrow_same, mrow_hit, mrow_miss, mrow_sw, idr_eq, ne_eq, Nat.reduceEqDiff, not_false_eq_true, Nat.reduceLT, reduceCtorEq, g2] at q9
    exact q9
  refine G.callV (as := [.ref 37]) (rest := []) (a := 40) oX1_take lk_EvenFinders_Years_20 (by decide +kernel) rfl rfl ⟨rfl, rfl⟩ (Nat.le_of_ble_eq_true rfl) rfl ⟨Nat.le_of_ble_eq_true rfl, Nat.le_of_ble_eq_true rfl⟩ t5 (fun v9 N9 h6 => ?_) (fun E9 N9 h6 => by cases h6)
  cases h6
  show G z mX10_goBy (d + 5) 0 0 11 [some (.ref 53), some (.int x1), some (.int x2), some (.int x3), none, none, none] [] (mrow M 41 r4) Q
  refine G.sl [(.aload_n 0, 1, 0, 0, 0, 0), (.iload_n 1, 1, 1, 0, 0, 0), (.putfield 26, 3, 9, 1, 102, 0), (.aload_n 0, 1, 0, 0, 0, 0), (.iconst 0, 1, 0, 0, 0, nI 0), (.putfield 30, 3, 9, 0, 100, 0), (.aload_n 0, 1, 0, 0, 0, 0), (.getfield 7, 3, 9, 2, 103, 0), (.getfield 33, 3, 6, 3, 29, 0)] [] (pc2 := 28) (ls2 := [some (.ref 53), some (.int x1), some (.int x2), some (.int x3), none, none, none]) (st2 := [.int (M.1 3 3)]) (M2 := mput (mput (mrow M 41 r4) 53 1 x1) 53 0 (nI 0)) (Ps := []) (by decide +kernel) rfl rfl trivial ?_
  refine G.mem (M' := mrow (mrow M 41 r4) 53 (upd (upd (M.1 53) 1 x1) 0 (nI 0))) (by first | rfl | (simp only [mput, mrow_same, mrow_hit, mrow_miss, mrow_sw, idr_eq, ne_eq, Nat.reduceEqDiff, not_false_eq_true, Nat.reduceLT, reduceCtorEq]; done)) ?_
  rw [hf]
  refine G.if_le (off := (27)) (tgt := 55) (by decide +kernel) rfl (fun c7 => ?_) (fun c7 => ?_)
  · skip
    rw [if_pos c7] at hk
    refine G.sl [(.iconst 0, 1, 0, 0, 0, nI 0), (.istore 4, 2, 4, 0, 0, 0), (.iconst 0, 1, 0, 0, 0, nI 0), (.istore 5, 2, 5, 0, 0, 0)] [] (pc2 := 61) (ls2 := [some (.ref 53), some (.int x1), some (.int x2), some (.int x3), some (.int (nI 0)), some (.int (nI 0)), none]) (st2 := []) (M2 := mrow (mrow M 41 r4) 53 (upd (upd (M.1 53) 1 x1) 0 (nI 0))) (Ps := []) (by decide +kernel) rfl rfl trivial ?_
    refine G.loc (ls2 := [some (.ref 53), none, some (.int x2), some (.int x3), some (.int (nI 0)), some (.int (nI 0)), none]) (by simp [subL]) ?_
    obtain ⟨k21, hk⟩ := hk
    refine G.mem (M' := mrow (mrow (mrow (mrow (mrow (mrow M 41 r4) 53 (upd (upd (M.1 53) 1 x1) 0 (nI 0))) 22 ((mrow (mrow M 41 r4) 53 (upd (upd (M.1 53) 1 x1) 0 (nI 0))).1 22)) 24 ((mrow (mrow M 41 r4) 53 (upd (upd (M.1 53) 1 x1) 0 (nI 0))).1 24)) 41 ((mrow (mrow M 41 r4) 53 (upd (upd (M.1 53) 1 x1) 0 (nI 0))).1 41)) 53 ((mrow (mrow M 41 r4) 53 (upd (upd (M.1 53) 1 x1) 0 (nI 0))).1 53)) (by simp only [mrow_self]) ?_
    refine lp_y_goBy_53_61 z d (mrow (mrow M 41 r4) 53 (upd (upd (M.1 53) 1 x1) 0 (nI 0))) Q x2 x3 nt hnt ht nf hnf hf FU (nI 0) ((mrow (mrow M 41 r4) 53 (upd (upd (M.1 53) 1 x1) 0 (nI 0))).1 22) ((mrow (mrow M 41 r4) 53 (upd (upd (M.1 53) 1 x1) 0 (nI 0))).1 24) ((mrow (mrow M 41 r4) 53 (upd (upd (M.1 53) 1 x1) 0 (nI 0))).1 41) ((mrow (mrow M 41 r4) 53 (upd (upd (M.1 53) 1 x1) 0 (nI 0))).1 53) (by first | (simp only [mput, mrow_same, mrow_hit, mrow_miss, mrow_sw, idr_eq, ne_eq, Nat.reduceEqDiff, not_false_eq_true, Nat.reduceLT, reduceCtorEq]; exact k21) | exact k21) (fun _ => ?_)
    try simp only [mput, mrow_same, mrow_hit, mrow_miss, mrow_sw, idr_eq, ne_eq, Nat.reduceEqDiff, not_false_eq_true, Nat.reduceLT, reduceCtorEq]
    rcases g22 : y_goBy_61 (M.1 7) nt nf x2 x3 FU (nI 0) (M.1 22) (M.1 24) r4 (upd (upd (M.1 53) 1 x1) 0 (nI 0)) with ⟨v23, r24, r25, r26, r27⟩
    show G z mX10_goBy (d + 5) 0 0 105 [none, none, none, none, none, none, none] [] (mrow (mrow (mrow (mrow M 22 r24) 24 r25) 41 r26) 53 r27) Q
    exact G.retv (by decide +kernel) rfl (Nat.le_of_ble_eq_true rfl) (Nat.le_of_ble_eq_true rfl) ((by rw [hQ]; simp only [y_goBy, g2, if_pos c7, g22, mrow_self]))
  · skip
    rw [if_neg c7] at hk
    refine G.sl [(.aload_n 0, 1, 0, 0, 0, 0), (.getfield 7, 3, 9, 2, 103, 0), (.getfield 38, 3, 6, 1, 19, 0)] [] (pc2 := 38) (ls2 := [some (.ref 53), some (.int x1), some (.int x2), some (.int x3), none, none, none]) (st2 := [.int (M.1 3 1)]) (M2 := mrow (mrow M 41 r4) 53 (upd (upd (M.1 53) 1 x1) 0 (nI 0))) (Ps := []) (by decide +kernel) rfl rfl trivial ?_
    rw [hr]
    refine G.if_le (off := (17)) (tgt := 55) (by decide +kernel) rfl (fun c28 => ?_) (fun c28 => ?_)
    · skip
      rw [if_pos c28] at hk
      refine G.sl [(.iconst 0, 1, 0, 0, 0, nI 0), (.istore 4, 2, 4, 0, 0, 0), (.iconst 0, 1, 0, 0, 0, nI 0), (.istore 5, 2, 5, 0, 0, 0)] [] (pc2 := 61) (ls2 := [some (.ref 53), some (.int x1), some (.int x2), some (.int x3), some (.int (nI 0)), some (.int (nI 0)), none]) (st2 := []) (M2 := mrow (mrow M 41 r4) 53 (upd (upd (M.1 53) 1 x1) 0 (nI 0))) (Ps := []) (by decide +kernel) rfl rfl trivial ?_
      refine G.loc (ls2 := [some (.ref 53), none, some (.int x2), some (.int x3), some (.int (nI 0)), some (.int (nI 0)), none]) (by simp [subL]) ?_
      obtain ⟨k42, hk⟩ := hk
      refine G.mem (M' := mrow (mrow (mrow (mrow (mrow (mrow M 41 r4) 53 (upd (upd (M.1 53) 1 x1) 0 (nI 0))) 22 ((mrow (mrow M 41 r4) 53 (upd (upd (M.1 53) 1 x1) 0 (nI 0))).1 22)) 24 ((mrow (mrow M 41 r4) 53 (upd (upd (M.1 53) 1 x1) 0 (nI 0))).1 24)) 41 ((mrow (mrow M 41 r4) 53 (upd (upd (M.1 53) 1 x1) 0 (nI 0))).1 41)) 53 ((mrow (mrow M 41 r4) 53 (upd (upd (M.1 53) 1 x1) 0 (nI 0))).1 53)) (by simp only [mrow_self]) ?_
      refine lp_y_goBy_53_61 z d (mrow (mrow M 41 r4) 53 (upd (upd (M.1 53) 1 x1) 0 (nI 0))) Q x2 x3 nt hnt ht nf hnf hf FU (nI 0) ((mrow (mrow M 41 r4) 53 (upd (upd (M.1 53) 1 x1) 0 (nI 0))).1 22) ((mrow (mrow M 41 r4) 53 (upd (upd (M.1 53) 1 x1) 0 (nI 0))).1 24) ((mrow (mrow M 41 r4) 53 (upd (upd (M.1 53) 1 x1) 0 (nI 0))).1 41) ((mrow (mrow M 41 r4) 53 (upd (upd (M.1 53) 1 x1) 0 (nI 0))).1 53) (by first | (simp only [mput, mrow_same, mrow_hit, mrow_miss, mrow_sw, idr_eq, ne_eq, Nat.reduceEqDiff, not_false_eq_true, Nat.reduceLT, reduceCtorEq]; exact k42) | exact k42) (fun _ => ?_)
      try simp only [mput, mrow_same, mrow_hit, mrow_miss, mrow_sw, idr_eq, ne_eq, Nat.reduceEqDiff, not_false_eq_true, Nat.reduceLT, reduceCtorEq]
      rcases g43 : y_goBy_61 (M.1 7) nt nf x2 x3 FU (nI 0) (M.1 22) (M.1 24) r4 (upd (upd (M.1 53) 1 x1) 0 (nI 0)) with ⟨v44, r45, r46, r47, r48⟩
      show G z mX10_goBy (d + 5) 0 0 105 [none, none, none, none, none, none, none] [] (mrow (mrow (mrow (mrow M 22 r45) 24 r46) 41 r47) 53 r48) Q
      exact G.retv (by decide +kernel) rfl (Nat.le_of_ble_eq_true rfl) (Nat.le_of_ble_eq_true rfl) ((by rw [hQ]; simp only [y_goBy, g2, if_neg c7, if_pos c28, g43, mrow_self]))
    · skip
      rw [if_neg c28] at hk
      refine G.sl [(.aload_n 0, 1, 0, 0, 0, 0), (.getfield 7, 3, 9, 2, 103, 0), (.getfield 41, 3, 6, 2, 23, 0)] [] (pc2 := 48) (ls2 := [some (.ref 53), some (.int x1), some (.int x2), some (.int x3), none, none, none]) (st2 := [.int (M.1 3 2)]) (M2 := mrow (mrow M 41 r4) 53 (upd (upd (M.1 53) 1 x1) 0 (nI 0))) (Ps := []) (by decide +kernel) rfl rfl trivial ?_
      rw [ht]
      refine G.if_le (off := (7)) (tgt := 55) (by decide +kernel) rfl (fun c49 => ?_) (fun c49 => ?_)
      · skip
        rw [if_pos c49] at hk
        refine G.sl [(.iconst 0, 1, 0, 0, 0, nI 0), (.istore 4, 2, 4, 0, 0, 0), (.iconst 0, 1, 0, 0, 0, nI 0), (.istore 5, 2, 5, 0, 0, 0)] [] (pc2 := 61) (ls2 := [some (.ref 53), some (.int x1), some (.int x2), some (.int x3), some (.int (nI 0)), some (.int (nI 0)), none]) (st2 := []) (M2 := mrow (mrow M 41 r4) 53 (upd (upd (M.1 53) 1 x1) 0 (nI 0))) (Ps := []) (by decide +kernel) rfl rfl trivial ?_
        refine G.loc (ls2 := [some (.ref 53), none, some (.int x2), some (.int x3), some (.int (nI 0)), some (.int (nI 0)), none]) (by simp [subL]) ?_
        obtain ⟨k63, hk⟩ := hk
        refine G.mem (M' := mrow (mrow (mrow (mrow (mrow (mrow M 41 r4) 53 (upd (upd (M.1 53) 1 x1) 0 (nI 0))) 22 ((mrow (mrow M 41 r4) 53 (upd (upd (M.1 53) 1 x1) 0 (nI 0))).1 22)) 24 ((mrow (mrow M 41 r4) 53 (upd (upd (M.1 53) 1 x1) 0 (nI 0))).1 24)) 41 ((mrow (mrow M 41 r4) 53 (upd (upd (M.1 53) 1 x1) 0 (nI 0))).1 41)) 53 ((mrow (mrow M 41 r4) 53 (upd (upd (M.1 53) 1 x1) 0 (nI 0))).1 53)) (by simp only [mrow_self]) ?_
        refine lp_y_goBy_53_61 z d (mrow (mrow M 41 r4) 53 (upd (upd (M.1 53) 1 x1) 0 (nI 0))) Q x2 x3 nt hnt ht nf hnf hf FU (nI 0) ((mrow (mrow M 41 r4) 53 (upd (upd (M.1 53) 1 x1) 0 (nI 0))).1 22) ((mrow (mrow M 41 r4) 53 (upd (upd (M.1 53) 1 x1) 0 (nI 0))).1 24) ((mrow (mrow M 41 r4) 53 (upd (upd (M.1 53) 1 x1) 0 (nI 0))).1 41) ((mrow (mrow M 41 r4) 53 (upd (upd (M.1 53) 1 x1) 0 (nI 0))).1 53) (by first | (simp only [mput, mrow_same, mrow_hit, mrow_miss, mrow_sw, idr_eq, ne_eq, Nat.reduceEqDiff, not_false_eq_true, Nat.reduceLT, reduceCtorEq]; exact k63) | exact k63) (fun _ => ?_)
        try simp only [mput, mrow_same, mrow_hit, mrow_miss, mrow_sw, idr_eq, ne_eq, Nat.reduceEqDiff, not_false_eq_true, Nat.reduceLT, reduceCtorEq]
        rcases g64 : y_goBy_61 (M.1 7) nt nf x2 x3 FU (nI 0) (M.1 22) (M.1 24) r4 (upd (upd (M.1 53) 1 x1) 0 (nI 0)) with ⟨v65, r66, r67, r68, r69⟩
        show G z mX10_goBy (d + 5) 0 0 105 [none, none, none, none, none, none, none] [] (mrow (mrow (mrow (mrow M 22 r66) 24 r67) 41 r68) 53 r69) Q
        exact G.retv (by decide +kernel) rfl (Nat.le_of_ble_eq_true rfl) (Nat.le_of_ble_eq_true rfl) ((by rw [hQ]; simp only [y_goBy, g2, if_neg c7, if_neg c28, if_pos c49, g64, mrow_self]))
      · skip
        rw [if_neg c49] at hk
        refine G.sl [(.iconst 1, 1, 0, 0, 0, nI 1), (.goto 4, 3, 56, 0, 0, 0), (.istore 4, 2, 4, 0, 0, 0), (.iconst 0, 1, 0, 0, 0, nI 0), (.istore 5, 2, 5, 0, 0, 0)] [] (pc2 := 61) (ls2 := [some (.ref 53), some (.int x1), some (.int x2), some (.int x3), some (.int (nI 1)), some (.int (nI 0)), none]) (st2 := []) (M2 := mrow (mrow M 41 r4) 53 (upd (upd (M.1 53) 1 x1) 0 (nI 0))) (Ps := []) (by decide +kernel) rfl rfl trivial ?_
        refine G.loc (ls2 := [some (.ref 53), none, some (.int x2), some (.int x3), some (.int (nI 1)), some (.int (nI 0)), none]) (by simp [subL]) ?_
        obtain ⟨k92, hk⟩ := hk
        refine G.mem (M' := mrow (mrow (mrow (mrow (mrow (mrow M 41 r4) 53 (upd (upd (M.1 53) 1 x1) 0 (nI 0))) 22 ((mrow (mrow M 41 r4) 53 (upd (upd (M.1 53) 1 x1) 0 (nI 0))).1 22)) 24 ((mrow (mrow M 41 r4) 53 (upd (upd (M.1 53) 1 x1) 0 (nI 0))).1 24)) 41 ((mrow (mrow M 41 r4) 53 (upd (upd (M.1 53) 1 x1) 0 (nI 0))).1 41)) 53 ((mrow (mrow M 41 r4) 53 (upd (upd (M.1 53) 1 x1) 0 (nI 0))).1 53)) (by simp only [mrow_self]) ?_
        refine lp_y_goBy_53_61d z d (mrow (mrow M 41 r4) 53 (upd (upd (M.1 53) 1 x1) 0 (nI 0))) Q x2 x3 nr hnr hr nt hnt ht nf hnf hf FU (nI 0) ((mrow (mrow M 41 r4) 53 (upd (upd (M.1 53) 1 x1) 0 (nI 0))).1 22) ((mrow (mrow M 41 r4) 53 (upd (upd (M.1 53) 1 x1) 0 (nI 0))).1 24) ((mrow (mrow M 41 r4) 53 (upd (upd (M.1 53) 1 x1) 0 (nI 0))).1 41) ((mrow (mrow M 41 r4) 53 (upd (upd (M.1 53) 1 x1) 0 (nI 0))).1 53) (by first | (simp only [mput, mrow_same, mrow_hit, mrow_miss, mrow_sw, idr_eq, ne_eq, Nat.reduceEqDiff, not_false_eq_true, Nat.reduceLT, reduceCtorEq]; exact k92) | exact k92) (fun _ => ?_)
        try simp only [mput, mrow_same, mrow_hit, mrow_miss, mrow_sw, idr_eq, ne_eq, Nat.reduceEqDiff, not_false_eq_true, Nat.reduceLT, reduceCtorEq]
        rcases g93 : y_goBy_61d (M.1 4) (M.1 5) (M.1 6) (M.1 7) (M.1 21) (M.1 23) nr nt nf x2 x3 FU (nI 0) (M.1 22) (M.1 24) r4 (upd (upd (M.1 53) 1 x1) 0 (nI 0)) with ⟨v94, r95, r96, r97, r98⟩
        show G z mX10_goBy (d + 5) 0 0 105 [none, none, none, none, none, none, none] [] (mrow (mrow (mrow (mrow M 22 r95) 24 r96) 41 r97) 53 r98) Q
        exact G.retv (by decide +kernel) rfl (Nat.le_of_ble_eq_true rfl) (Nat.le_of_ble_eq_true rfl) ((by rw [hQ]; simp only [y_goBy, g2, if_neg c7, if_neg c28, if_neg c49, g93, mrow_self]))
set_option maxHeartbeats 4000000 in
set_option maxRecDepth 3000 in
theorem c_k_clears_54 (z : Zp) (d : Nat) (M : Mem) : GM z mX12_clears (d) [.ref 54] M (fun rs => rs = .inl (none, mrow M 54 ((k_clears (M.1 54)).2))) := by
  refine GM.of oX12_clears.1 (Nat.le_of_ble_eq_true rfl) ?_
  show G z mX12_clears (d) 0 0 0 [some (.ref 54)] [] M _
  obtain ⟨Q, hQ⟩ : ∃ Q : Rs → Prop, Q = (fun rs => rs = .inl (none, mrow M 54 ((k_clears (M.1 54)).2))) := ⟨_, rfl⟩
  rw [← hQ]
  refine G.sl [(.aload_n 0, 1, 0, 0, 0, 0), (.iconst 0, 1, 0, 0, 0, nI 0), (.putfield 144, 3, 11, 16, 139, 0), (.aload_n 0, 1, 0, 0, 0, 0), (.iconst 0, 1, 0, 0, 0, nI 0), (.putfield 147, 3, 11, 17, 140, 0), (.aload_n 0, 1, 0, 0, 0, 0), (.iconst 0, 1, 0, 0, 0, nI 0), (.putfield 150, 3, 11, 18, 141, 0), (.aload_n 0, 1, 0, 0, 0, 0), (.iconst 0, 1, 0, 0, 0, nI 0), (.putfield 153, 3, 11, 19, 142, 0)] [] (pc2 := 20) (ls2 := [some (.ref 54)]) (st2 := []) (M2 := mput (mput (mput (mput M 54 16 (nI 0)) 54 17 (nI 0)) 54 18 (nI 0)) 54 19 (nI 0)) (Ps := []) (by decide +kernel) rfl rfl trivial ?_
  refine G.mem (M' := mrow M 54 (upd (upd (upd (upd (M.1 54) 16 (nI 0)) 17 (nI 0)) 18 (nI 0)) 19 (nI 0))) (by first | rfl | (simp only [mput, mrow_same, mrow_hit, mrow_miss, mrow_sw, idr_eq, ne_eq, Nat.reduceEqDiff, not_false_eq_true, Nat.reduceLT, reduceCtorEq]; done)) ?_
  exact G.retv (by decide +kernel) rfl (Nat.le_of_ble_eq_true rfl) (Nat.le_of_ble_eq_true rfl) ((by rw [hQ]; simp only [k_clears, mrow_self]))
set_option maxHeartbeats 4000000 in
set_option maxRecDepth 3000 in
theorem lp_k_copies_L36_L36_54_57_60_3 (z : Zp) (d : Nat) (M : Mem) (Q : Rs → Prop) (n3 : Nat) (b3 : n3 < 3000) (hk : ∀ i4, i4 < n3 → k_copies_L36_L36_3_ok (M.1 57) (M.1 60) n3 i4) (hX : G z mX12_copies (d) 0 0 23 [none, none, none, none, none] [] (mrow M 60 (k_copies_L36_L36_3 (M.1 57) (M.1 60) n3 n3)) Q) : G z mX12_copies (d) 0 0 3 [none, some (.ref 57), some (.ref 60), some (.int (nI n3)), some (.int (nI 0))] [] M Q := by
  refine G.mem (M' := mrow M 60 (M.1 60)) (by simp only [mrow_self]) ?_
  refine down (n := n3) (P := fun i4 => G z mX12_copies (d) 0 0 3 [none, some (.ref 57), some (.ref 60), some (.int (nI n3)), some (.int (nI i4))] [] (mrow M 60 (k_copies_L36_L36_3 (M.1 57) (M.1 60) n3 i4)) Q) ?_ ?_ 0 (Nat.zero_le _)
  · skip
    refine G.sl [(.iload 4, 2, 4, 0, 0, 0), (.iload_n 3, 1, 3, 0, 0, 0)] [] (pc2 := 6) (ls2 := [none, some (.ref 57), some (.ref 60), some (.int (nI n3)), some (.int (nI n3))]) (st2 := [.int (nI n3), .int (nI n3)]) (M2 := mrow M 60 (k_copies_L36_L36_3 (M.1 57) (M.1 60) n3 n3)) (Ps := []) (by decide +kernel) rfl rfl trivial ?_
    refine G.ic_ge (off := (17)) (tgt := 23) (by decide +kernel) rfl (fun _ => ?_) (fun h9 => absurd (nI_le (by omega) (by omega)) h9)
    refine G.loc (ls2 := [none, none, none, none, none]) (by simp [subL]) ?_
    exact hX
  · skip
    intro i4 hi ih
    have hk := hk i4 hi
    simp only [k_copies_L36_L36_3_ok] at hk
    show G z mX12_copies (d) 0 0 3 [none, some (.ref 57), some (.ref 60), some (.int (nI n3)), some (.int (nI i4))] [] (mrow M 60 (k_copies_L36_L36_3 (M.1 57) (M.1 60) n3 i4)) Q
    refine G.sl [(.iload 4, 2, 4, 0, 0, 0), (.iload_n 3, 1, 3, 0, 0, 0)] [] (pc2 := 6) (ls2 := [none, some (.ref 57), some (.ref 60), some (.int (nI n3)), some (.int (nI i4))]) (st2 := [.int (nI n3), .int (nI i4)]) (M2 := mrow M 60 (k_copies_L36_L36_3 (M.1 57) (M.1 60) n3 i4)) (Ps := []) (by decide +kernel) rfl rfl trivial ?_
    refine G.ic_ge (off := (17)) (tgt := 23) (by decide +kernel) rfl (fun h9 => absurd h9 (nI_ge (by omega) (by omega))) (fun _ => ?_)
    obtain ⟨k1, hk⟩ := hk
    refine G.sl [(.aload_n 2, 1, 2, 0, 0, 0), (.iload 4, 2, 4, 0, 0, 0), (.aload_n 1, 1, 1, 0, 0, 0), (.iload 4, 2, 4, 0, 0, 0), (.iaload, 1, 0, 0, 0, 0), (.iastore, 1, 0, 0, 0, 0), (.iinc 4 1, 3, 4, 0, 0, nI 1), (.goto (-17), 3, 3, 0, 0, 0)] [i4, i4] (pc2 := 3) (ls2 := [none, some (.ref 57), some (.ref 60), some (.int (nI n3)), some (.int ((nI i4) + nI 1))]) (st2 := []) (M2 := mput (mrow M 60 (k_copies_L36_L36_3 (M.1 57) (M.1 60) n3 i4)) 60 i4 (M.1 57 i4)) (Ps := [(nI i4) = nI i4 ∧ i4 < 36, (nI i4) = nI i4 ∧ i4 < 36]) (by decide +kernel) rfl rfl ⟨⟨rfl, k1⟩, ⟨rfl, k1⟩, trivial⟩ ?_
    refine G.mem (M' := mrow M 60 (upd (k_copies_L36_L36_3 (M.1 57) (M.1 60) n3 i4) i4 (M.1 57 i4))) (by first | rfl | (simp only [mput, mrow_same, mrow_hit, mrow_miss, mrow_sw, idr_eq, ne_eq, Nat.reduceEqDiff, not_false_eq_true, Nat.reduceLT, reduceCtorEq]; done)) ?_
    rw [nI_add i4 1]
    simp only [k_copies_L36_L36_3] at ih
    exact ih
set_option maxHeartbeats 4000000 in
set_option maxRecDepth 3000 in
theorem c_k_copies_L36_L36_54_57_60 (z : Zp) (d : Nat) (M : Mem) (n3 : Nat) (b3 : n3 < 3000) (hk : k_copies_L36_L36_ok (M.1 57) (M.1 60) n3) : GM z mX12_copies (d) [.ref 54, .ref 57, .ref 60, .int (nI n3)] M (fun rs => rs = .inl (none, mrow M 60 ((k_copies_L36_L36 (M.1 57) (M.1 60) n3).2))) := by
  simp only [k_copies_L36_L36_ok] at hk
  refine GM.of oX12_copies.1 (Nat.le_of_ble_eq_true rfl) ?_
  show G z mX12_copies (d) 0 0 0 [some (.ref 54), some (.ref 57), some (.ref 60), some (.int (nI n3)), none] [] M _
  obtain ⟨Q, hQ⟩ : ∃ Q : Rs → Prop, Q = (fun rs => rs = .inl (none, mrow M 60 ((k_copies_L36_L36 (M.1 57) (M.1 60) n3).2))) := ⟨_, rfl⟩
  rw [← hQ]
  refine G.sl [(.iconst 0, 1, 0, 0, 0, nI 0), (.istore 4, 2, 4, 0, 0, 0)] [] (pc2 := 3) (ls2 := [some (.ref 54), some (.ref 57), some (.ref 60), some (.int (nI n3)), some (.int (nI 0))]) (st2 := []) (M2 := M) (Ps := []) (by decide +kernel) rfl rfl trivial ?_
  refine G.loc (ls2 := [none, some (.ref 57), some (.ref 60), some (.int (nI n3)), some (.int (nI 0))]) (by simp [subL]) ?_
  obtain ⟨k2, hk⟩ := hk
  refine lp_k_copies_L36_L36_54_57_60_3 z d M Q n3 (by omega) (by first | (simp only [mput, mrow_same, mrow_hit, mrow_miss, mrow_sw, idr_eq, ne_eq, Nat.reduceEqDiff, not_false_eq_true, Nat.reduceLT, reduceCtorEq]; exact k2) | exact k2) ?_
  try simp only [mput, mrow_same, mrow_hit, mrow_miss, mrow_sw, idr_eq, ne_eq, Nat.reduceEqDiff, not_false_eq_true, Nat.reduceLT, reduceCtorEq]
  show G z mX12_copies (d) 0 0 23 [none, none, none, none, none] [] (mrow M 60 (k_copies_L36_L36_3 (M.1 57) (M.1 60) n3 n3)) Q
  exact G.retv (by decide +kernel) rfl (Nat.le_of_ble_eq_true rfl) (Nat.le_of_ble_eq_true rfl) ((by rw [hQ]; simp only [k_copies_L36_L36, mrow_self]))
set_option maxHeartbeats 4000000 in
set_option maxRecDepth 3000 in
theorem lp_k_copies_L30_L30_54_58_61_3 (z : Zp) (d : Nat) (M : Mem) (Q : Rs → Prop) (n3 : Nat) (b3 : n3 < 3000) (hk : ∀ i4, i4 < n3 → k_copies_L30_L30_3_ok (M.1 58) (M.1 61) n3 i4) (hX : G z mX12_copies (d) 0 0 23 [none, none, none, none, none] [] (mrow M 61 (k_copies_L30_L30_3 (M.1 58) (M.1 61) n3 n3)) Q) : G z mX12_copies (d) 0 0 3 [none, some (.ref 58), some (.ref 61), some (.int (nI n3)), some (.int (nI 0))] [] M Q := by
  refine G.mem (M' := mrow M 61 (M.1 61)) (by simp only [mrow_self]) ?_
  refine down (n := n3) (P := fun i4 => G z mX12_copies (d) 0 0 3 [none, some (.ref 58), some (.ref 61), some (.int (nI n3)), some (.int (nI i4))] [] (mrow M 61 (k_copies_L30_L30_3 (M.1 58) (M.1 61) n3 i4)) Q) ?_ ?_ 0 (Nat.zero_le _)
  · skip
    refine G.sl [(.iload 4, 2, 4, 0, 0, 0), (.iload_n 3, 1, 3, 0, 0, 0)] [] (pc2 := 6) (ls2 := [none, some (.ref 58), some (.ref 61), some (.int (nI n3)), some (.int (nI n3))]) (st2 := [.int (nI n3), .int (nI n3)]) (M2 := mrow M 61 (k_copies_L30_L30_3 (M.1 58) (M.1 61) n3 n3)) (Ps := []) (by decide +kernel) rfl rfl trivial ?_
    refine G.ic_ge (off := (17)) (tgt := 23) (by decide +kernel) rfl (fun _ => ?_) (fun h9 => absurd (nI_le (by omega) (by omega)) h9)
    refine G.loc (ls2 := [none, none, none, none, none]) (by simp [subL]) ?_
    exact hX
  · skip
    intro i4 hi ih
    have hk := hk i4 hi
    simp only [k_copies_L30_L30_3_ok] at hk
    show G z mX12_copies (d) 0 0 3 [none, some (.ref 58), some (.ref 61), some (.int (nI n3)), some (.int (nI i4))] [] (mrow M 61 (k_copies_L30_L30_3 (M.1 58) (M.1 61) n3 i4)) Q
    refine G.sl [(.iload 4, 2, 4, 0, 0, 0), (.iload_n 3, 1, 3, 0, 0, 0)] [] (pc2 := 6) (ls2 := [none, some (.ref 58), some (.ref 61), some (.int (nI n3)), some (.int (nI i4))]) (st2 := [.int (nI n3), .int (nI i4)]) (M2 := mrow M 61 (k_copies_L30_L30_3 (M.1 58) (M.1 61) n3 i4)) (Ps := []) (by decide +kernel) rfl rfl trivial ?_
    refine G.ic_ge (off := (17)) (tgt := 23) (by decide +kernel) rfl (fun h9 => absurd h9 (nI_ge (by omega) (by omega))) (fun _ => ?_)
    obtain ⟨k1, hk⟩ := hk
    refine G.sl [(.aload_n 2, 1, 2, 0, 0, 0), (.iload 4, 2, 4, 0, 0, 0), (.aload_n 1, 1, 1, 0, 0, 0), (.iload 4, 2, 4, 0, 0, 0), (.iaload, 1, 0, 0, 0, 0), (.iastore, 1, 0, 0, 0, 0), (.iinc 4 1, 3, 4, 0, 0, nI 1), (.goto (-17), 3, 3, 0, 0, 0)] [i4, i4] (pc2 := 3) (ls2 := [none, some (.ref 58), some (.ref 61), some (.int (nI n3)), some (.int ((nI i4) + nI 1))]) (st2 := []) (M2 := mput (mrow M 61 (k_copies_L30_L30_3 (M.1 58) (M.1 61) n3 i4)) 61 i4 (M.1 58 i4)) (Ps := [(nI i4) = nI i4 ∧ i4 < 30, (nI i4) = nI i4 ∧ i4 < 30]) (by decide +kernel) rfl rfl ⟨⟨rfl, k1⟩, ⟨rfl, k1⟩, trivial⟩ ?_
    refine G.mem (M' := mrow M 61 (upd (k_copies_L30_L30_3 (M.1 58) (M.1 61) n3 i4) i4 (M.1 58 i4))) (by first | rfl | (simp only [mput, mrow_same, mrow_hit, mrow_miss, mrow_sw, idr_eq, ne_eq, Nat.reduceEqDiff, not_false_eq_true, Nat.reduceLT, reduceCtorEq]; done)) ?_
    rw [nI_add i4 1]
    simp only [k_copies_L30_L30_3] at ih
    exact ih
set_option maxHeartbeats 4000000 in
set_option maxRecDepth 3000 in
theorem c_k_copies_L30_L30_54_58_61 (z : Zp) (d : Nat) (M : Mem) (n3 : Nat) (b3 : n3 < 3000) (hk : k_copies_L30_L30_ok (M.1 58) (M.1 61) n3) : GM z mX12_copies (d) [.ref 54, .ref 58, .ref 61, .int (nI n3)] M (fun rs => rs = .inl (none, mrow M 61 ((k_copies_L30_L30 (M.1 58) (M.1 61) n3).2))) := by
  simp only [k_copies_L30_L30_ok] at hk
  refine GM.of oX12_copies.1 (Nat.le_of_ble_eq_true rfl) ?_
  show G z mX12_copies (d) 0 0 0 [some (.ref 54), some (.ref 58), some (.ref 61), some (.int (nI n3)), none] [] M _
  obtain ⟨Q, hQ⟩ : ∃ Q : Rs → Prop, Q = (fun rs => rs = .inl (none, mrow M 61 ((k_copies_L30_L30 (M.1 58) (M.1 61) n3).2))) := ⟨_, rfl⟩
  rw [← hQ]
  refine G.sl [(.iconst 0, 1, 0, 0, 0, nI 0), (.istore 4, 2, 4, 0, 0, 0)] [] (pc2 := 3) (ls2 := [some (.ref 54), some (.ref 58), some (.ref 61), some (.int (nI n3)), some (.int (nI 0))]) (st2 := []) (M2 := M) (Ps := []) (by decide +kernel) rfl rfl trivial ?_
  refine G.loc (ls2 := [none, some (.ref 58), some (.ref 61), some (.int (nI n3)), some (.int (nI 0))]) (by simp [subL]) ?_
  obtain ⟨k2, hk⟩ := hk
  refine lp_k_copies_L30_L30_54_58_61_3 z d M Q n3 (by omega) (by first | (simp only [mput, mrow_same, mrow_hit, mrow_miss, mrow_sw, idr_eq, ne_eq, Nat.reduceEqDiff, not_false_eq_true, Nat.reduceLT, reduceCtorEq]; exact k2) | exact k2) ?_
  try simp only [mput, mrow_same, mrow_hit, mrow_miss, mrow_sw, idr_eq, ne_eq, Nat.reduceEqDiff, not_false_eq_true, Nat.reduceLT, reduceCtorEq]
  show G z mX12_copies (d) 0 0 23 [none, none, none, none, none] [] (mrow M 61 (k_copies_L30_L30_3 (M.1 58) (M.1 61) n3 n3)) Q
  exact G.retv (by decide +kernel) rfl (Nat.le_of_ble_eq_true rfl) (Nat.le_of_ble_eq_true rfl) ((by rw [hQ]; simp only [k_copies_L30_L30, mrow_self]))
set_option maxHeartbeats 4000000 in
set_option maxRecDepth 3000 in
theorem lp_k_copies_L6_L6_54_59_62_3 (z : Zp) (d : Nat) (M : Mem) (Q : Rs → Prop) (n3 : Nat) (b3 : n3 < 3000) (hk : ∀ i4, i4 < n3 → k_copies_L6_L6_3_ok (M.1 59) (M.1 62) n3 i4) (hX : G z mX12_copies (d) 0 0 23 [none, none, none, none, none] [] (mrow M 62 (k_copies_L6_L6_3 (M.1 59) (M.1 62) n3 n3)) Q) : G z mX12_copies (d) 0 0 3 [none, some (.ref 59), some (.ref 62), some (.int (nI n3)), some (.int (nI 0))] [] M Q := by
  refine G.mem (M' := mrow M 62 (M.1 62)) (by simp only [mrow_self]) ?_
  refine down (n := n3) (P := fun i4 => G z mX12_copies (d) 0 0 3 [none, some (.ref 59), some (.ref 62), some (.int (nI n3)), some (.int (nI i4))] [] (mrow M 62 (k_copies_L6_L6_3 (M.1 59) (M.1 62) n3 i4)) Q) ?_ ?_ 0 (Nat.zero_le _)
  · skip
    refine G.sl [(.iload 4, 2, 4, 0, 0, 0), (.iload_n 3, 1, 3, 0, 0, 0)] [] (pc2 := 6) (ls2 := [none, some (.ref 59), some (.ref 62), some (.int (nI n3)), some (.int (nI n3))]) (st2 := [.int (nI n3), .int (nI n3)]) (M2 := mrow M 62 (k_copies_L6_L6_3 (M.1 59) (M.1 62) n3 n3)) (Ps := []) (by decide +kernel) rfl rfl trivial ?_
    refine G.ic_ge (off := (17)) (tgt := 23) (by decide +kernel) rfl (fun _ => ?_) (fun h9 => absurd (nI_le (by omega) (by omega)) h9)
    refine G.loc (ls2 := [none, none, none, none, none]) (by simp [subL]) ?_
    exact hX
  · skip
    intro i4 hi ih
    have hk := hk i4 hi
    simp only [k_copies_L6_L6_3_ok] at hk
    show G z mX12_copies (d) 0 0 3 [none, some (.ref 59), some (.ref 62), some (.int (nI n3)), some (.int (nI i4))] [] (mrow M 62 (k_copies_L6_L6_3 (M.1 59) (M.1 62) n3 i4)) Q
    refine G.sl [(.iload 4, 2, 4, 0, 0, 0), (.iload_n 3, 1, 3, 0, 0, 0)] [] (pc2 := 6) (ls2 := [none, some (.ref 59), some (.ref 62), some (.int (nI n3)), some (.int (nI i4))]) (st2 := [.int (nI n3), .int (nI i4)]) (M2 := mrow M 62 (k_copies_L6_L6_3 (M.1 59) (M.1 62) n3 i4)) (Ps := []) (by decide +kernel) rfl rfl trivial ?_
    refine G.ic_ge (off := (17)) (tgt := 23) (by decide +kernel) rfl (fun h9 => absurd h9 (nI_ge (by omega) (by omega))) (fun _ => ?_)
    obtain ⟨k1, hk⟩ := hk
    refine G.sl [(.aload_n 2, 1, 2, 0, 0, 0), (.iload 4, 2, 4, 0, 0, 0), (.aload_n 1, 1, 1, 0, 0, 0), (.iload 4, 2, 4, 0, 0, 0), (.iaload, 1, 0, 0, 0, 0), (.iastore, 1, 0, 0, 0, 0), (.iinc 4 1, 3, 4, 0, 0, nI 1), (.goto (-17), 3, 3, 0, 0, 0)] [i4, i4] (pc2 := 3) (ls2 := [none, some (.ref 59), some (.ref 62), some (.int (nI n3)), some (.int ((nI i4) + nI 1))]) (st2 := []) (M2 := mput (mrow M 62 (k_copies_L6_L6_3 (M.1 59) (M.1 62) n3 i4)) 62 i4 (M.1 59 i4)) (Ps := [(nI i4) = nI i4 ∧ i4 < 6, (nI i4) = nI i4 ∧ i4 < 6]) (by decide +kernel) rfl rfl ⟨⟨rfl, k1⟩, ⟨rfl, k1⟩, trivial⟩ ?_
    refine G.mem (M' := mrow M 62 (upd (k_copies_L6_L6_3 (M.1 59) (M.1 62) n3 i4) i4 (M.1 59 i4))) (by first | rfl | (simp only [mput, mrow_same, mrow_hit, mrow_miss, mrow_sw, idr_eq, ne_eq, Nat.reduceEqDiff, not_false_eq_true, Nat.reduceLT, reduceCtorEq]; done)) ?_
    rw [nI_add i4 1]
    simp only [k_copies_L6_L6_3] at ih
    exact ih
set_option maxHeartbeats 4000000 in
set_option maxRecDepth 3000 in
theorem c_k_copies_L6_L6_54_59_62 (z : Zp) (d : Nat) (M : Mem) (n3 : Nat) (b3 : n3 < 3000) (hk : k_copies_L6_L6_ok (M.1 59) (M.1 62) n3) : GM z mX12_copies (d) [.ref 54, .ref 59, .ref 62, .int (nI n3)] M (fun rs => rs = .inl (none, mrow M 62 ((k_copies_L6_L6 (M.1 59) (M.1 62) n3).2))) := by
  simp only [k_copies_L6_L6_ok] at hk
  refine GM.of oX12_copies.1 (Nat.le_of_ble_eq_true rfl) ?_
  show G z mX12_copies (d) 0 0 0 [some (.ref 54), some (.ref 59), some (.ref 62), some (.int (nI n3)), none] [] M _
  obtain ⟨Q, hQ⟩ : ∃ Q : Rs → Prop, Q = (fun rs => rs = .inl (none, mrow M 62 ((k_copies_L6_L6 (M.1 59) (M.1 62) n3).2))) := ⟨_, rfl⟩
  rw [← hQ]
  refine G.sl [(.iconst 0, 1, 0, 0, 0, nI 0), (.istore 4, 2, 4, 0, 0, 0)] [] (pc2 := 3) (ls2 := [some (.ref 54), some (.ref 59), some (.ref 62), some (.int (nI n3)), some (.int (nI 0))]) (st2 := []) (M2 := M) (Ps := []) (by decide +kernel) rfl rfl trivial ?_
  refine G.loc (ls2 := [none, some (.ref 59), some (.ref 62), some (.int (nI n3)), some (.int (nI 0))]) (by simp [subL]) ?_
  obtain ⟨k2, hk⟩ := hk
  refine lp_k_copies_L6_L6_54_59_62_3 z d M Q n3 (by omega) (by first | (simp only [mput, mrow_same, mrow_hit, mrow_miss, mrow_sw, idr_eq, ne_eq, Nat.reduceEqDiff, not_false_eq_true, Nat.reduceLT, reduceCtorEq]; exact k2) | exact k2) ?_
  try simp only [mput, mrow_same, mrow_hit, mrow_miss, mrow_sw, idr_eq, ne_eq, Nat.reduceEqDiff, not_false_eq_true, Nat.reduceLT, reduceCtorEq]
  show G z mX12_copies (d) 0 0 23 [none, none, none, none, none] [] (mrow M 62 (k_copies_L6_L6_3 (M.1 59) (M.1 62) n3 n3)) Q
  exact G.retv (by decide +kernel) rfl (Nat.le_of_ble_eq_true rfl) (Nat.le_of_ble_eq_true rfl) ((by rw [hQ]; simp only [k_copies_L6_L6, mrow_self]))
set_option maxHeartbeats 4000000 in
set_option maxRecDepth 3000 in
theorem lp_k_sets_54_101 (z : Zp) (d : Nat) (M : Mem) (Q : Rs → Prop) (nn : Nat) (hnn : nn = 8) (hX : G z mX12_sets (d + 1) 0 0 120 [some (.ref 54), none] [] (mrow M 75 (k_sets_101 (M.1 75) nn)) Q) : G z mX12_sets (d + 1) 0 0 101 [some (.ref 54), some (.int (nI 0))] [] M Q := by
  refine G.mem (M' := mrow M 75 (M.1 75)) (by simp only [mrow_self]) ?_
  refine down (n := nn) (P := fun i1 => G z mX12_sets (d + 1) 0 0 101 [some (.ref 54), some (.int (nI i1))] [] (mrow M 75 (k_sets_101 (M.1 75) i1)) Q) ?_ ?_ 0 (Nat.zero_le _)
  · skip
    refine G.sl [(.iload_n 1, 1, 1, 0, 0, 0), (.bipush 8, 2, 0, 0, 0, nI 8)] [] (pc2 := 104) (ls2 := [some (.ref 54), some (.int (nI nn))]) (st2 := [.int (nI 8), .int (nI nn)]) (M2 := mrow M 75 (k_sets_101 (M.1 75) nn)) (Ps := []) (by decide +kernel) rfl rfl trivial ?_
    refine G.ic_ge (off := (16)) (tgt := 120) (by decide +kernel) rfl (fun _ => ?_) (fun h9 => absurd (nI_le (by omega) (by omega)) h9)
    refine G.loc (ls2 := [some (.ref 54), none]) (by simp [subL]) ?_
    exact hX
  · skip
    intro i1 hi ih
    show G z mX12_sets (d + 1) 0 0 101 [some (.ref 54), some (.int (nI i1))] [] (mrow M 75 (k_sets_101 (M.1 75) i1)) Q
    refine G.sl [(.iload_n 1, 1, 1, 0, 0, 0), (.bipush 8, 2, 0, 0, 0, nI 8)] [] (pc2 := 104) (ls2 := [some (.ref 54), some (.int (nI i1))]) (st2 := [.int (nI 8), .int (nI i1)]) (M2 := mrow M 75 (k_sets_101 (M.1 75) i1)) (Ps := []) (by decide +kernel) rfl rfl trivial ?_
    refine G.ic_ge (off := (16)) (tgt := 120) (by decide +kernel) rfl (fun h9 => absurd h9 (nI_ge (by omega) (by omega))) (fun _ => ?_)
    refine G.sl [(.aload_n 0, 1, 0, 0, 0, 0), (.getfield 77, 3, 11, 44, 167, 0), (.iload_n 1, 1, 1, 0, 0, 0), (.iconst (-1), 1, 0, 0, 0, (-1)), (.iastore, 1, 0, 0, 0, 0), (.iinc 1 1, 3, 1, 0, 0, nI 1), (.goto (-16), 3, 101, 0, 0, 0)] [i1] (pc2 := 101) (ls2 := [some (.ref 54), some (.int ((nI i1) + nI 1))]) (st2 := []) (M2 := mput (mrow M 75 (k_sets_101 (M.1 75) i1)) 75 i1 ((-1))) (Ps := [(nI i1) = nI i1 ∧ i1 < 8]) (by decide +kernel) rfl rfl ⟨⟨rfl, (by omega)⟩, trivial⟩ ?_
    refine G.mem (M' := mrow M 75 (upd (k_sets_101 (M.1 75) i1) i1 ((-1)))) (by first | rfl | (simp only [mput, mrow_same, mrow_hit, mrow_miss, mrow_sw, idr_eq, ne_eq, Nat.reduceEqDiff, not_false_eq_true, Nat.reduceLT, reduceCtorEq]; done)) ?_
    rw [nI_add i1 1]
    simp only [k_sets_101] at ih
    exact ih
set_option maxHeartbeats 4000000 in
set_option maxRecDepth 3000 in
theorem lp_k_sets_54_122 (z : Zp) (d : Nat) (M : Mem) (Q : Rs → Prop) (nn : Nat) (hnn : nn = 51) (hX : G z mX12_sets (d + 1) 0 0 141 [some (.ref 54), none] [] (mrow M 71 (k_sets_122 (M.1 71) nn)) Q) : G z mX12_sets (d + 1) 0 0 122 [some (.ref 54), some (.int (nI 0))] [] M Q := by
  refine G.mem (M' := mrow M 71 (M.1 71)) (by simp only [mrow_self]) ?_
  refine down (n := nn) (P := fun i1 => G z mX12_sets (d + 1) 0 0 122 [some (.ref 54), some (.int (nI i1))] [] (mrow M 71 (k_sets_122 (M.1 71) i1)) Q) ?_ ?_ 0 (Nat.zero_le _)
  · skip
    refine G.sl [(.iload_n 1, 1, 1, 0, 0, 0), (.bipush 51, 2, 0, 0, 0, nI 51)] [] (pc2 := 125) (ls2 := [some (.ref 54), some (.int (nI nn))]) (st2 := [.int (nI 51), .int (nI nn)]) (M2 := mrow M 71 (k_sets_122 (M.1 71) nn)) (Ps := []) (by decide +kernel) rfl rfl trivial ?_
    refine G.ic_ge (off := (16)) (tgt := 141) (by decide +kernel) rfl (fun _ => ?_) (fun h9 => absurd (nI_le (by omega) (by omega)) h9)
    refine G.loc (ls2 := [some (.ref 54), none]) (by simp [subL]) ?_
    exact hX
  · skip
    intro i1 hi ih
    show G z mX12_sets (d + 1) 0 0 122 [some (.ref 54), some (.int (nI i1))] [] (mrow M 71 (k_sets_122 (M.1 71) i1)) Q
    refine G.sl [(.iload_n 1, 1, 1, 0, 0, 0), (.bipush 51, 2, 0, 0, 0, nI 51)] [] (pc2 := 125) (ls2 := [some (.ref 54), some (.int (nI i1))]) (st2 := [.int (nI 51), .int (nI i1)]) (M2 := mrow M 71 (k_sets_122 (M.1 71) i1)) (Ps := []) (by decide +kernel) rfl rfl trivial ?_
    refine G.ic_ge (off := (16)) (tgt := 141) (by decide +kernel) rfl (fun h9 => absurd h9 (nI_ge (by omega) (by omega))) (fun _ => ?_)
    refine G.sl [(.aload_n 0, 1, 0, 0, 0, 0), (.getfield 65, 3, 11, 40, 163, 0), (.iload_n 1, 1, 1, 0, 0, 0), (.iconst 0, 1, 0, 0, 0, nI 0), (.iastore, 1, 0, 0, 0, 0), (.iinc 1 1, 3, 1, 0, 0, nI 1), (.goto (-16), 3, 122, 0, 0, 0)] [i1] (pc2 := 122) (ls2 := [some (.ref 54), some (.int ((nI i1) + nI 1))]) (st2 := []) (M2 := mput (mrow M 71 (k_sets_122 (M.1 71) i1)) 71 i1 (nI 0)) (Ps := [(nI i1) = nI i1 ∧ i1 < 51]) (by decide +kernel) rfl rfl ⟨⟨rfl, (by omega)⟩, trivial⟩ ?_
    refine G.mem (M' := mrow M 71 (upd (k_sets_122 (M.1 71) i1) i1 (nI 0))) (by first | rfl | (simp only [mput, mrow_same, mrow_hit, mrow_miss, mrow_sw, idr_eq, ne_eq, Nat.reduceEqDiff, not_false_eq_true, Nat.reduceLT, reduceCtorEq]; done)) ?_
    rw [nI_add i1 1]
    simp only [k_sets_122] at ih
    exact ih
set_option maxHeartbeats 4000000 in
set_option maxRecDepth 3000 in
theorem lp_k_sets_54_143 (z : Zp) (d : Nat) (M : Mem) (Q : Rs → Prop) (nn : Nat) (nt : Nat) (hnt : nt ≤ 10) (ct : M.1 54 22 = nI nt) (hnn : nn = 10) (hX : G z mX12_sets (d + 1) 0 0 214 [some (.ref 54), none] [] (mrow M 71 (k_sets_143 (M.1 61) (M.1 71) nt nn)) Q) : G z mX12_sets (d + 1) 0 0 143 [some (.ref 54), some (.int (nI 0))] [] M Q := by
  refine G.mem (M' := mrow M 71 (M.1 71)) (by simp only [mrow_self]) ?_
  refine down (n := nn) (P := fun i1 => G z mX12_sets (d + 1) 0 0 143 [some (.ref 54), some (.int (nI i1))] [] (mrow M 71 (k_sets_143 (M.1 61) (M.1 71) nt i1)) Q) ?_ ?_ 0 (Nat.zero_le _)
  · skip
    refine G.sl [(.iload_n 1, 1, 1, 0, 0, 0), (.bipush 10, 2, 0, 0, 0, nI 10)] [] (pc2 := 146) (ls2 := [some (.ref 54), some (.int (nI nn))]) (st2 := [.int (nI 10), .int (nI nn)]) (M2 := mrow M 71 (k_sets_143 (M.1 61) (M.1 71) nt nn)) (Ps := []) (by decide +kernel) rfl rfl trivial ?_
    refine G.ic_ge (off := (68)) (tgt := 214) (by decide +kernel) rfl (fun _ => ?_) (fun h9 => absurd (nI_le (by omega) (by omega)) h9)
    refine G.loc (ls2 := [some (.ref 54), none]) (by simp [subL]) ?_
    exact hX
  · skip
    intro i1 hi ih
    show G z mX12_sets (d + 1) 0 0 143 [some (.ref 54), some (.int (nI i1))] [] (mrow M 71 (k_sets_143 (M.1 61) (M.1 71) nt i1)) Q
    refine G.sl [(.iload_n 1, 1, 1, 0, 0, 0), (.bipush 10, 2, 0, 0, 0, nI 10)] [] (pc2 := 146) (ls2 := [some (.ref 54), some (.int (nI i1))]) (st2 := [.int (nI 10), .int (nI i1)]) (M2 := mrow M 71 (k_sets_143 (M.1 61) (M.1 71) nt i1)) (Ps := []) (by decide +kernel) rfl rfl trivial ?_
    refine G.ic_ge (off := (68)) (tgt := 214) (by decide +kernel) rfl (fun h9 => absurd h9 (nI_ge (by omega) (by omega))) (fun _ => ?_)
    refine G.sl [(.aload_n 0, 1, 0, 0, 0, 0), (.getfield 65, 3, 11, 40, 163, 0), (.iconst 0, 1, 0, 0, 0, nI 0), (.iload_n 1, 1, 1, 0, 0, 0), (.iadd, 1, 0, 0, 0, 0), (.iload_n 1, 1, 1, 0, 0, 0), (.aload_n 0, 1, 0, 0, 0, 0), (.getfield 162, 3, 11, 22, 145, 0)] [] (pc2 := 161) (ls2 := [some (.ref 54), some (.int (nI i1))]) (st2 := [.int (M.1 54 22), .int (nI i1), .int ((nI 0) + (nI i1)), .ref 71]) (M2 := mrow M 71 (k_sets_143 (M.1 61) (M.1 71) nt i1)) (Ps := []) (by decide +kernel) rfl rfl trivial ?_
    rw [ct]
    refine G.ic_ge (off := (14)) (tgt := 175) (by decide +kernel) rfl (fun c21 => ?_) (fun c21 => ?_)
    · skip
      refine G.sl [(.iconst 0, 1, 0, 0, 0, nI 0), (.iastore, 1, 0, 0, 0, 0), (.aload_n 0, 1, 0, 0, 0, 0), (.getfield 65, 3, 11, 40, 163, 0), (.bipush 10, 2, 0, 0, 0, nI 10), (.iload_n 1, 1, 1, 0, 0, 0), (.iadd, 1, 0, 0, 0, 0), (.iload_n 1, 1, 1, 0, 0, 0), (.aload_n 0, 1, 0, 0, 0, 0), (.getfield 162, 3, 11, 22, 145, 0)] [0 + i1] (pc2 := 190) (ls2 := [some (.ref 54), some (.int (nI i1))]) (st2 := [.int (M.1 54 22), .int (nI i1), .int ((nI 10) + (nI i1)), .ref 71]) (M2 := mput (mrow M 71 (k_sets_143 (M.1 61) (M.1 71) nt i1)) 71 (0 + i1) (nI 0)) (Ps := [((nI 0) + (nI i1)) = nI (0 + i1) ∧ (0 + i1) < 51]) (by decide +kernel) rfl rfl ⟨⟨(nI_add _ _), (by omega)⟩, trivial⟩ ?_
      refine G.mem (M' := mrow M 71 (upd (k_sets_143 (M.1 61) (M.1 71) nt i1) (0 + i1) (nI 0))) (by first | rfl | (simp only [mput, mrow_same, mrow_hit, mrow_miss, mrow_sw, idr_eq, ne_eq, Nat.reduceEqDiff, not_false_eq_true, Nat.reduceLT, reduceCtorEq]; done)) ?_
      rw [ct]
      refine G.ic_ge (off := (16)) (tgt := 206) (by decide +kernel) rfl (fun _ => ?_) (fun h9 => absurd c21 h9)
      refine G.sl [(.iconst (-1), 1, 0, 0, 0, (-1)), (.iastore, 1, 0, 0, 0, 0), (.iinc 1 1, 3, 1, 0, 0, nI 1), (.goto (-68), 3, 143, 0, 0, 0)] [10 + i1] (pc2 := 143) (ls2 := [some (.ref 54), some (.int ((nI i1) + nI 1))]) (st2 := []) (M2 := mput (mrow M 71 (upd (k_sets_143 (M.1 61) (M.1 71) nt i1) (0 + i1) (nI 0))) 71 (10 + i1) ((-1))) (Ps := [((nI 10) + (nI i1)) = nI (10 + i1) ∧ (10 + i1) < 51]) (by decide +kernel) rfl rfl ⟨⟨(nI_add _ _), (by omega)⟩, trivial⟩ ?_
      refine G.mem (M' := mrow M 71 (upd (upd (k_sets_143 (M.1 61) (M.1 71) nt i1) (0 + i1) (nI 0)) (10 + i1) ((-1)))) (by first | rfl | (simp only [mput, mrow_same, mrow_hit, mrow_miss, mrow_sw, idr_eq, ne_eq, Nat.reduceEqDiff, not_false_eq_true, Nat.reduceLT, reduceCtorEq]; done)) ?_
      rw [nI_add i1 1]
      simp only [k_sets_143, if_pos c21] at ih
      exact ih
    · skip
      refine G.sl [(.aload_n 0, 1, 0, 0, 0, 0), (.getfield 35, 3, 11, 14, 137, 0), (.iconst 3, 1, 0, 0, 0, nI 3), (.iload_n 1, 1, 1, 0, 0, 0), (.imul, 1, 0, 0, 0, 0), (.iaload, 1, 0, 0, 0, 0), (.goto 4, 3, 176, 0, 0, 0), (.iastore, 1, 0, 0, 0, 0), (.aload_n 0, 1, 0, 0, 0, 0), (.getfield 65, 3, 11, 40, 163, 0), (.bipush 10, 2, 0, 0, 0, nI 10), (.iload_n 1, 1, 1, 0, 0, 0), (.iadd, 1, 0, 0, 0, 0), (.iload_n 1, 1, 1, 0, 0, 0), (.aload_n 0, 1, 0, 0, 0, 0), (.getfield 162, 3, 11, 22, 145, 0)] [3 * i1, 0 + i1] (pc2 := 190) (ls2 := [some (.ref 54), some (.int (nI i1))]) (st2 := [.int (M.1 54 22), .int (nI i1), .int ((nI 10) + (nI i1)), .ref 71]) (M2 := mput (mrow M 71 (k_sets_143 (M.1 61) (M.1 71) nt i1)) 71 (0 + i1) (M.1 61 (3 * i1))) (Ps := [((nI 3) * (nI i1)) = nI (3 * i1) ∧ (3 * i1) < 30, ((nI 0) + (nI i1)) = nI (0 + i1) ∧ (0 + i1) < 51]) (by decide +kernel) rfl rfl ⟨⟨(pk_mul _ _), (by omega)⟩, ⟨(nI_add _ _), (by omega)⟩, trivial⟩ ?_
      refine G.mem (M' := mrow M 71 (upd (k_sets_143 (M.1 61) (M.1 71) nt i1) (0 + i1) (M.1 61 (3 * i1)))) (by first | rfl | (simp only [mput, mrow_same, mrow_hit, mrow_miss, mrow_sw, idr_eq, ne_eq, Nat.reduceEqDiff, not_false_eq_true, Nat.reduceLT, reduceCtorEq]; done)) ?_
      rw [ct]
      refine G.ic_ge (off := (16)) (tgt := 206) (by decide +kernel) rfl (fun h9 => absurd h9 c21) (fun _ => ?_)
      refine G.sl [(.aload_n 0, 1, 0, 0, 0, 0), (.getfield 35, 3, 11, 14, 137, 0), (.iconst 3, 1, 0, 0, 0, nI 3), (.iload_n 1, 1, 1, 0, 0, 0), (.imul, 1, 0, 0, 0, 0), (.iconst 1, 1, 0, 0, 0, nI 1), (.iadd, 1, 0, 0, 0, 0), (.iaload, 1, 0, 0, 0, 0), (.goto 4, 3, 207, 0, 0, 0), (.iastore, 1, 0, 0, 0, 0), (.iinc 1 1, 3, 1, 0, 0, nI 1), (.goto (-68), 3, 143, 0, 0, 0)] [(3 * i1) + 1, 10 + i1] (pc2 := 143) (ls2 := [some (.ref 54), some (.int ((nI i1) + nI 1))]) (st2 := []) (M2 := mput (mrow M 71 (upd (k_sets_143 (M.1 61) (M.1 71) nt i1) (0 + i1) (M.1 61 (3 * i1)))) 71 (10 + i1) (M.1 61 ((3 * i1) + 1))) (Ps := [(((nI 3) * (nI i1)) + (nI 1)) = nI ((3 * i1) + 1) ∧ ((3 * i1) + 1) < 30, ((nI 10) + (nI i1)) = nI (10 + i1) ∧ (10 + i1) < 51]) (by decide +kernel) rfl rfl ⟨⟨(nAdd (pk_mul _ _) rfl), (by omega)⟩, ⟨(nI_add _ _), (by omega)⟩, trivial⟩ ?_
      refine G.mem (M' := mrow M 71 (upd (upd (k_sets_143 (M.1 61) (M.1 71) nt i1) (0 + i1) (M.1 61 (3 * i1))) (10 + i1) (M.1 61 ((3 * i1) + 1)))) (by first | rfl | (simp only [mput, mrow_same, mrow_hit, mrow_miss, mrow_sw, idr_eq, ne_eq, Nat.reduceEqDiff, not_false_eq_true, Nat.reduceLT, reduceCtorEq]; done)) ?_
      rw [nI_add i1 1]
      simp only [k_sets_143, if_neg c21] at ih
      exact ih
set_option maxHeartbeats 4000000 in
set_option maxRecDepth 3000 in
theorem lp_k_sets_54_216 (z : Zp) (d : Nat) (M : Mem) (Q : Rs → Prop) (nf : Nat) (hnf : nf ≤ 6) (cf : M.1 54 23 = nI nf) (hX : G z mX12_sets (d + 1) 0 0 245 [some (.ref 54), none] [] (mrow M 71 (k_sets_216 (M.1 62) (M.1 71) nf)) Q) : G z mX12_sets (d + 1) 0 0 216 [some (.ref 54), some (.int (nI 0))] [] M Q := by
  refine G.mem (M' := mrow M 71 (M.1 71)) (by simp only [mrow_self]) ?_
  refine down (n := nf) (P := fun i1 => G z mX12_sets (d + 1) 0 0 216 [some (.ref 54), some (.int (nI i1))] [] (mrow M 71 (k_sets_216 (M.1 62) (M.1 71) i1)) Q) ?_ ?_ 0 (Nat.zero_le _)
  · skip
    refine G.sl [(.iload_n 1, 1, 1, 0, 0, 0), (.aload_n 0, 1, 0, 0, 0, 0), (.getfield 165, 3, 11, 23, 146, 0)] [] (pc2 := 221) (ls2 := [some (.ref 54), some (.int (nI nf))]) (st2 := [.int (M.1 54 23), .int (nI nf)]) (M2 := mrow M 71 (k_sets_216 (M.1 62) (M.1 71) nf)) (Ps := []) (by decide +kernel) rfl rfl trivial ?_
    rw [cf]
    refine G.ic_ge (off := (24)) (tgt := 245) (by decide +kernel) rfl (fun _ => ?_) (fun h9 => absurd (nI_le (by omega) (by omega)) h9)
    refine G.loc (ls2 := [some (.ref 54), none]) (by simp [subL]) ?_
    exact hX
  · skip
    intro i1 hi ih
    show G z mX12_sets (d + 1) 0 0 216 [some (.ref 54), some (.int (nI i1))] [] (mrow M 71 (k_sets_216 (M.1 62) (M.1 71) i1)) Q
    refine G.sl [(.iload_n 1, 1, 1, 0, 0, 0), (.aload_n 0, 1, 0, 0, 0, 0), (.getfield 165, 3, 11, 23, 146, 0)] [] (pc2 := 221) (ls2 := [some (.ref 54), some (.int (nI i1))]) (st2 := [.int (M.1 54 23), .int (nI i1)]) (M2 := mrow M 71 (k_sets_216 (M.1 62) (M.1 71) i1)) (Ps := []) (by decide +kernel) rfl rfl trivial ?_
    rw [cf]
    refine G.ic_ge (off := (24)) (tgt := 245) (by decide +kernel) rfl (fun h9 => absurd h9 (nI_ge (by omega) (by omega))) (fun _ => ?_)
    refine G.sl [(.aload_n 0, 1, 0, 0, 0, 0), (.getfield 65, 3, 11, 40, 163, 0), (.bipush 20, 2, 0, 0, 0, nI 20), (.iload_n 1, 1, 1, 0, 0, 0), (.iadd, 1, 0, 0, 0, 0), (.aload_n 0, 1, 0, 0, 0, 0), (.getfield 38, 3, 11, 15, 138, 0), (.iload_n 1, 1, 1, 0, 0, 0), (.iaload, 1, 0, 0, 0, 0), (.iastore, 1, 0, 0, 0, 0), (.iinc 1 1, 3, 1, 0, 0, nI 1), (.goto (-26), 3, 216, 0, 0, 0)] [i1, 20 + i1] (pc2 := 216) (ls2 := [some (.ref 54), some (.int ((nI i1) + nI 1))]) (st2 := []) (M2 := mput (mrow M 71 (k_sets_216 (M.1 62) (M.1 71) i1)) 71 (20 + i1) (M.1 62 i1)) (Ps := [(nI i1) = nI i1 ∧ i1 < 6, ((nI 20) + (nI i1)) = nI (20 + i1) ∧ (20 + i1) < 51]) (by decide +kernel) rfl rfl ⟨⟨rfl, (by omega)⟩, ⟨(nI_add _ _), (by omega)⟩, trivial⟩ ?_
    refine G.mem (M' := mrow M 71 (upd (k_sets_216 (M.1 62) (M.1 71) i1) (20 + i1) (M.1 62 i1))) (by first | rfl | (simp only [mput, mrow_same, mrow_hit, mrow_miss, mrow_sw, idr_eq, ne_eq, Nat.reduceEqDiff, not_false_eq_true, Nat.reduceLT, reduceCtorEq]; done)) ?_
    rw [nI_add i1 1]
    simp only [k_sets_216] at ih
    exact ih
set_option maxHeartbeats 4000000 in
set_option maxRecDepth 3000 in
theorem lp_k_layFar_54_2 (z : Zp) (d : Nat) (M : Mem) (Q : Rs → Prop) (nn : Nat) (hnn : nn = 64) (hX : G z mX12_layFar (d) 0 0 38 [some (.ref 54), none, none, none, none, none, none, none] [] (mrow M 76 (k_layFar_2 (M.1 76) nn)) Q) : G z mX12_layFar (d) 0 0 2 [some (.ref 54), some (.int (nI 0)), none, none, none, none, none, none] [] M Q := by
  refine G.mem (M' := mrow M 76 (M.1 76)) (by simp only [mrow_self]) ?_
  refine down (n := nn) (P := fun i1 => G z mX12_layFar (d) 0 0 2 [some (.ref 54), some (.int (nI i1)), none, none, none, none, none, none] [] (mrow M 76 (k_layFar_2 (M.1 76) i1)) Q) ?_ ?_ 0 (Nat.zero_le _)
  · skip
    refine G.sl [(.iload_n 1, 1, 1, 0, 0, 0), (.bipush 64, 2, 0, 0, 0, nI 64)] [] (pc2 := 5) (ls2 := [some (.ref 54), some (.int (nI nn)), none, none, none, none, none, none]) (st2 := [.int (nI 64), .int (nI nn)]) (M2 := mrow M 76 (k_layFar_2 (M.1 76) nn)) (Ps := []) (by decide +kernel) rfl rfl trivial ?_
    refine G.ic_ge (off := (33)) (tgt := 38) (by decide +kernel) rfl (fun _ => ?_) (fun h9 => absurd (nI_le (by omega) (by omega)) h9)
    refine G.loc (ls2 := [some (.ref 54), none, none, none, none, none, none, none]) (by simp [subL]) ?_
    exact hX
  · skip
    intro i1 hi ih
    show G z mX12_layFar (d) 0 0 2 [some (.ref 54), some (.int (nI i1)), none, none, none, none, none, none] [] (mrow M 76 (k_layFar_2 (M.1 76) i1)) Q
    refine G.sl [(.iload_n 1, 1, 1, 0, 0, 0), (.bipush 64, 2, 0, 0, 0, nI 64)] [] (pc2 := 5) (ls2 := [some (.ref 54), some (.int (nI i1)), none, none, none, none, none, none]) (st2 := [.int (nI 64), .int (nI i1)]) (M2 := mrow M 76 (k_layFar_2 (M.1 76) i1)) (Ps := []) (by decide +kernel) rfl rfl trivial ?_
    refine G.ic_ge (off := (33)) (tgt := 38) (by decide +kernel) rfl (fun h9 => absurd h9 (nI_ge (by omega) (by omega))) (fun _ => ?_)
    refine G.sl [(.aload_n 0, 1, 0, 0, 0, 0), (.getfield 80, 3, 11, 46, 169, 0), (.iload_n 1, 1, 1, 0, 0, 0), (.iload_n 1, 1, 1, 0, 0, 0), (.bipush 8, 2, 0, 0, 0, nI 8), (.idiv, 1, 0, 0, 0, 0), (.iload_n 1, 1, 1, 0, 0, 0), (.bipush 8, 2, 0, 0, 0, nI 8), (.irem, 1, 0, 0, 0, 0)] [] (pc2 := 21) (ls2 := [some (.ref 54), some (.int (nI i1)), none, none, none, none, none, none]) (st2 := [.int ((nI i1) - (nI i1) / (nI 8) * (nI 8)), .int ((nI i1) / (nI 8)), .int (nI i1), .ref 76]) (M2 := mrow M 76 (k_layFar_2 (M.1 76) i1)) (Ps := [¬ (nI 8) = 0, ¬ (nI 8) = 0]) (by decide +kernel) rfl rfl ⟨(by decide), (by decide), trivial⟩ ?_
    refine G.ic_ne (off := (7)) (tgt := 28) (by decide +kernel) rfl (fun c1 => ?_) (fun c1 => ?_)
    · skip
      refine G.sl [(.sipush 9999, 3, 0, 0, 0, nI 9999), (.iastore, 1, 0, 0, 0, 0), (.iinc 1 1, 3, 1, 0, 0, nI 1), (.goto (-33), 3, 2, 0, 0, 0)] [i1] (pc2 := 2) (ls2 := [some (.ref 54), some (.int ((nI i1) + nI 1)), none, none, none, none, none, none]) (st2 := []) (M2 := mput (mrow M 76 (k_layFar_2 (M.1 76) i1)) 76 i1 (nI 9999)) (Ps := [(nI i1) = nI i1 ∧ i1 < 64]) (by decide +kernel) rfl rfl ⟨⟨rfl, (by omega)⟩, trivial⟩ ?_
      refine G.mem (M' := mrow M 76 (upd (k_layFar_2 (M.1 76) i1) i1 (nI 9999))) (by first | rfl | (simp only [mput, mrow_same, mrow_hit, mrow_miss, mrow_sw, idr_eq, ne_eq, Nat.reduceEqDiff, not_false_eq_true, Nat.reduceLT, reduceCtorEq]; done)) ?_
      rw [nI_add i1 1]
      simp only [k_layFar_2, if_neg c1] at ih
      exact ih
    · skip
      refine G.sl [(.iconst 0, 1, 0, 0, 0, nI 0), (.goto 6, 3, 31, 0, 0, 0), (.iastore, 1, 0, 0, 0, 0), (.iinc 1 1, 3, 1, 0, 0, nI 1), (.goto (-33), 3, 2, 0, 0, 0)] [i1] (pc2 := 2) (ls2 := [some (.ref 54), some (.int ((nI i1) + nI 1)), none, none, none, none, none, none]) (st2 := []) (M2 := mput (mrow M 76 (k_layFar_2 (M.1 76) i1)) 76 i1 (nI 0)) (Ps := [(nI i1) = nI i1 ∧ i1 < 64]) (by decide +kernel) rfl rfl ⟨⟨rfl, (by omega)⟩, trivial⟩ ?_
      refine G.mem (M' := mrow M 76 (upd (k_layFar_2 (M.1 76) i1) i1 (nI 0))) (by first | rfl | (simp only [mput, mrow_same, mrow_hit, mrow_miss, mrow_sw, idr_eq, ne_eq, Nat.reduceEqDiff, not_false_eq_true, Nat.reduceLT, reduceCtorEq]; done)) ?_
      rw [nI_add i1 1]
      simp only [k_layFar_2, if_pos c1] at ih
      exact ih
set_option maxHeartbeats 4000000 in
set_option maxRecDepth 3000 in
theorem lp_k_layFar_54_80 (z : Zp) (d : Nat) (M : Mem) (Q : Rs → Prop) (n1 : Nat) (n2 : Nat) (x3 : Int32) (x4 : Int32) (np : Nat) (hnp : np ≤ 8) (cp : M.1 54 20 = nI np) (b1 : n1 < 8) (b2 : n2 < 12) (hk : ∀ i5, i5 < np → k_layFar_80_ok (M.1 60) (M.1 76) n1 n2 x3 x4 i5) (hX : G z mX12_layFar (d) 0 0 210 [some (.ref 54), some (.int (nI n1)), some (.int (nI n2)), none, none, none, none, none] [] (mrow M 76 (k_layFar_80 (M.1 60) (M.1 76) n1 n2 x3 x4 np)) Q) : G z mX12_layFar (d) 0 0 80 [some (.ref 54), some (.int (nI n1)), some (.int (nI n2)), some (.int x3), some (.int x4), some (.int (nI 0)), none, none] [] M Q := by
  refine G.mem (M' := mrow M 76 (M.1 76)) (by simp only [mrow_self]) ?_
  refine down (n := np) (P := fun i5 => G z mX12_layFar (d) 0 0 80 [some (.ref 54), some (.int (nI n1)), some (.int (nI n2)), some (.int x3), some (.int x4), some (.int (nI i5)), none, none] [] (mrow M 76 (k_layFar_80 (M.1 60) (M.1 76) n1 n2 x3 x4 i5)) Q) ?_ ?_ 0 (Nat.zero_le _)
  · skip
    refine G.sl [(.iload 5, 2, 5, 0, 0, 0), (.aload_n 0, 1, 0, 0, 0, 0), (.getfield 156, 3, 11, 20, 143, 0)] [] (pc2 := 86) (ls2 := [some (.ref 54), some (.int (nI n1)), some (.int (nI n2)), some (.int x3), some (.int x4), some (.int (nI np)), none, none]) (st2 := [.int (M.1 54 20), .int (nI np)]) (M2 := mrow M 76 (k_layFar_80 (M.1 60) (M.1 76) n1 n2 x3 x4 np)) (Ps := []) (by decide +kernel) rfl rfl trivial ?_
    rw [cp]
    refine G.ic_ge (off := (124)) (tgt := 210) (by decide +kernel) rfl (fun _ => ?_) (fun h9 => absurd (nI_le (by omega) (by omega)) h9)
    refine G.loc (ls2 := [some (.ref 54), some (.int (nI n1)), some (.int (nI n2)), none, none, none, none, none]) (by simp [subL]) ?_
    exact hX
  · skip
    intro i5 hi ih
    have hk := hk i5 hi
    simp only [k_layFar_80_ok] at hk
    show G z mX12_layFar (d) 0 0 80 [some (.ref 54), some (.int (nI n1)), some (.int (nI n2)), some (.int x3), some (.int x4), some (.int (nI i5)), none, none] [] (mrow M 76 (k_layFar_80 (M.1 60) (M.1 76) n1 n2 x3 x4 i5)) Q
    refine G.sl [(.iload 5, 2, 5, 0, 0, 0), (.aload_n 0, 1, 0, 0, 0, 0), (.getfield 156, 3, 11, 20, 143, 0)] [] (pc2 := 86) (ls2 := [some (.ref 54), some (.int (nI n1)), some (.int (nI n2)), some (.int x3), some (.int x4), some (.int (nI i5)), none, none]) (st2 := [.int (M.1 54 20), .int (nI i5)]) (M2 := mrow M 76 (k_layFar_80 (M.1 60) (M.1 76) n1 n2 x3 x4 i5)) (Ps := []) (by decide +kernel) rfl rfl trivial ?_
    rw [cp]
    refine G.ic_ge (off := (124)) (tgt := 210) (by decide +kernel) rfl (fun h9 => absurd h9 (nI_ge (by omega) (by omega))) (fun _ => ?_)
    obtain ⟨k3, k4, k5, k6, hk⟩ := hk
    refine G.sl [(.aload_n 0, 1, 0, 0, 0, 0), (.getfield 80, 3, 11, 46, 169, 0), (.bipush 8, 2, 0, 0, 0, nI 8), (.iload 5, 2, 5, 0, 0, 0), (.imul, 1, 0, 0, 0, 0), (.iload_n 3, 1, 3, 0, 0, 0), (.iadd, 1, 0, 0, 0, 0), (.iaload, 1, 0, 0, 0, 0), (.aload_n 0, 1, 0, 0, 0, 0), (.getfield 32, 3, 11, 13, 136, 0), (.iconst 3, 1, 0, 0, 0, nI 3), (.iload_n 2, 1, 2, 0, 0, 0), (.imul, 1, 0, 0, 0, 0), (.iconst 2, 1, 0, 0, 0, nI 2), (.iadd, 1, 0, 0, 0, 0), (.iaload, 1, 0, 0, 0, 0), (.iadd, 1, 0, 0, 0, 0), (.istore 6, 2, 6, 0, 0, 0), (.aload_n 0, 1, 0, 0, 0, 0), (.getfield 80, 3, 11, 46, 169, 0), (.bipush 8, 2, 0, 0, 0, nI 8), (.iload 5, 2, 5, 0, 0, 0), (.imul, 1, 0, 0, 0, 0), (.iload 4, 2, 4, 0, 0, 0), (.iadd, 1, 0, 0, 0, 0), (.iaload, 1, 0, 0, 0, 0), (.aload_n 0, 1, 0, 0, 0, 0), (.getfield 32, 3, 11, 13, 136, 0), (.iconst 3, 1, 0, 0, 0, nI 3), (.iload_n 2, 1, 2, 0, 0, 0), (.imul, 1, 0, 0, 0, 0), (.iconst 2, 1, 0, 0, 0, nI 2), (.iadd, 1, 0, 0, 0, 0), (.iaload, 1, 0, 0, 0, 0), (.iadd, 1, 0, 0, 0, 0), (.istore 7, 2, 7, 0, 0, 0), (.iload 6, 2, 6, 0, 0, 0), (.aload_n 0, 1, 0, 0, 0, 0), (.getfield 80, 3, 11, 46, 169, 0), (.bipush 8, 2, 0, 0, 0, nI 8), (.iload 5, 2, 5, 0, 0, 0), (.imul, 1, 0, 0, 0, 0), (.iload 4, 2, 4, 0, 0, 0), (.iadd, 1, 0, 0, 0, 0), (.iaload, 1, 0, 0, 0, 0)] [(8 * i5) + (ix x3), (3 * n2) + 2, (8 * i5) + (ix x4), (3 * n2) + 2, (8 * i5) + (ix x4)] (pc2 := 155) (ls2 := [some (.ref 54), some (.int (nI n1)), some (.int (nI n2)), some (.int x3), some (.int x4), some (.int (nI i5)), some (.int (((k_layFar_80 (M.1 60) (M.1 76) n1 n2 x3 x4 i5) ((8 * i5) + (ix x3))) + (M.1 60 ((3 * n2) + 2)))), some (.int (((k_layFar_80 (M.1 60) (M.1 76) n1 n2 x3 x4 i5) ((8 * i5) + (ix x4))) + (M.1 60 ((3 * n2) + 2))))]) (st2 := [.int ((k_layFar_80 (M.1 60) (M.1 76) n1 n2 x3 x4 i5) ((8 * i5) + (ix x4))), .int (((k_layFar_80 (M.1 60) (M.1 76) n1 n2 x3 x4 i5) ((8 * i5) + (ix x3))) + (M.1 60 ((3 * n2) + 2)))]) (M2 := mrow M 76 (k_layFar_80 (M.1 60) (M.1 76) n1 n2 x3 x4 i5)) (Ps := [(((nI 8) * (nI i5)) + x3) = nI ((8 * i5) + (ix x3)) ∧ ((8 * i5) + (ix x3)) < 64, (((nI 3) * (nI n2)) + (nI 2)) = nI ((3 * n2) + 2) ∧ ((3 * n2) + 2) < 36, (((nI 8) * (nI i5)) + x4) = nI ((8 * i5) + (ix x4)) ∧ ((8 * i5) + (ix x4)) < 64, (((nI 3) * (nI n2)) + (nI 2)) = nI ((3 * n2) + 2) ∧ ((3 * n2) + 2) < 36, (((nI 8) * (nI i5)) + x4) = nI ((8 * i5) + (ix x4)) ∧ ((8 * i5) + (ix x4)) < 64]) (by decide +kernel) rfl rfl ⟨⟨(nAdd (pk_mul _ _) (ixE k3)), k4⟩, ⟨(nAdd (pk_mul _ _) rfl), (by omega)⟩, ⟨(nAdd (pk_mul _ _) (ixE k5)), k6⟩, ⟨(nAdd (pk_mul _ _) rfl), (by omega)⟩, ⟨(nAdd (pk_mul _ _) (ixE k5)), k6⟩, trivial⟩ ?_
    refine G.ic_ge (off := (18)) (tgt := 173) (by decide +kernel) rfl (fun c7 => ?_) (fun c7 => ?_)
    · skip
      refine G.sl [(.iload 7, 2, 7, 0, 0, 0), (.aload_n 0, 1, 0, 0, 0, 0), (.getfield 80, 3, 11, 46, 169, 0), (.bipush 8, 2, 0, 0, 0, nI 8), (.iload 5, 2, 5, 0, 0, 0), (.imul, 1, 0, 0, 0, 0), (.iload_n 3, 1, 3, 0, 0, 0), (.iadd, 1, 0, 0, 0, 0), (.iaload, 1, 0, 0, 0, 0)] [(8 * i5) + (ix x3)] (pc2 := 187) (ls2 := [some (.ref 54), some (.int (nI n1)), some (.int (nI n2)), some (.int x3), some (.int x4), some (.int (nI i5)), some (.int (((k_layFar_80 (M.1 60) (M.1 76) n1 n2 x3 x4 i5) ((8 * i5) + (ix x3))) + (M.1 60 ((3 * n2) + 2)))), some (.int (((k_layFar_80 (M.1 60) (M.1 76) n1 n2 x3 x4 i5) ((8 * i5) + (ix x4))) + (M.1 60 ((3 * n2) + 2))))]) (st2 := [.int ((k_layFar_80 (M.1 60) (M.1 76) n1 n2 x3 x4 i5) ((8 * i5) + (ix x3))), .int (((k_layFar_80 (M.1 60) (M.1 76) n1 n2 x3 x4 i5) ((8 * i5) + (ix x4))) + (M.1 60 ((3 * n2) + 2)))]) (M2 := mrow M 76 (k_layFar_80 (M.1 60) (M.1 76) n1 n2 x3 x4 i5)) (Ps := [(((nI 8) * (nI i5)) + x3) = nI ((8 * i5) + (ix x3)) ∧ ((8 * i5) + (ix x3)) < 64]) (by decide +kernel) rfl rfl ⟨⟨(nAdd (pk_mul _ _) (ixE k3)), k4⟩, trivial⟩ ?_
      refine G.ic_ge (off := (17)) (tgt := 204) (by decide +kernel) rfl (fun c8 => ?_) (fun c8 => ?_)
      · skip
        refine G.sl [(.iinc 5 1, 3, 5, 0, 0, nI 1), (.goto (-127), 3, 80, 0, 0, 0)] [] (pc2 := 80) (ls2 := [some (.ref 54), some (.int (nI n1)), some (.int (nI n2)), some (.int x3), some (.int x4), some (.int ((nI i5) + nI 1)), some (.int (((k_layFar_80 (M.1 60) (M.1 76) n1 n2 x3 x4 i5) ((8 * i5) + (ix x3))) + (M.1 60 ((3 * n2) + 2)))), some (.int (((k_layFar_80 (M.1 60) (M.1 76) n1 n2 x3 x4 i5) ((8 * i5) + (ix x4))) + (M.1 60 ((3 * n2) + 2))))]) (st2 := []) (M2 := mrow M 76 (k_layFar_80 (M.1 60) (M.1 76) n1 n2 x3 x4 i5)) (Ps := []) (by decide +kernel) rfl rfl trivial ?_
        refine G.loc (ls2 := [some (.ref 54), some (.int (nI n1)), some (.int (nI n2)), some (.int x3), some (.int x4), some (.int ((nI i5) + nI 1)), none, none]) (by simp [subL]) ?_
        rw [nI_add i5 1]
        simp only [k_layFar_80, if_pos c7, if_pos c8] at ih
        exact ih
      · skip
        refine G.sl [(.aload_n 0, 1, 0, 0, 0, 0), (.getfield 80, 3, 11, 46, 169, 0), (.bipush 8, 2, 0, 0, 0, nI 8), (.iload 5, 2, 5, 0, 0, 0), (.imul, 1, 0, 0, 0, 0), (.iload_n 3, 1, 3, 0, 0, 0), (.iadd, 1, 0, 0, 0, 0), (.iload 7, 2, 7, 0, 0, 0), (.iastore, 1, 0, 0, 0, 0), (.iinc 5 1, 3, 5, 0, 0, nI 1), (.goto (-127), 3, 80, 0, 0, 0)] [(8 * i5) + (ix x3)] (pc2 := 80) (ls2 := [some (.ref 54), some (.int (nI n1)), some (.int (nI n2)), some (.int x3), some (.int x4), some (.int ((nI i5) + nI 1)), some (.int (((k_layFar_80 (M.1 60) (M.1 76) n1 n2 x3 x4 i5) ((8 * i5) + (ix x3))) + (M.1 60 ((3 * n2) + 2)))), some (.int (((k_layFar_80 (M.1 60) (M.1 76) n1 n2 x3 x4 i5) ((8 * i5) + (ix x4))) + (M.1 60 ((3 * n2) + 2))))]) (st2 := []) (M2 := mput (mrow M 76 (k_layFar_80 (M.1 60) (M.1 76) n1 n2 x3 x4 i5)) 76 ((8 * i5) + (ix x3)) (((k_layFar_80 (M.1 60) (M.1 76) n1 n2 x3 x4 i5) ((8 * i5) + (ix x4))) + (M.1 60 ((3 * n2) + 2)))) (Ps := [(((nI 8) * (nI i5)) + x3) = nI ((8 * i5) + (ix x3)) ∧ ((8 * i5) + (ix x3)) < 64]) (by decide +kernel) rfl rfl ⟨⟨(nAdd (pk_mul _ _) (ixE k3)), k4⟩, trivial⟩ ?_
        refine G.mem (M' := mrow M 76 (upd (k_layFar_80 (M.1 60) (M.1 76) n1 n2 x3 x4 i5) ((8 * i5) + (ix x3)) (((k_layFar_80 (M.1 60) (M.1 76) n1 n2 x3 x4 i5) ((8 * i5) + (ix x4))) + (M.1 60 ((3 * n2) + 2))))) (by first | rfl | (simp only [mput, mrow_same, mrow_hit, mrow_miss, mrow_sw, idr_eq, ne_eq, Nat.reduceEqDiff, not_false_eq_true, Nat.reduceLT, reduceCtorEq]; done)) ?_
        refine G.loc (ls2 := [some (.ref 54), some (.int (nI n1)), some (.int (nI n2)), some (.int x3), some (.int x4), some (.int ((nI i5) + nI 1)), none, none]) (by simp [subL]) ?_
        rw [nI_add i5 1]
        simp only [k_layFar_80, if_pos c7, if_neg c8] at ih
        exact ih
    · skip
      refine G.sl [(.aload_n 0, 1, 0, 0, 0, 0), (.getfield 80, 3, 11, 46, 169, 0), (.bipush 8, 2, 0, 0, 0, nI 8), (.iload 5, 2, 5, 0, 0, 0), (.imul, 1, 0, 0, 0, 0), (.iload 4, 2, 4, 0, 0, 0), (.iadd, 1, 0, 0, 0, 0), (.iload 6, 2, 6, 0, 0, 0), (.iastore, 1, 0, 0, 0, 0), (.iload 7, 2, 7, 0, 0, 0), (.aload_n 0, 1, 0, 0, 0, 0), (.getfield 80, 3, 11, 46, 169, 0), (.bipush 8, 2, 0, 0, 0, nI 8), (.iload 5, 2, 5, 0, 0, 0), (.imul, 1, 0, 0, 0, 0), (.iload_n 3, 1, 3, 0, 0, 0), (.iadd, 1, 0, 0, 0, 0), (.iaload, 1, 0, 0, 0, 0)] [(8 * i5) + (ix x4), (8 * i5) + (ix x3)] (pc2 := 187) (ls2 := [some (.ref 54), some (.int (nI n1)), some (.int (nI n2)), some (.int x3), some (.int x4), some (.int (nI i5)), some (.int (((k_layFar_80 (M.1 60) (M.1 76) n1 n2 x3 x4 i5) ((8 * i5) + (ix x3))) + (M.1 60 ((3 * n2) + 2)))), some (.int (((k_layFar_80 (M.1 60) (M.1 76) n1 n2 x3 x4 i5) ((8 * i5) + (ix x4))) + (M.1 60 ((3 * n2) + 2))))]) (st2 := [.int ((upd (k_layFar_80 (M.1 60) (M.1 76) n1 n2 x3 x4 i5) ((8 * i5) + (ix x4)) (((k_layFar_80 (M.1 60) (M.1 76) n1 n2 x3 x4 i5) ((8 * i5) + (ix x3))) + (M.1 60 ((3 * n2) + 2)))) ((8 * i5) + (ix x3))), .int (((k_layFar_80 (M.1 60) (M.1 76) n1 n2 x3 x4 i5) ((8 * i5) + (ix x4))) + (M.1 60 ((3 * n2) + 2)))]) (M2 := mput (mrow M 76 (k_layFar_80 (M.1 60) (M.1 76) n1 n2 x3 x4 i5)) 76 ((8 * i5) + (ix x4)) (((k_layFar_80 (M.1 60) (M.1 76) n1 n2 x3 x4 i5) ((8 * i5) + (ix x3))) + (M.1 60 ((3 * n2) + 2)))) (Ps := [(((nI 8) * (nI i5)) + x4) = nI ((8 * i5) + (ix x4)) ∧ ((8 * i5) + (ix x4)) < 64, (((nI 8) * (nI i5)) + x3) = nI ((8 * i5) + (ix x3)) ∧ ((8 * i5) + (ix x3)) < 64]) (by decide +kernel) rfl rfl ⟨⟨(nAdd (pk_mul _ _) (ixE k5)), k6⟩, ⟨(nAdd (pk_mul _ _) (ixE k3)), k4⟩, trivial⟩ ?_
      refine G.mem (M' := mrow M 76 (upd (k_layFar_80 (M.1 60) (M.1 76) n1 n2 x3 x4 i5) ((8 * i5) + (ix x4)) (((k_layFar_80 (M.1 60) (M.1 76) n1 n2 x3 x4 i5) ((8 * i5) + (ix x3))) + (M.1 60 ((3 * n2) + 2))))) (by first | rfl | (simp only [mput, mrow_same, mrow_hit, mrow_miss, mrow_sw, idr_eq, ne_eq, Nat.reduceEqDiff, not_false_eq_true, Nat.reduceLT, reduceCtorEq]; done)) ?_
      refine G.ic_ge (off := (17)) (tgt := 204) (by decide +kernel) rfl (fun c9 => ?_) (fun c9 => ?_)
      · skip
        refine G.sl [(.iinc 5 1, 3, 5, 0, 0, nI 1), (.goto (-127), 3, 80, 0, 0, 0)] [] (pc2 := 80) (ls2 := [some (.ref 54), some (.int (nI n1)), some (.int (nI n2)), some (.int x3), some (.int x4), some (.int ((nI i5) + nI 1)), some (.int (((k_layFar_80 (M.1 60) (M.1 76) n1 n2 x3 x4 i5) ((8 * i5) + (ix x3))) + (M.1 60 ((3 * n2) + 2)))), some (.int (((k_layFar_80 (M.1 60) (M.1 76) n1 n2 x3 x4 i5) ((8 * i5) + (ix x4))) + (M.1 60 ((3 * n2) + 2))))]) (st2 := []) (M2 := mrow M 76 (upd (k_layFar_80 (M.1 60) (M.1 76) n1 n2 x3 x4 i5) ((8 * i5) + (ix x4)) (((k_layFar_80 (M.1 60) (M.1 76) n1 n2 x3 x4 i5) ((8 * i5) + (ix x3))) + (M.1 60 ((3 * n2) + 2))))) (Ps := []) (by decide +kernel) rfl rfl trivial ?_
        refine G.loc (ls2 := [some (.ref 54), some (.int (nI n1)), some (.int (nI n2)), some (.int x3), some (.int x4), some (.int ((nI i5) + nI 1)), none, none]) (by simp [subL]) ?_
        rw [nI_add i5 1]
        simp only [k_layFar_80, if_neg c7, if_pos c9] at ih
        exact ih
      · skip
        refine G.sl [(.aload_n 0, 1, 0, 0, 0, 0), (.getfield 80, 3, 11, 46, 169, 0), (.bipush 8, 2, 0, 0, 0, nI 8), (.iload 5, 2, 5, 0, 0, 0), (.imul, 1, 0, 0, 0, 0), (.iload_n 3, 1, 3, 0, 0, 0), (.iadd, 1, 0, 0, 0, 0), (.iload 7, 2, 7, 0, 0, 0), (.iastore, 1, 0, 0, 0, 0), (.iinc 5 1, 3, 5, 0, 0, nI 1), (.goto (-127), 3, 80, 0, 0, 0)] [(8 * i5) + (ix x3)] (pc2 := 80) (ls2 := [some (.ref 54), some (.int (nI n1)), some (.int (nI n2)), some (.int x3), some (.int x4), some (.int ((nI i5) + nI 1)), some (.int (((k_layFar_80 (M.1 60) (M.1 76) n1 n2 x3 x4 i5) ((8 * i5) + (ix x3))) + (M.1 60 ((3 * n2) + 2)))), some (.int (((k_layFar_80 (M.1 60) (M.1 76) n1 n2 x3 x4 i5) ((8 * i5) + (ix x4))) + (M.1 60 ((3 * n2) + 2))))]) (st2 := []) (M2 := mput (mrow M 76 (upd (k_layFar_80 (M.1 60) (M.1 76) n1 n2 x3 x4 i5) ((8 * i5) + (ix x4)) (((k_layFar_80 (M.1 60) (M.1 76) n1 n2 x3 x4 i5) ((8 * i5) + (ix x3))) + (M.1 60 ((3 * n2) + 2))))) 76 ((8 * i5) + (ix x3)) (((k_layFar_80 (M.1 60) (M.1 76) n1 n2 x3 x4 i5) ((8 * i5) + (ix x4))) + (M.1 60 ((3 * n2) + 2)))) (Ps := [(((nI 8) * (nI i5)) + x3) = nI ((8 * i5) + (ix x3)) ∧ ((8 * i5) + (ix x3)) < 64]) (by decide +kernel) rfl rfl ⟨⟨(nAdd (pk_mul _ _) (ixE k3)), k4⟩, trivial⟩ ?_
        refine G.mem (M' := mrow M 76 (upd (upd (k_layFar_80 (M.1 60) (M.1 76) n1 n2 x3 x4 i5) ((8 * i5) + (ix x4)) (((k_layFar_80 (M.1 60) (M.1 76) n1 n2 x3 x4 i5) ((8 * i5) + (ix x3))) + (M.1 60 ((3 * n2) + 2)))) ((8 * i5) + (ix x3)) (((k_layFar_80 (M.1 60) (M.1 76) n1 n2 x3 x4 i5) ((8 * i5) + (ix x4))) + (M.1 60 ((3 * n2) + 2))))) (by first | rfl | (simp only [mput, mrow_same, mrow_hit, mrow_miss, mrow_sw, idr_eq, ne_eq, Nat.reduceEqDiff, not_false_eq_true, Nat.reduceLT, reduceCtorEq]; done)) ?_
        refine G.loc (ls2 := [some (.ref 54), some (.int (nI n1)), some (.int (nI n2)), some (.int x3), some (.int x4), some (.int ((nI i5) + nI 1)), none, none]) (by simp [subL]) ?_
        rw [nI_add i5 1]
        simp only [k_layFar_80, if_neg c7, if_neg c9] at ih
        exact ih
set_option maxHeartbeats 4000000 in
set_option maxRecDepth 3000 in
theorem lp_k_layFar_54_48 (z : Zp) (d : Nat) (M : Mem) (Q : Rs → Prop) (n1 : Nat) (np : Nat) (hnp : np ≤ 8) (cp : M.1 54 20 = nI np) (nr : Nat) (hnr : nr ≤ 12) (cr : M.1 54 21 = nI nr) (b1 : n1 < 8) (hk : ∀ i2, i2 < nr → k_layFar_48_ok (M.1 60) (M.1 76) np n1 i2) (hX : G z mX12_layFar (d) 0 0 216 [some (.ref 54), some (.int (nI n1)), none, none, none, none, none, none] [] (mrow M 76 (k_layFar_48 (M.1 60) (M.1 76) np n1 nr)) Q) : G z mX12_layFar (d) 0 0 48 [some (.ref 54), some (.int (nI n1)), some (.int (nI 0)), none, none, none, none, none] [] M Q := by
  refine G.mem (M' := mrow M 76 (M.1 76)) (by simp only [mrow_self]) ?_
  refine down (n := nr) (P := fun i2 => G z mX12_layFar (d) 0 0 48 [some (.ref 54), some (.int (nI n1)), some (.int (nI i2)), none, none, none, none, none] [] (mrow M 76 (k_layFar_48 (M.1 60) (M.1 76) np n1 i2)) Q) ?_ ?_ 0 (Nat.zero_le _)
  · skip
    refine G.sl [(.iload_n 2, 1, 2, 0, 0, 0), (.aload_n 0, 1, 0, 0, 0, 0), (.getfield 159, 3, 11, 21, 144, 0)] [] (pc2 := 53) (ls2 := [some (.ref 54), some (.int (nI n1)), some (.int (nI nr)), none, none, none, none, none]) (st2 := [.int (M.1 54 21), .int (nI nr)]) (M2 := mrow M 76 (k_layFar_48 (M.1 60) (M.1 76) np n1 nr)) (Ps := []) (by decide +kernel) rfl rfl trivial ?_
    rw [cr]
    refine G.ic_ge (off := (163)) (tgt := 216) (by decide +kernel) rfl (fun _ => ?_) (fun h9 => absurd (nI_le (by omega) (by omega)) h9)
    refine G.loc (ls2 := [some (.ref 54), some (.int (nI n1)), none, none, none, none, none, none]) (by simp [subL]) ?_
    exact hX
  · skip
    intro i2 hi ih
    have hk := hk i2 hi
    simp only [k_layFar_48_ok] at hk
    show G z mX12_layFar (d) 0 0 48 [some (.ref 54), some (.int (nI n1)), some (.int (nI i2)), none, none, none, none, none] [] (mrow M 76 (k_layFar_48 (M.1 60) (M.1 76) np n1 i2)) Q
    refine G.sl [(.iload_n 2, 1, 2, 0, 0, 0), (.aload_n 0, 1, 0, 0, 0, 0), (.getfield 159, 3, 11, 21, 144, 0)] [] (pc2 := 53) (ls2 := [some (.ref 54), some (.int (nI n1)), some (.int (nI i2)), none, none, none, none, none]) (st2 := [.int (M.1 54 21), .int (nI i2)]) (M2 := mrow M 76 (k_layFar_48 (M.1 60) (M.1 76) np n1 i2)) (Ps := []) (by decide +kernel) rfl rfl trivial ?_
    rw [cr]
    refine G.ic_ge (off := (163)) (tgt := 216) (by decide +kernel) rfl (fun h9 => absurd h9 (nI_ge (by omega) (by omega))) (fun _ => ?_)
    refine G.sl [(.aload_n 0, 1, 0, 0, 0, 0), (.getfield 32, 3, 11, 13, 136, 0), (.iconst 3, 1, 0, 0, 0, nI 3), (.iload_n 2, 1, 2, 0, 0, 0), (.imul, 1, 0, 0, 0, 0), (.iaload, 1, 0, 0, 0, 0), (.istore_n 3, 1, 3, 0, 0, 0), (.aload_n 0, 1, 0, 0, 0, 0), (.getfield 32, 3, 11, 13, 136, 0), (.iconst 3, 1, 0, 0, 0, nI 3), (.iload_n 2, 1, 2, 0, 0, 0), (.imul, 1, 0, 0, 0, 0), (.iconst 1, 1, 0, 0, 0, nI 1), (.iadd, 1, 0, 0, 0, 0), (.iaload, 1, 0, 0, 0, 0), (.istore 4, 2, 4, 0, 0, 0), (.iconst 0, 1, 0, 0, 0, nI 0), (.istore 5, 2, 5, 0, 0, 0)] [3 * i2, (3 * i2) + 1] (pc2 := 80) (ls2 := [some (.ref 54), some (.int (nI n1)), some (.int (nI i2)), some (.int (M.1 60 (3 * i2))), some (.int (M.1 60 ((3 * i2) + 1))), some (.int (nI 0)), none, none]) (st2 := []) (M2 := mrow M 76 (k_layFar_48 (M.1 60) (M.1 76) np n1 i2)) (Ps := [((nI 3) * (nI i2)) = nI (3 * i2) ∧ (3 * i2) < 36, (((nI 3) * (nI i2)) + (nI 1)) = nI ((3 * i2) + 1) ∧ ((3 * i2) + 1) < 36]) (by decide +kernel) rfl rfl ⟨⟨(pk_mul _ _), (by omega)⟩, ⟨(nAdd (pk_mul _ _) rfl), (by omega)⟩, trivial⟩ ?_
    obtain ⟨k10, hk⟩ := hk
    refine lp_k_layFar_54_80 z d (mrow M 76 (k_layFar_48 (M.1 60) (M.1 76) np n1 i2)) Q n1 i2 (M.1 60 (3 * i2)) (M.1 60 ((3 * i2) + 1)) np hnp cp (by omega) (by omega) (by first | (simp only [mput, mrow_same, mrow_hit, mrow_miss, mrow_sw, idr_eq, ne_eq, Nat.reduceEqDiff, not_false_eq_true, Nat.reduceLT, reduceCtorEq]; exact k10) | exact k10) ?_
    try simp only [mput, mrow_same, mrow_hit, mrow_miss, mrow_sw, idr_eq, ne_eq, Nat.reduceEqDiff, not_false_eq_true, Nat.reduceLT, reduceCtorEq]
    show G z mX12_layFar (d) 0 0 210 [some (.ref 54), some (.int (nI n1)), some (.int (nI i2)), none, none, none, none, none] [] (mrow M 76 (k_layFar_80 (M.1 60) (k_layFar_48 (M.1 60) (M.1 76) np n1 i2) n1 i2 (M.1 60 (3 * i2)) (M.1 60 ((3 * i2) + 1)) np)) Q
    refine G.sl [(.iinc 2 1, 3, 2, 0, 0, nI 1), (.goto (-165), 3, 48, 0, 0, 0)] [] (pc2 := 48) (ls2 := [some (.ref 54), some (.int (nI n1)), some (.int ((nI i2) + nI 1)), none, none, none, none, none]) (st2 := []) (M2 := mrow M 76 (k_layFar_80 (M.1 60) (k_layFar_48 (M.1 60) (M.1 76) np n1 i2) n1 i2 (M.1 60 (3 * i2)) (M.1 60 ((3 * i2) + 1)) np)) (Ps := []) (by decide +kernel) rfl rfl trivial ?_
    rw [nI_add i2 1]
    simp only [k_layFar_48] at ih
    exact ih
set_option maxHeartbeats 4000000 in
set_option maxRecDepth 3000 in
theorem lp_k_layFar_54_40 (z : Zp) (d : Nat) (M : Mem) (Q : Rs → Prop) (nn : Nat) (np : Nat) (hnp : np ≤ 8) (cp : M.1 54 20 = nI np) (nr : Nat) (hnr : nr ≤ 12) (cr : M.1 54 21 = nI nr) (hnn : nn = 8) (hk : ∀ i1, i1 < nn → k_layFar_40_ok (M.1 60) (M.1 76) np nr i1) (hX : G z mX12_layFar (d) 0 0 222 [none, none, none, none, none, none, none, none] [] (mrow M 76 (k_layFar_40 (M.1 60) (M.1 76) np nr nn)) Q) : G z mX12_layFar (d) 0 0 40 [some (.ref 54), some (.int (nI 0)), none, none, none, none, none, none] [] M Q := by
  refine G.mem (M' := mrow M 76 (M.1 76)) (by simp only [mrow_self]) ?_
  refine down (n := nn) (P := fun i1 => G z mX12_layFar (d) 0 0 40 [some (.ref 54), some (.int (nI i1)), none, none, none, none, none, none] [] (mrow M 76 (k_layFar_40 (M.1 60) (M.1 76) np nr i1)) Q) ?_ ?_ 0 (Nat.zero_le _)
  · skip
    refine G.sl [(.iload_n 1, 1, 1, 0, 0, 0), (.bipush 8, 2, 0, 0, 0, nI 8)] [] (pc2 := 43) (ls2 := [some (.ref 54), some (.int (nI nn)), none, none, none, none, none, none]) (st2 := [.int (nI 8), .int (nI nn)]) (M2 := mrow M 76 (k_layFar_40 (M.1 60) (M.1 76) np nr nn)) (Ps := []) (by decide +kernel) rfl rfl trivial ?_
    refine G.ic_ge (off := (179)) (tgt := 222) (by decide +kernel) rfl (fun _ => ?_) (fun h9 => absurd (nI_le (by omega) (by omega)) h9)
    refine G.loc (ls2 := [none, none, none, none, none, none, none, none]) (by simp [subL]) ?_
    exact hX
  · skip
    intro i1 hi ih
    have hk := hk i1 hi
    simp only [k_layFar_40_ok] at hk
    show G z mX12_layFar (d) 0 0 40 [some (.ref 54), some (.int (nI i1)), none, none, none, none, none, none] [] (mrow M 76 (k_layFar_40 (M.1 60) (M.1 76) np nr i1)) Q
    refine G.sl [(.iload_n 1, 1, 1, 0, 0, 0), (.bipush 8, 2, 0, 0, 0, nI 8)] [] (pc2 := 43) (ls2 := [some (.ref 54), some (.int (nI i1)), none, none, none, none, none, none]) (st2 := [.int (nI 8), .int (nI i1)]) (M2 := mrow M 76 (k_layFar_40 (M.1 60) (M.1 76) np nr i1)) (Ps := []) (by decide +kernel) rfl rfl trivial ?_
    refine G.ic_ge (off := (179)) (tgt := 222) (by decide +kernel) rfl (fun h9 => absurd h9 (nI_ge (by omega) (by omega))) (fun _ => ?_)
    refine G.sl [(.iconst 0, 1, 0, 0, 0, nI 0), (.istore_n 2, 1, 2, 0, 0, 0)] [] (pc2 := 48) (ls2 := [some (.ref 54), some (.int (nI i1)), some (.int (nI 0)), none, none, none, none, none]) (st2 := []) (M2 := mrow M 76 (k_layFar_40 (M.1 60) (M.1 76) np nr i1)) (Ps := []) (by decide +kernel) rfl rfl trivial ?_
    obtain ⟨k11, hk⟩ := hk
    refine lp_k_layFar_54_48 z d (mrow M 76 (k_layFar_40 (M.1 60) (M.1 76) np nr i1)) Q i1 np hnp cp nr hnr cr (by omega) (by first | (simp only [mput, mrow_same, mrow_hit, mrow_miss, mrow_sw, idr_eq, ne_eq, Nat.reduceEqDiff, not_false_eq_true, Nat.reduceLT, reduceCtorEq]; exact k11) | exact k11) ?_
    try simp only [mput, mrow_same, mrow_hit, mrow_miss, mrow_sw, idr_eq, ne_eq, Nat.reduceEqDiff, not_false_eq_true, Nat.reduceLT, reduceCtorEq]
    show G z mX12_layFar (d) 0 0 216 [some (.ref 54), some (.int (nI i1)), none, none, none, none, none, none] [] (mrow M 76 (k_layFar_48 (M.1 60) (k_layFar_40 (M.1 60) (M.1 76) np nr i1) np i1 nr)) Q
    refine G.sl [(.iinc 1 1, 3, 1, 0, 0, nI 1), (.goto (-179), 3, 40, 0, 0, 0)] [] (pc2 := 40) (ls2 := [some (.ref 54), some (.int ((nI i1) + nI 1)), none, none, none, none, none, none]) (st2 := []) (M2 := mrow M 76 (k_layFar_48 (M.1 60) (k_layFar_40 (M.1 60) (M.1 76) np nr i1) np i1 nr)) (Ps := []) (by decide +kernel) rfl rfl trivial ?_
    rw [nI_add i1 1]
    simp only [k_layFar_40] at ih
    exact ih
set_option maxHeartbeats 4000000 in
set_option maxRecDepth 3000 in
theorem c_k_layFar_54 (z : Zp) (d : Nat) (M : Mem) (np : Nat) (hnp : np ≤ 8) (cp : M.1 54 20 = nI np) (nr : Nat) (hnr : nr ≤ 12) (cr : M.1 54 21 = nI nr) (hk : k_layFar_ok (M.1 60) (M.1 76) np nr) : GM z mX12_layFar (d) [.ref 54] M (fun rs => rs = .inl (none, mrow M 76 ((k_layFar (M.1 60) (M.1 76) np nr).2))) := by
  simp only [k_layFar_ok] at hk
  refine GM.of oX12_layFar.1 (Nat.le_of_ble_eq_true rfl) ?_
  show G z mX12_layFar (d) 0 0 0 [some (.ref 54), none, none, none, none, none, none, none] [] M _
  obtain ⟨Q, hQ⟩ : ∃ Q : Rs → Prop, Q = (fun rs => rs = .inl (none, mrow M 76 ((k_layFar (M.1 60) (M.1 76) np nr).2))) := ⟨_, rfl⟩
  rw [← hQ]
  refine G.sl [(.iconst 0, 1, 0, 0, 0, nI 0), (.istore_n 1, 1, 1, 0, 0, 0)] [] (pc2 := 2) (ls2 := [some (.ref 54), some (.int (nI 0)), none, none, none, none, none, none]) (st2 := []) (M2 := M) (Ps := []) (by decide +kernel) rfl rfl trivial ?_
  obtain ⟨k2, hk⟩ := hk
  refine lp_k_layFar_54_2 z d M Q (cN 64) (cN_eq 64) ?_
  try simp only [mput, mrow_same, mrow_hit, mrow_miss, mrow_sw, idr_eq, ne_eq, Nat.reduceEqDiff, not_false_eq_true, Nat.reduceLT, reduceCtorEq]
  show G z mX12_layFar (d) 0 0 38 [some (.ref 54), none, none, none, none, none, none, none] [] (mrow M 76 (k_layFar_2 (M.1 76) (cN 64))) Q
  refine G.sl [(.iconst 0, 1, 0, 0, 0, nI 0), (.istore_n 1, 1, 1, 0, 0, 0)] [] (pc2 := 40) (ls2 := [some (.ref 54), some (.int (nI 0)), none, none, none, none, none, none]) (st2 := []) (M2 := mrow M 76 (k_layFar_2 (M.1 76) (cN 64))) (Ps := []) (by decide +kernel) rfl rfl trivial ?_
  obtain ⟨k12, hk⟩ := hk
  refine lp_k_layFar_54_40 z d (mrow M 76 (k_layFar_2 (M.1 76) (cN 64))) Q (cN 8) np hnp cp nr hnr cr (cN_eq 8) (by first | (simp only [mput, mrow_same, mrow_hit, mrow_miss, mrow_sw, idr_eq, ne_eq, Nat.reduceEqDiff, not_false_eq_true, Nat.reduceLT, reduceCtorEq]; exact k12) | exact k12) ?_
  try simp only [mput, mrow_same, mrow_hit, mrow_miss, mrow_sw, idr_eq, ne_eq, Nat.reduceEqDiff, not_false_eq_true, Nat.reduceLT, reduceCtorEq]
  show G z mX12_layFar (d) 0 0 222 [none, none, none, none, none, none, none, none] [] (mrow M 76 (k_layFar_40 (M.1 60) (k_layFar_2 (M.1 76) (cN 64)) np nr (cN 8))) Q
  exact G.retv (by decide +kernel) rfl (Nat.le_of_ble_eq_true rfl) (Nat.le_of_ble_eq_true rfl) ((by rw [hQ]; simp only [k_layFar, mrow_self]))
set_option maxHeartbeats 4000000 in
set_option maxRecDepth 3000 in
theorem c_k_sets_54 (z : Zp) (d : Nat) (M : Mem) (hk : k_sets_ok (M.1 54) (M.1 57) (M.1 58) (M.1 59) (M.1 60) (M.1 61) (M.1 62) (M.1 71) (M.1 75) (M.1 76)) : GM z mX12_sets (d + 1) [.ref 54] M (fun rs => rs = .inl (none, mrow (mrow (mrow (mrow (mrow (mrow (mrow M 54 ((k_sets (M.1 54) (M.1 57) (M.1 58) (M.1 59) (M.1 60) (M.1 61) (M.1 62) (M.1 71) (M.1 75) (M.1 76)).2.1)) 60 ((k_sets (M.1 54) (M.1 57) (M.1 58) (M.1 59) (M.1 60) (M.1 61) (M.1 62) (M.1 71) (M.1 75) (M.1 76)).2.2.1)) 61 ((k_sets (M.1 54) (M.1 57) (M.1 58) (M.1 59) (M.1 60) (M.1 61) (M.1 62) (M.1 71) (M.1 75) (M.1 76)).2.2.2.1)) 62 ((k_sets (M.1 54) (M.1 57) (M.1 58) (M.1 59) (M.1 60) (M.1 61) (M.1 62) (M.1 71) (M.1 75) (M.1 76)).2.2.2.2.1)) 71 ((k_sets (M.1 54) (M.1 57) (M.1 58) (M.1 59) (M.1 60) (M.1 61) (M.1 62) (M.1 71) (M.1 75) (M.1 76)).2.2.2.2.2.1)) 75 ((k_sets (M.1 54) (M.1 57) (M.1 58) (M.1 59) (M.1 60) (M.1 61) (M.1 62) (M.1 71) (M.1 75) (M.1 76)).2.2.2.2.2.2.1)) 76 ((k_sets (M.1 54) (M.1 57) (M.1 58) (M.1 59) (M.1 60) (M.1 61) (M.1 62) (M.1 71) (M.1 75) (M.1 76)).2.2.2.2.2.2.2))) := by
  simp only [k_sets_ok] at hk
  refine GM.of oX12_sets.1 (Nat.le_of_ble_eq_true rfl) ?_
  show G z mX12_sets (d + 1) 0 0 0 [some (.ref 54), none] [] M _
  obtain ⟨Q, hQ⟩ : ∃ Q : Rs → Prop, Q = (fun rs => rs = .inl (none, mrow (mrow (mrow (mrow (mrow (mrow (mrow M 54 ((k_sets (M.1 54) (M.1 57) (M.1 58) (M.1 59) (M.1 60) (M.1 61) (M.1 62) (M.1 71) (M.1 75) (M.1 76)).2.1)) 60 ((k_sets (M.1 54) (M.1 57) (M.1 58) (M.1 59) (M.1 60) (M.1 61) (M.1 62) (M.1 71) (M.1 75) (M.1 76)).2.2.1)) 61 ((k_sets (M.1 54) (M.1 57) (M.1 58) (M.1 59) (M.1 60) (M.1 61) (M.1 62) (M.1 71) (M.1 75) (M.1 76)).2.2.2.1)) 62 ((k_sets (M.1 54) (M.1 57) (M.1 58) (M.1 59) (M.1 60) (M.1 61) (M.1 62) (M.1 71) (M.1 75) (M.1 76)).2.2.2.2.1)) 71 ((k_sets (M.1 54) (M.1 57) (M.1 58) (M.1 59) (M.1 60) (M.1 61) (M.1 62) (M.1 71) (M.1 75) (M.1 76)).2.2.2.2.2.1)) 75 ((k_sets (M.1 54) (M.1 57) (M.1 58) (M.1 59) (M.1 60) (M.1 61) (M.1 62) (M.1 71) (M.1 75) (M.1 76)).2.2.2.2.2.2.1)) 76 ((k_sets (M.1 54) (M.1 57) (M.1 58) (M.1 59) (M.1 60) (M.1 61) (M.1 62) (M.1 71) (M.1 75) (M.1 76)).2.2.2.2.2.2.2))) := ⟨_, rfl⟩
  rw [← hQ]
  refine G.sl [(.aload_n 0, 1, 0, 0, 0, 0), (.aload_n 0, 1, 0, 0, 0, 0), (.getfield 144, 3, 11, 16, 139, 0), (.putfield 156, 3, 11, 20, 143, 0), (.aload_n 0, 1, 0, 0, 0, 0), (.aload_n 0, 1, 0, 0, 0, 0), (.getfield 147, 3, 11, 17, 140, 0), (.putfield 159, 3, 11, 21, 144, 0), (.aload_n 0, 1, 0, 0, 0, 0), (.aload_n 0, 1, 0, 0, 0, 0), (.getfield 150, 3, 11, 18, 141, 0), (.putfield 162, 3, 11, 22, 145, 0), (.aload_n 0, 1, 0, 0, 0, 0), (.aload_n 0, 1, 0, 0, 0, 0), (.getfield 153, 3, 11, 19, 142, 0), (.putfield 165, 3, 11, 23, 146, 0), (.aload_n 0, 1, 0, 0, 0, 0), (.aload_n 0, 1, 0, 0, 0, 0), (.getfield 23, 3, 11, 10, 133, 0), (.aload_n 0, 1, 0, 0, 0, 0), (.getfield 32, 3, 11, 13, 136, 0), (.bipush 36, 2, 0, 0, 0, nI 36)] [] (pc2 := 43) (ls2 := [some (.ref 54), none]) (st2 := [.int (nI 36), .ref 60, .ref 57, .ref 54]) (M2 := mput (mput (mput (mput M 54 20 (M.1 54 16)) 54 21 (M.1 54 17)) 54 22 (M.1 54 18)) 54 23 (M.1 54 19)) (Ps := []) (by decide +kernel) rfl rfl trivial ?_
  refine G.mem (M' := mrow M 54 (upd (upd (upd (upd (M.1 54) 20 (M.1 54 16)) 21 (M.1 54 17)) 22 (M.1 54 18)) 23 (M.1 54 19))) (by first | rfl | (simp only [mput, mrow_same, mrow_hit, mrow_miss, mrow_sw, idr_eq, ne_eq, Nat.reduceEqDiff, not_false_eq_true, Nat.reduceLT, reduceCtorEq]; done)) ?_
  obtain ⟨k1, hk⟩ := hk
  refine G.eq (st' := [.int (nI (cN 36)), .ref 60, .ref 57, .ref 54]) ?_ rfl (by rw [← (show nI 36 = nI (cN 36) from (by rw [cN_eq]))]) rfl
  rcases g2 : k_copies_L36_L36 (M.1 57) (M.1 60) (cN 36) with ⟨u3, r4⟩
  try simp only [g2] at hk
  have t5 : GM z mX12_copies (d) [.ref 54, .ref 57, .ref 60, .int (nI (cN 36))] (mrow M 54 (upd (upd (upd (upd (M.1 54) 20 (M.1 54 16)) 21 (M.1 54 17)) 22 (M.1 54 18)) 23 (M.1 54 19))) (fun rs => rs = .inl (none, mrow (mrow M 54 (upd (upd (upd (upd (M.1 54) 20 (M.1 54 16)) 21 (M.1 54 17)) 22 (M.1 54 18)) 23 (M.1 54 19))) 60 r4)) := by
    have q9 := c_k_copies_L36_L36_54_57_60 z d (mrow M 54 (upd (upd (upd (upd (M.1 54) 20 (M.1 54 16)) 21 (M.1 54 17)) 22 (M.1 54 18)) 23 (M.1 54 19))) (cN 36) (by rw [cN_eq]; omega) k1
    try simp only [mput, mrow_same, mrow_hit, mrow_miss, mrow_sw, idr_eq, ne_eq, Nat.reduceEqDiff, not_false_eq_true, Nat.reduceLT, reduceCtorEq, g2] at q9
    exact q9
  refine G.callV (as := [.ref 57, .ref 60, .int (nI (cN 36))]) (rest := []) (a := 54) oX12_copies lk_EvenFindersModel_168 (by decide +kernel) rfl rfl ⟨rfl, rfl⟩ (Nat.le_of_ble_eq_true rfl) rfl ⟨Nat.le_of_ble_eq_true rfl, Nat.le_of_ble_eq_true rfl⟩ t5 (fun v9 N9 h6 => ?_) (fun E9 N9 h6 => by cases h6)
  cases h6
  show G z mX12_sets (d + 1) 0 0 46 [some (.ref 54), none] [] (mrow (mrow M 54 (upd (upd (upd (upd (M.1 54) 20 (M.1 54 16)) 21 (M.1 54 17)) 22 (M.1 54 18)) 23 (M.1 54 19))) 60 r4) Q
  refine G.sl [(.aload_n 0, 1, 0, 0, 0, 0), (.aload_n 0, 1, 0, 0, 0, 0), (.getfield 26, 3, 11, 11, 134, 0), (.aload_n 0, 1, 0, 0, 0, 0), (.getfield 35, 3, 11, 14, 137, 0), (.bipush 30, 2, 0, 0, 0, nI 30)] [] (pc2 := 57) (ls2 := [some (.ref 54), none]) (st2 := [.int (nI 30), .ref 61, .ref 58, .ref 54]) (M2 := mrow (mrow M 54 (upd (upd (upd (upd (M.1 54) 20 (M.1 54 16)) 21 (M.1 54 17)) 22 (M.1 54 18)) 23 (M.1 54 19))) 60 r4) (Ps := []) (by decide +kernel) rfl rfl trivial ?_
  obtain ⟨k7, hk⟩ := hk
  refine G.eq (st' := [.int (nI (cN 30)), .ref 61, .ref 58, .ref 54]) ?_ rfl (by rw [← (show nI 30 = nI (cN 30) from (by rw [cN_eq]))]) rfl
  rcases g8 : k_copies_L30_L30 (M.1 58) (M.1 61) (cN 30) with ⟨u9, r10⟩
  try simp only [g8] at hk
  have t11 : GM z mX12_copies (d) [.ref 54, .ref 58, .ref 61, .int (nI (cN 30))] (mrow (mrow M 54 (upd (upd (upd (upd (M.1 54) 20 (M.1 54 16)) 21 (M.1 54 17)) 22 (M.1 54 18)) 23 (M.1 54 19))) 60 r4) (fun rs => rs = .inl (none, mrow (mrow (mrow M 54 (upd (upd (upd (upd (M.1 54) 20 (M.1 54 16)) 21 (M.1 54 17)) 22 (M.1 54 18)) 23 (M.1 54 19))) 60 r4) 61 r10)) := by
    have q9 := c_k_copies_L30_L30_54_58_61 z d (mrow (mrow M 54 (upd (upd (upd (upd (M.1 54) 20 (M.1 54 16)) 21 (M.1 54 17)) 22 (M.1 54 18)) 23 (M.1 54 19))) 60 r4) (cN 30) (by rw [cN_eq]; omega) k7
    try simp only [mput, mrow_same, mrow_hit, mrow_miss, mrow_sw, idr_eq, ne_eq, Nat.reduceEqDiff, not_false_eq_true, Nat.reduceLT, reduceCtorEq, g8] at q9
    exact q9
  refine G.callV (as := [.ref 58, .ref 61, .int (nI (cN 30))]) (rest := []) (a := 54) oX12_copies lk_EvenFindersModel_168 (by decide +kernel) rfl rfl ⟨rfl, rfl⟩ (Nat.le_of_ble_eq_true rfl) rfl ⟨Nat.le_of_ble_eq_true rfl, Nat.le_of_ble_eq_true rfl⟩ t11 (fun v9 N9 h12 => ?_) (fun E9 N9 h12 => by cases h12)
  cases h12
  show G z mX12_sets (d + 1) 0 0 60 [some (.ref 54), none] [] (mrow (mrow (mrow M 54 (upd (upd (upd (upd (M.1 54) 20 (M.1 54 16)) 21 (M.1 54 17)) 22 (M.1 54 18)) 23 (M.1 54 19))) 60 r4) 61 r10) Q
  refine G.sl [(.aload_n 0, 1, 0, 0, 0, 0), (.aload_n 0, 1, 0, 0, 0, 0), (.getfield 29, 3, 11, 12, 135, 0), (.aload_n 0, 1, 0, 0, 0, 0), (.getfield 38, 3, 11, 15, 138, 0), (.bipush 6, 2, 0, 0, 0, nI 6)] [] (pc2 := 71) (ls2 := [some (.ref 54), none]) (st2 := [.int (nI 6), .ref 62, .ref 59, .ref 54]) (M2 := mrow (mrow (mrow M 54 (upd (upd (upd (upd (M.1 54) 20 (M.1 54 16)) 21 (M.1 54 17)) 22 (M.1 54 18)) 23 (M.1 54 19))) 60 r4) 61 r10) (Ps := []) (by decide +kernel) rfl rfl trivial ?_
  obtain ⟨k13, hk⟩ := hk
  rcases g14 : k_copies_L6_L6 (M.1 59) (M.1 62) 6 with ⟨u15, r16⟩
  try simp only [g14] at hk
  have t17 : GM z mX12_copies (d) [.ref 54, .ref 59, .ref 62, .int (nI 6)] (mrow (mrow (mrow M 54 (upd (upd (upd (upd (M.1 54) 20 (M.1 54 16)) 21 (M.1 54 17)) 22 (M.1 54 18)) 23 (M.1 54 19))) 60 r4) 61 r10) (fun rs => rs = .inl (none, mrow (mrow (mrow (mrow M 54 (upd (upd (upd (upd (M.1 54) 20 (M.1 54 16)) 21 (M.1 54 17)) 22 (M.1 54 18)) 23 (M.1 54 19))) 60 r4) 61 r10) 62 r16)) := by
    have q9 := c_k_copies_L6_L6_54_59_62 z d (mrow (mrow (mrow M 54 (upd (upd (upd (upd (M.1 54) 20 (M.1 54 16)) 21 (M.1 54 17)) 22 (M.1 54 18)) 23 (M.1 54 19))) 60 r4) 61 r10) 6 (by omega) k13
    try simp only [mput, mrow_same, mrow_hit, mrow_miss, mrow_sw, idr_eq, ne_eq, Nat.reduceEqDiff, not_false_eq_true, Nat.reduceLT, reduceCtorEq, g14] at q9
    exact q9
  refine G.callV (as := [.ref 59, .ref 62, .int (nI 6)]) (rest := []) (a := 54) oX12_copies lk_EvenFindersModel_168 (by decide +kernel) rfl rfl ⟨rfl, rfl⟩ (Nat.le_of_ble_eq_true rfl) rfl ⟨Nat.le_of_ble_eq_true rfl, Nat.le_of_ble_eq_true rfl⟩ t17 (fun v9 N9 h18 => ?_) (fun E9 N9 h18 => by cases h18)
  cases h18
  show G z mX12_sets (d + 1) 0 0 74 [some (.ref 54), none] [] (mrow (mrow (mrow (mrow M 54 (upd (upd (upd (upd (M.1 54) 20 (M.1 54 16)) 21 (M.1 54 17)) 22 (M.1 54 18)) 23 (M.1 54 19))) 60 r4) 61 r10) 62 r16) Q
  refine G.sl [(.aload_n 0, 1, 0, 0, 0, 0), (.iconst 0, 1, 0, 0, 0, nI 0), (.putfield 172, 3, 11, 30, 153, 0), (.aload_n 0, 1, 0, 0, 0, 0), (.iconst 0, 1, 0, 0, 0, nI 0), (.putfield 175, 3, 11, 45, 168, 0), (.aload_n 0, 1, 0, 0, 0, 0), (.iconst 0, 1, 0, 0, 0, nI 0), (.putfield 178, 3, 11, 35, 158, 0), (.aload_n 0, 1, 0, 0, 0, 0), (.iconst 0, 1, 0, 0, 0, nI 0), (.putfield 181, 3, 11, 51, 174, 0), (.aload_n 0, 1, 0, 0, 0, 0), (.iconst 0, 1, 0, 0, 0, nI 0), (.putfield 184, 3, 11, 36, 159, 0), (.iconst 0, 1, 0, 0, 0, nI 0), (.istore_n 1, 1, 1, 0, 0, 0)] [] (pc2 := 101) (ls2 := [some (.ref 54), some (.int (nI 0))]) (st2 := []) (M2 := mput (mput (mput (mput (mput (mrow (mrow (mrow (mrow M 54 (upd (upd (upd (upd (M.1 54) 20 (M.1 54 16)) 21 (M.1 54 17)) 22 (M.1 54 18)) 23 (M.1 54 19))) 60 r4) 61 r10) 62 r16) 54 30 (nI 0)) 54 45 (nI 0)) 54 35 (nI 0)) 54 51 (nI 0)) 54 36 (nI 0)) (Ps := []) (by decide +kernel) rfl rfl trivial ?_
  refine G.mem (M' := mrow (mrow (mrow (mrow M 54 (upd (upd (upd (upd (upd (upd (upd (upd (upd (M.1 54) 20 (M.1 54 16)) 21 (M.1 54 17)) 22 (M.1 54 18)) 23 (M.1 54 19)) 30 (nI 0)) 45 (nI 0)) 35 (nI 0)) 51 (nI 0)) 36 (nI 0))) 60 r4) 61 r10) 62 r16) (by first | rfl | (simp only [mput, mrow_same, mrow_hit, mrow_miss, mrow_sw, idr_eq, ne_eq, Nat.reduceEqDiff, not_false_eq_true, Nat.reduceLT, reduceCtorEq]; done)) ?_
  obtain ⟨k19, hk⟩ := hk
  refine lp_k_sets_54_101 z d (mrow (mrow (mrow (mrow M 54 (upd (upd (upd (upd (upd (upd (upd (upd (upd (M.1 54) 20 (M.1 54 16)) 21 (M.1 54 17)) 22 (M.1 54 18)) 23 (M.1 54 19)) 30 (nI 0)) 45 (nI 0)) 35 (nI 0)) 51 (nI 0)) 36 (nI 0))) 60 r4) 61 r10) 62 r16) Q (cN 8) (cN_eq 8) ?_
  try simp only [mput, mrow_same, mrow_hit, mrow_miss, mrow_sw, idr_eq, ne_eq, Nat.reduceEqDiff, not_false_eq_true, Nat.reduceLT, reduceCtorEq]
  show G z mX12_sets (d + 1) 0 0 120 [some (.ref 54), none] [] (mrow (mrow (mrow (mrow (mrow M 54 (upd (upd (upd (upd (upd (upd (upd (upd (upd (M.1 54) 20 (M.1 54 16)) 21 (M.1 54 17)) 22 (M.1 54 18)) 23 (M.1 54 19)) 30 (nI 0)) 45 (nI 0)) 35 (nI 0)) 51 (nI 0)) 36 (nI 0))) 60 r4) 61 r10) 62 r16) 75 (k_sets_101 (M.1 75) (cN 8))) Q
  refine G.sl [(.iconst 0, 1, 0, 0, 0, nI 0), (.istore_n 1, 1, 1, 0, 0, 0)] [] (pc2 := 122) (ls2 := [some (.ref 54), some (.int (nI 0))]) (st2 := []) (M2 := mrow (mrow (mrow (mrow (mrow M 54 (upd (upd (upd (upd (upd (upd (upd (upd (upd (M.1 54) 20 (M.1 54 16)) 21 (M.1 54 17)) 22 (M.1 54 18)) 23 (M.1 54 19)) 30 (nI 0)) 45 (nI 0)) 35 (nI 0)) 51 (nI 0)) 36 (nI 0))) 60 r4) 61 r10) 62 r16) 75 (k_sets_101 (M.1 75) (cN 8))) (Ps := []) (by decide +kernel) rfl rfl trivial ?_
  obtain ⟨k20, hk⟩ := hk
  refine lp_k_sets_54_122 z d (mrow (mrow (mrow (mrow (mrow M 54 (upd (upd (upd (upd (upd (upd (upd (upd (upd (M.1 54) 20 (M.1 54 16)) 21 (M.1 54 17)) 22 (M.1 54 18)) 23 (M.1 54 19)) 30 (nI 0)) 45 (nI 0)) 35 (nI 0)) 51 (nI 0)) 36 (nI 0))) 60 r4) 61 r10) 62 r16) 75 (k_sets_101 (M.1 75) (cN 8))) Q (cN 51) (cN_eq 51) ?_
  try simp only [mput, mrow_same, mrow_hit, mrow_miss, mrow_sw, idr_eq, ne_eq, Nat.reduceEqDiff, not_false_eq_true, Nat.reduceLT, reduceCtorEq]
  show G z mX12_sets (d + 1) 0 0 141 [some (.ref 54), none] [] (mrow (mrow (mrow (mrow (mrow (mrow M 54 (upd (upd (upd (upd (upd (upd (upd (upd (upd (M.1 54) 20 (M.1 54 16)) 21 (M.1 54 17)) 22 (M.1 54 18)) 23 (M.1 54 19)) 30 (nI 0)) 45 (nI 0)) 35 (nI 0)) 51 (nI 0)) 36 (nI 0))) 60 r4) 61 r10) 62 r16) 71 (k_sets_122 (M.1 71) (cN 51))) 75 (k_sets_101 (M.1 75) (cN 8))) Q
  refine G.sl [(.iconst 0, 1, 0, 0, 0, nI 0), (.istore_n 1, 1, 1, 0, 0, 0)] [] (pc2 := 143) (ls2 := [some (.ref 54), some (.int (nI 0))]) (st2 := []) (M2 := mrow (mrow (mrow (mrow (mrow (mrow M 54 (upd (upd (upd (upd (upd (upd (upd (upd (upd (M.1 54) 20 (M.1 54 16)) 21 (M.1 54 17)) 22 (M.1 54 18)) 23 (M.1 54 19)) 30 (nI 0)) 45 (nI 0)) 35 (nI 0)) 51 (nI 0)) 36 (nI 0))) 60 r4) 61 r10) 62 r16) 71 (k_sets_122 (M.1 71) (cN 51))) 75 (k_sets_101 (M.1 75) (cN 8))) (Ps := []) (by decide +kernel) rfl rfl trivial ?_
  obtain ⟨k22, k23, hk⟩ := hk
  obtain ⟨k24, hk⟩ := hk
  refine lp_k_sets_54_143 z d (mrow (mrow (mrow (mrow (mrow (mrow M 54 (upd (upd (upd (upd (upd (upd (upd (upd (upd (M.1 54) 20 (M.1 54 16)) 21 (M.1 54 17)) 22 (M.1 54 18)) 23 (M.1 54 19)) 30 (nI 0)) 45 (nI 0)) 35 (nI 0)) 51 (nI 0)) 36 (nI 0))) 60 r4) 61 r10) 62 r16) 71 (k_sets_122 (M.1 71) (cN 51))) 75 (k_sets_101 (M.1 75) (cN 8))) Q (cN 10) (ix (M.1 54 18)) k23 (ixE k22) (cN_eq 10) ?_
  try simp only [mput, mrow_same, mrow_hit, mrow_miss, mrow_sw, idr_eq, ne_eq, Nat.reduceEqDiff, not_false_eq_true, Nat.reduceLT, reduceCtorEq]
  show G z mX12_sets (d + 1) 0 0 214 [some (.ref 54), none] [] (mrow (mrow (mrow (mrow (mrow (mrow M 54 (upd (upd (upd (upd (upd (upd (upd (upd (upd (M.1 54) 20 (M.1 54 16)) 21 (M.1 54 17)) 22 (M.1 54 18)) 23 (M.1 54 19)) 30 (nI 0)) 45 (nI 0)) 35 (nI 0)) 51 (nI 0)) 36 (nI 0))) 60 r4) 61 r10) 62 r16) 71 (k_sets_143 r10 (k_sets_122 (M.1 71) (cN 51)) (ix (M.1 54 18)) (cN 10))) 75 (k_sets_101 (M.1 75) (cN 8))) Q
  refine G.sl [(.iconst 0, 1, 0, 0, 0, nI 0), (.istore_n 1, 1, 1, 0, 0, 0)] [] (pc2 := 216) (ls2 := [some (.ref 54), some (.int (nI 0))]) (st2 := []) (M2 := mrow (mrow (mrow (mrow (mrow (mrow M 54 (upd (upd (upd (upd (upd (upd (upd (upd (upd (M.1 54) 20 (M.1 54 16)) 21 (M.1 54 17)) 22 (M.1 54 18)) 23 (M.1 54 19)) 30 (nI 0)) 45 (nI 0)) 35 (nI 0)) 51 (nI 0)) 36 (nI 0))) 60 r4) 61 r10) 62 r16) 71 (k_sets_143 r10 (k_sets_122 (M.1 71) (cN 51)) (ix (M.1 54 18)) (cN 10))) 75 (k_sets_101 (M.1 75) (cN 8))) (Ps := []) (by decide +kernel) rfl rfl trivial ?_
  obtain ⟨k25, k26, hk⟩ := hk
  obtain ⟨k27, hk⟩ := hk
  refine lp_k_sets_54_216 z d (mrow (mrow (mrow (mrow (mrow (mrow M 54 (upd (upd (upd (upd (upd (upd (upd (upd (upd (M.1 54) 20 (M.1 54 16)) 21 (M.1 54 17)) 22 (M.1 54 18)) 23 (M.1 54 19)) 30 (nI 0)) 45 (nI 0)) 35 (nI 0)) 51 (nI 0)) 36 (nI 0))) 60 r4) 61 r10) 62 r16) 71 (k_sets_143 r10 (k_sets_122 (M.1 71) (cN 51)) (ix (M.1 54 18)) (cN 10))) 75 (k_sets_101 (M.1 75) (cN 8))) Q (ix (M.1 54 19)) k26 (ixE k25) ?_
  try simp only [mput, mrow_same, mrow_hit, mrow_miss, mrow_sw, idr_eq, ne_eq, Nat.reduceEqDiff, not_false_eq_true, Nat.reduceLT, reduceCtorEq]
  show G z mX12_sets (d + 1) 0 0 245 [some (.ref 54), none] [] (mrow (mrow (mrow (mrow (mrow (mrow M 54 (upd (upd (upd (upd (upd (upd (upd (upd (upd (M.1 54) 20 (M.1 54 16)) 21 (M.1 54 17)) 22 (M.1 54 18)) 23 (M.1 54 19)) 30 (nI 0)) 45 (nI 0)) 35 (nI 0)) 51 (nI 0)) 36 (nI 0))) 60 r4) 61 r10) 62 r16) 71 (k_sets_216 r16 (k_sets_143 r10 (k_sets_122 (M.1 71) (cN 51)) (ix (M.1 54 18)) (cN 10)) (ix (M.1 54 19)))) 75 (k_sets_101 (M.1 75) (cN 8))) Q
  refine G.sl [(.aload_n 0, 1, 0, 0, 0, 0)] [] (pc2 := 246) (ls2 := [some (.ref 54), none]) (st2 := [.ref 54]) (M2 := mrow (mrow (mrow (mrow (mrow (mrow M 54 (upd (upd (upd (upd (upd (upd (upd (upd (upd (M.1 54) 20 (M.1 54 16)) 21 (M.1 54 17)) 22 (M.1 54 18)) 23 (M.1 54 19)) 30 (nI 0)) 45 (nI 0)) 35 (nI 0)) 51 (nI 0)) 36 (nI 0))) 60 r4) 61 r10) 62 r16) 71 (k_sets_216 r16 (k_sets_143 r10 (k_sets_122 (M.1 71) (cN 51)) (ix (M.1 54 18)) (cN 10)) (ix (M.1 54 19)))) 75 (k_sets_101 (M.1 75) (cN 8))) (Ps := []) (by decide +kernel) rfl rfl trivial ?_
  obtain ⟨k28, k29, k30, k31, hk⟩ := hk
  obtain ⟨k32, hk⟩ := hk
  rcases g33 : k_layFar r4 (M.1 76) (ix (M.1 54 16)) (ix (M.1 54 17)) with ⟨u34, r35⟩
  have t36 : GM z mX12_layFar (d) [.ref 54] (mrow (mrow (mrow (mrow (mrow (mrow M 54 (upd (upd (upd (upd (upd (upd (upd (upd (upd (M.1 54) 20 (M.1 54 16)) 21 (M.1 54 17)) 22 (M.1 54 18)) 23 (M.1 54 19)) 30 (nI 0)) 45 (nI 0)) 35 (nI 0)) 51 (nI 0)) 36 (nI 0))) 60 r4) 61 r10) 62 r16) 71 (k_sets_216 r16 (k_sets_143 r10 (k_sets_122 (M.1 71) (cN 51)) (ix (M.1 54 18)) (cN 10)) (ix (M.1 54 19)))) 75 (k_sets_101 (M.1 75) (cN 8))) (fun rs => rs = .inl (none, mrow (mrow (mrow (mrow (mrow (mrow (mrow M 54 (upd (upd (upd (upd (upd (upd (upd (upd (upd (M.1 54) 20 (M.1 54 16)) 21 (M.1 54 17)) 22 (M.1 54 18)) 23 (M.1 54 19)) 30 (nI 0)) 45 (nI 0)) 35 (nI 0)) 51 (nI 0)) 36 (nI 0))) 60 r4) 61 r10) 62 r16) 71 (k_sets_216 r16 (k_sets_143 r10 (k_sets_122 (M.1 71) (cN 51)) (ix (M.1 54 18)) (cN 10)) (ix (M.1 54 19)))) 75 (k_sets_101 (M.1 75) (cN 8))) 76 r35)) := by
    have q9 := c_k_layFar_54 z d (mrow (mrow (mrow (mrow (mrow (mrow M 54 (upd (upd (upd (upd (upd (upd (upd (upd (upd (M.1 54) 20 (M.1 54 16)) 21 (M.1 54 17)) 22 (M.1 54 18)) 23 (M.1 54 19)) 30 (nI 0)) 45 (nI 0)) 35 (nI 0)) 51 (nI 0)) 36 (nI 0))) 60 r4) 61 r10) 62 r16) 71 (k_sets_216 r16 (k_sets_143 r10 (k_sets_122 (M.1 71) (cN 51)) (ix (M.1 54 18)) (cN 10)) (ix (M.1 54 19)))) 75 (k_sets_101 (M.1 75) (cN 8))) (ix (M.1 54 16)) k29 (ixE k28) (ix (M.1 54 17)) k31 (ixE k30) k32
    try simp only [mput, mrow_same, mrow_hit, mrow_miss, mrow_sw, idr_eq, ne_eq, Nat.reduceEqDiff, not_false_eq_true, Nat.reduceLT, reduceCtorEq, g33] at q9
    exact q9
  refine G.callV (as := []) (rest := []) (a := 54) oX12_layFar lk_EvenFindersModel_187 (by decide +kernel) rfl rfl ⟨rfl, rfl⟩ (Nat.le_of_ble_eq_true rfl) rfl ⟨Nat.le_of_ble_eq_true rfl, Nat.le_of_ble_eq_true rfl⟩ t36 (fun v9 N9 h37 => ?_) (fun E9 N9 h37 => by cases h37)
  cases h37
  show G z mX12_sets (d + 1) 0 0 249 [some (.ref 54), none] [] (mrow (mrow (mrow (mrow (mrow (mrow (mrow M 54 (upd (upd (upd (upd (upd (upd (upd (upd (upd (M.1 54) 20 (M.1 54 16)) 21 (M.1 54 17)) 22 (M.1 54 18)) 23 (M.1 54 19)) 30 (nI 0)) 45 (nI 0)) 35 (nI 0)) 51 (nI 0)) 36 (nI 0))) 60 r4) 61 r10) 62 r16) 71 (k_sets_216 r16 (k_sets_143 r10 (k_sets_122 (M.1 71) (cN 51)) (ix (M.1 54 18)) (cN 10)) (ix (M.1 54 19)))) 75 (k_sets_101 (M.1 75) (cN 8))) 76 r35) Q
  exact G.retv (by decide +kernel) rfl (Nat.le_of_ble_eq_true rfl) (Nat.le_of_ble_eq_true rfl) ((by rw [hQ]; simp only [k_sets, g2, g8, g14, g33, mrow_self]))
