theorem c_x_readStep_33_1_rec (z : Zp) (nr : Nat) (hnr : nr ≤ 12) (nt : Nat) (hnt : nt ≤ 10) (nf : Nat) (hnf : nf ≤ 6) : ∀ (k0 d : Nat) (M : Mem) (x2 : Int32), M.1 3 1 = nI nr → M.1 3 2 = nI nt → M.1 3 3 = nI nf → x_readStep_rec_ok nr nt nf k0 (M.1 1) (M.1 2) (M.1 33) (M.1 34) (M.1 35) (M.1 36) x2 → GM z mX9_readStep (d + 6 * k0) [.ref 33, .ref 1, .int x2] M (fun rs => rs = .inl (none, mrow (mrow (mrow (mrow (mrow M 1 ((x_readStep_rec nr nt nf k0 (M.1 1) (M.1 2) (M.1 33) (M.1 34) (M.1 35) (M.1 36) x2).2.1)) 33 ((x_readStep_rec nr nt nf k0 (M.1 1) (M.1 2) (M.1 33) (M.1 34) (M.1 35) (M.1 36) x2).2.2.1)) 34 ((x_readStep_rec nr nt nf k0 (M.1 1) (M.1 2) (M.1 33) (M.1 34) (M.1 35) (M.1 36) x2).2.2.2.1)) 35 ((x_readStep_rec nr nt nf k0 (M.1 1) (M.1 2) (M.1 33) (M.1 34) (M.1 35) (M.1 36) x2).2.2.2.2.1)) 36 ((x_readStep_rec nr nt nf k0 (M.1 1) (M.1 2) (M.1 33) (M.1 34) (M.1 35) (M.1 36) x2).2.2.2.2.2))) := by
  intro k0
  induction k0 with
  | zero =>
    intro d M x2 hr ht hf hk
    exact (by simpa only [x_readStep_rec_ok] using hk : False).elim
  | succ k0 ih =>
    intro d M x2 hr ht hf hk
    have e9 : d + 6 * (k0 + 1) = (d + 6 * k0) + 6 := by omega
    rw [e9]
    simp only [x_readStep_rec_ok] at hk
    have q9 := c_x_readStep_33_1_st z (d + 6 * k0) M x2 nr hnr hr nt hnt ht nf hnf hf (x_readStep_rec nr nt nf k0) (x_readStep_rec_ok nr nt nf k0) (fun j M x2 hr ht hf hk => by
      have q9 := ih (d + j) M x2 hr ht hf hk
      rw [show d + j + 6 * k0 = d + 6 * k0 + j by omega] at q9
      exact q9)  hk
    simp only [x_readStep_rec]
    exact q9
theorem c_x_readStep_33_1 (z : Zp) (d : Nat) (M : Mem) (x2 : Int32) (nr : Nat) (hnr : nr ≤ 12) (hr : M.1 3 1 = nI nr) (nt : Nat) (hnt : nt ≤ 10) (ht : M.1 3 2 = nI nt) (nf : Nat) (hnf : nf ≤ 6) (hf : M.1 3 3 = nI nf) (hk : x_readStep_ok (M.1 1) (M.1 2) (M.1 33) (M.1 34) (M.1 35) (M.1 36) nr nt nf x2) : GM z mX9_readStep (d + 60) [.ref 33, .ref 1, .int x2] M (fun rs => rs = .inl (none, mrow (mrow (mrow (mrow (mrow M 1 ((x_readStep (M.1 1) (M.1 2) (M.1 33) (M.1 34) (M.1 35) (M.1 36) nr nt nf x2).2.1)) 33 ((x_readStep (M.1 1) (M.1 2) (M.1 33) (M.1 34) (M.1 35) (M.1 36) nr nt nf x2).2.2.1)) 34 ((x_readStep (M.1 1) (M.1 2) (M.1 33) (M.1 34) (M.1 35) (M.1 36) nr nt nf x2).2.2.2.1)) 35 ((x_readStep (M.1 1) (M.1 2) (M.1 33) (M.1 34) (M.1 35) (M.1 36) nr nt nf x2).2.2.2.2.1)) 36 ((x_readStep (M.1 1) (M.1 2) (M.1 33) (M.1 34) (M.1 35) (M.1 36) nr nt nf x2).2.2.2.2.2))) := by
  have q9 := c_x_readStep_33_1_rec z nr hnr nt hnt nf hnf (cN 10) d M x2 hr ht hf hk
  rw [show d + 6 * cN 10 = d + 60 from by rw [cN_eq]] at q9
  exact q9
set_option maxHeartbeats 4000000 in
set_option maxRecDepth 3000 in
theorem lp_x_readFrom_33_1_7 (z : Zp) (d : Nat) (M : Mem) (Q : Rs → Prop) (nn : Nat) (nr : Nat) (hnr : nr ≤ 12) (hr : M.1 3 1 = nI nr) (nt : Nat) (hnt : nt ≤ 10) (ht : M.1 3 2 = nI nt) (nf : Nat) (hnf : nf ≤ 6) (hf : M.1 3 3 = nI nf) (hnn : nn = 150) : ∀ (k0 : Nat) (i2 : Nat) (q1 : (Nat → Int32)) (q33 : (Nat → Int32)) (q34 : (Nat → Int32)) (q35 : (Nat → Int32)) (q36 : (Nat → Int32)), i2 + k0 = nn → x_readFrom_7_ok (M.1 2) nr nt nf k0 i2 q1 q33 q34 q35 q36 → (match x_readFrom_7 (M.1 2) nr nt nf k0 i2 q1 q33 q34 q35 q36 with | (q1', q33', q34', q35', q36') => G z mX9_readFrom (d + 61) 0 0 34 [none, none, none] [] (mrow (mrow (mrow (mrow (mrow M 1 (q1')) 33 (q33')) 34 (q34')) 35 (q35')) 36 (q36')) Q) → G z mX9_readFrom (d + 61) 0 0 7 [some (.ref 33), some (.ref 1), some (.int (nI i2))] [] (mrow (mrow (mrow (mrow (mrow M 1 q1) 33 q33) 34 q34) 35 q35) 36 q36) Q := by
  intro k0
  induction k0 with
  | zero =>
      intro i2 q1 q33 q34 q35 q36 hn hk hX
      refine G.sl [(.iload_n 2, 1, 2, 0, 0, 0), (.sipush 150, 3, 0, 0, 0, nI 150)] [] (pc2 := 11) (ls2 := [some (.ref 33), some (.ref 1), some (.int (nI i2))]) (st2 := [.int (nI 150), .int (nI i2)]) (M2 := mrow (mrow (mrow (mrow (mrow M 1 q1) 33 q33) 34 q34) 35 q35) 36 q36) (Ps := []) (by decide +kernel) rfl rfl trivial ?_
      refine G.ic_ge (off := (23)) (tgt := 34) (by decide +kernel) rfl (fun _ => ?_) (fun h9 => absurd (nI_le (by omega) (by omega)) h9)
      refine G.loc (ls2 := [none, none, none]) (by simp [subL]) ?_
      simp only [x_readFrom_7] at hX
      exact hX
  | succ k0 ih =>
      intro i2 q1 q33 q34 q35 q36 hn hk hX
      simp only [x_readFrom_7_ok] at hk
      refine G.sl [(.iload_n 2, 1, 2, 0, 0, 0), (.sipush 150, 3, 0, 0, 0, nI 150)] [] (pc2 := 11) (ls2 := [some (.ref 33), some (.ref 1), some (.int (nI i2))]) (st2 := [.int (nI 150), .int (nI i2)]) (M2 := mrow (mrow (mrow (mrow (mrow M 1 q1) 33 q33) 34 q34) 35 q35) 36 q36) (Ps := []) (by decide +kernel) rfl rfl trivial ?_
      refine G.ic_ge (off := (23)) (tgt := 34) (by decide +kernel) rfl (fun h9 => absurd h9 (nI_ge (by omega) (by omega))) (fun _ => ?_)
      refine G.sl [(.aload_n 1, 1, 1, 0, 0, 0)] [] (pc2 := 15) (ls2 := [some (.ref 33), some (.ref 1), some (.int (nI i2))]) (st2 := [.ref 1]) (M2 := mrow (mrow (mrow (mrow (mrow M 1 q1) 33 q33) 34 q34) 35 q35) 36 q36) (Ps := []) (by decide +kernel) rfl rfl trivial ?_
      obtain ⟨k1, hk⟩ := hk
      rcases g2 : t_next q1 (M.1 2) with ⟨v3, r4⟩
      try simp only [g2] at hk
      have t5 : GM z mX6_next (d + 60) [.ref 1] (mrow (mrow (mrow (mrow (mrow M 1 q1) 33 q33) 34 q34) 35 q35) 36 q36) (fun rs => rs = .inl (some (.int v3), mrow (mrow (mrow (mrow (mrow M 1 r4) 33 q33) 34 q34) 35 q35) 36 q36)) := by
        have q9 := c_t_next_1 z (d + 60) (mrow (mrow (mrow (mrow (mrow M 1 q1) 33 q33) 34 q34) 35 q35) 36 q36) k1
        try simp only [mput, mrow_same, mrow_hit, mrow_miss, mrow_sw, idr_eq, ne_eq, Nat.reduceEqDiff, not_false_eq_true, Nat.reduceLT, reduceCtorEq, g2] at q9
        exact q9
      refine G.callV (as := []) (rest := []) (a := 1) oX6_next lk_EvenFinders_Work_29 (by decide +kernel) rfl rfl ⟨rfl, rfl⟩ (Nat.le_of_ble_eq_true rfl) rfl ⟨Nat.le_of_ble_eq_true rfl, Nat.le_of_ble_eq_true rfl⟩ t5 (fun v9 N9 h6 => ?_) (fun E9 N9 h6 => by cases h6)
      cases h6
      show G z mX9_readFrom (d + 61) 0 0 18 [some (.ref 33), some (.ref 1), some (.int (nI i2))] [.int v3] (mrow (mrow (mrow (mrow (mrow M 1 r4) 33 q33) 34 q34) 35 q35) 36 q36) Q
      refine G.sl [(.iconst (-1), 1, 0, 0, 0, (-1))] [] (pc2 := 19) (ls2 := [some (.ref 33), some (.ref 1), some (.int (nI i2))]) (st2 := [.int ((-1)), .int v3]) (M2 := mrow (mrow (mrow (mrow (mrow M 1 r4) 33 q33) 34 q34) 35 q35) 36 q36) (Ps := []) (by decide +kernel) rfl rfl trivial ?_
      refine G.ic_eq (off := (15)) (tgt := 34) (by decide +kernel) rfl (fun c7 => ?_) (fun c7 => ?_)
      · skip
        rw [if_pos c7] at hk
        refine G.loc (ls2 := [none, none, none]) (by simp [subL]) ?_
        simp only [x_readFrom_7, g2, if_pos c7] at hX
        exact hX
      · skip
        rw [if_neg c7] at hk
        refine G.sl [(.aload_n 0, 1, 0, 0, 0, 0), (.aload_n 1, 1, 1, 0, 0, 0), (.iconst 0, 1, 0, 0, 0, nI 0)] [] (pc2 := 25) (ls2 := [some (.ref 33), some (.ref 1), some (.int (nI i2))]) (st2 := [.int (nI 0), .ref 1, .ref 33]) (M2 := mrow (mrow (mrow (mrow (mrow M 1 r4) 33 q33) 34 q34) 35 q35) 36 q36) (Ps := []) (by decide +kernel) rfl rfl trivial ?_
        obtain ⟨k8, hk⟩ := hk
        rcases g9 : x_readStep r4 (M.1 2) q33 q34 q35 q36 nr nt nf (nI 0) with ⟨u10, r11, r12, r13, r14, r15⟩
        try simp only [g9] at hk
        have t16 : GM z mX9_readStep (d + 60) [.ref 33, .ref 1, .int (nI 0)] (mrow (mrow (mrow (mrow (mrow M 1 r4) 33 q33) 34 q34) 35 q35) 36 q36) (fun rs => rs = .inl (none, mrow (mrow (mrow (mrow (mrow M 1 r11) 33 r12) 34 r13) 35 r14) 36 r15)) := by
          have q9 := c_x_readStep_33_1 z d (mrow (mrow (mrow (mrow (mrow M 1 r4) 33 q33) 34 q34) 35 q35) 36 q36) (nI 0) nr hnr hr nt hnt ht nf hnf hf k8
          try simp only [mput, mrow_same, mrow_hit, mrow_miss, mrow_sw, idr_eq, ne_eq, Nat.reduceEqDiff, not_false_eq_true, Nat.reduceLT, reduceCtorEq, g9] at q9
          exact q9
        refine G.callV (as := [.ref 1, .int (nI 0)]) (rest := []) (a := 33) oX9_readStep lk_EvenFinders_Work_35 (by decide +kernel) rfl rfl ⟨rfl, rfl⟩ (Nat.le_of_ble_eq_true rfl) rfl ⟨Nat.le_of_ble_eq_true rfl, Nat.le_of_ble_eq_true rfl⟩ t16 (fun v9 N9 h17 => ?_) (fun E9 N9 h17 => by cases h17)
        cases h17
        show G z mX9_readFrom (d + 61) 0 0 28 [some (.ref 33), some (.ref 1), some (.int (nI i2))] [] (mrow (mrow (mrow (mrow (mrow M 1 r11) 33 r12) 34 r13) 35 r14) 36 r15) Q
        refine G.sl [(.iinc 2 1, 3, 2, 0, 0, nI 1), (.goto (-24), 3, 7, 0, 0, 0)] [] (pc2 := 7) (ls2 := [some (.ref 33), some (.ref 1), some (.int ((nI i2) + nI 1))]) (st2 := []) (M2 := mrow (mrow (mrow (mrow (mrow M 1 r11) 33 r12) 34 r13) 35 r14) 36 r15) (Ps := []) (by decide +kernel) rfl rfl trivial ?_
        rw [nI_add i2 1]
        simp only [x_readFrom_7, g2, if_neg c7, g9] at hX
        exact ih (i2 + 1) r11 r12 r13 r14 r15 (by omega) hk hX
set_option maxHeartbeats 4000000 in
set_option maxRecDepth 3000 in
theorem c_x_readFrom_33_1 (z : Zp) (d : Nat) (M : Mem) (nr : Nat) (hnr : nr ≤ 12) (hr : M.1 3 1 = nI nr) (nt : Nat) (hnt : nt ≤ 10) (ht : M.1 3 2 = nI nt) (nf : Nat) (hnf : nf ≤ 6) (hf : M.1 3 3 = nI nf) (hk : x_readFrom_ok (M.1 1) (M.1 2) (M.1 33) (M.1 34) (M.1 35) (M.1 36) nr nt nf) : GM z mX9_readFrom (d + 61) [.ref 33, .ref 1] M (fun rs => rs = .inl (none, mrow (mrow (mrow (mrow (mrow M 1 ((x_readFrom (M.1 1) (M.1 2) (M.1 33) (M.1 34) (M.1 35) (M.1 36) nr nt nf).2.1)) 33 ((x_readFrom (M.1 1) (M.1 2) (M.1 33) (M.1 34) (M.1 35) (M.1 36) nr nt nf).2.2.1)) 34 ((x_readFrom (M.1 1) (M.1 2) (M.1 33) (M.1 34) (M.1 35) (M.1 36) nr nt nf).2.2.2.1)) 35 ((x_readFrom (M.1 1) (M.1 2) (M.1 33) (M.1 34) (M.1 35) (M.1 36) nr nt nf).2.2.2.2.1)) 36 ((x_readFrom (M.1 1) (M.1 2) (M.1 33) (M.1 34) (M.1 35) (M.1 36) nr nt nf).2.2.2.2.2))) := by
  simp only [x_readFrom_ok] at hk
  refine GM.of oX9_readFrom.1 (Nat.le_of_ble_eq_true rfl) ?_
  show G z mX9_readFrom (d + 61) 0 0 0 [some (.ref 33), some (.ref 1), none] [] M _
  obtain ⟨Q, hQ⟩ : ∃ Q : Rs → Prop, Q = (fun rs => rs = .inl (none, mrow (mrow (mrow (mrow (mrow M 1 ((x_readFrom (M.1 1) (M.1 2) (M.1 33) (M.1 34) (M.1 35) (M.1 36) nr nt nf).2.1)) 33 ((x_readFrom (M.1 1) (M.1 2) (M.1 33) (M.1 34) (M.1 35) (M.1 36) nr nt nf).2.2.1)) 34 ((x_readFrom (M.1 1) (M.1 2) (M.1 33) (M.1 34) (M.1 35) (M.1 36) nr nt nf).2.2.2.1)) 35 ((x_readFrom (M.1 1) (M.1 2) (M.1 33) (M.1 34) (M.1 35) (M.1 36) nr nt nf).2.2.2.2.1)) 36 ((x_readFrom (M.1 1) (M.1 2) (M.1 33) (M.1 34) (M.1 35) (M.1 36) nr nt nf).2.2.2.2.2))) := ⟨_, rfl⟩
  rw [← hQ]
  refine G.sl [(.aload_n 0, 1, 0, 0, 0, 0), (.iconst 0, 1, 0, 0, 0, nI 0), (.putfield 25, 3, 8, 3, 68, 0), (.iconst 0, 1, 0, 0, 0, nI 0), (.istore_n 2, 1, 2, 0, 0, 0)] [] (pc2 := 7) (ls2 := [some (.ref 33), some (.ref 1), some (.int (nI 0))]) (st2 := []) (M2 := mput M 33 3 (nI 0)) (Ps := []) (by decide +kernel) rfl rfl trivial ?_
  refine G.mem (M' := mrow M 33 (upd (M.1 33) 3 (nI 0))) (by first | rfl | (simp only [mput, mrow_same, mrow_hit, mrow_miss, mrow_sw, idr_eq, ne_eq, Nat.reduceEqDiff, not_false_eq_true, Nat.reduceLT, reduceCtorEq]; done)) ?_
  obtain ⟨k18, hk⟩ := hk
  refine G.mem (M' := mrow (mrow (mrow (mrow (mrow (mrow M 33 (upd (M.1 33) 3 (nI 0))) 1 ((mrow M 33 (upd (M.1 33) 3 (nI 0))).1 1)) 33 ((mrow M 33 (upd (M.1 33) 3 (nI 0))).1 33)) 34 ((mrow M 33 (upd (M.1 33) 3 (nI 0))).1 34)) 35 ((mrow M 33 (upd (M.1 33) 3 (nI 0))).1 35)) 36 ((mrow M 33 (upd (M.1 33) 3 (nI 0))).1 36)) (by simp only [mrow_self]) ?_
  refine lp_x_readFrom_33_1_7 z d (mrow M 33 (upd (M.1 33) 3 (nI 0))) Q (cN 150) nr hnr hr nt hnt ht nf hnf hf (cN_eq 150) (cN 150) 0 ((mrow M 33 (upd (M.1 33) 3 (nI 0))).1 1) ((mrow M 33 (upd (M.1 33) 3 (nI 0))).1 33) ((mrow M 33 (upd (M.1 33) 3 (nI 0))).1 34) ((mrow M 33 (upd (M.1 33) 3 (nI 0))).1 35) ((mrow M 33 (upd (M.1 33) 3 (nI 0))).1 36) (Nat.zero_add _) (by first | (simp only [mput, mrow_same, mrow_hit, mrow_miss, mrow_sw, idr_eq, ne_eq, Nat.reduceEqDiff, not_false_eq_true, Nat.reduceLT, reduceCtorEq]; exact k18) | exact k18) ?_
  try simp only [mput, mrow_same, mrow_hit, mrow_miss, mrow_sw, idr_eq, ne_eq, Nat.reduceEqDiff, not_false_eq_true, Nat.reduceLT, reduceCtorEq]
  rcases g19 : x_readFrom_7 (M.1 2) nr nt nf (cN 150) 0 (M.1 1) (upd (M.1 33) 3 (nI 0)) (M.1 34) (M.1 35) (M.1 36) with ⟨r20, r21, r22, r23, r24⟩
  show G z mX9_readFrom (d + 61) 0 0 34 [none, none, none] [] (mrow (mrow (mrow (mrow (mrow M 1 r20) 33 r21) 34 r22) 35 r23) 36 r24) Q
  exact G.retv (by decide +kernel) rfl (Nat.le_of_ble_eq_true rfl) (Nat.le_of_ble_eq_true rfl) ((by rw [hQ]; simp only [x_readFrom, g19, mrow_self]))
set_option maxHeartbeats 4000000 in
set_option maxRecDepth 3000 in
theorem lp_x_doSteps_33_37_st_58 (z : Zp) (d : Nat) (M : Mem) (Q : Rs → Prop) (x3 : Int32) (x4 : Int32) (x5 : Int32) (x6 : Int32) (nt : Nat) (hnt : nt ≤ 10) (ht : M.1 3 2 = nI nt) (nf : Nat) (hnf : nf ≤ 6) (hf : M.1 3 3 = nI nf) (fz : (Nat → Int32) → (Nat → Int32) → (Nat → Int32) → (Nat → Int32) → (Nat → Int32) → (Nat → Int32) → (Nat → Int32) → (Nat → Int32) → (Nat → Int32) → (Nat → Int32) → (Nat → Int32) → (Nat → Int32) → (Nat → Int32) → Int32 → Int32 → Int32 → Int32 × (Nat → Int32) × (Nat → Int32) × (Nat → Int32) × (Nat → Int32)) (gz : (Nat → Int32) → (Nat → Int32) → (Nat → Int32) → (Nat → Int32) → (Nat → Int32) → (Nat → Int32) → (Nat → Int32) → (Nat → Int32) → (Nat → Int32) → (Nat → Int32) → (Nat → Int32) → (Nat → Int32) → (Nat → Int32) → Int32 → Int32 → Int32 → Prop) (Hz : ∀ (j : Nat) (M : Mem) (x2 : Int32) (x3 : Int32) (x4 : Int32), M.1 3 2 = nI nt → M.1 3 3 = nI nf → gz (M.1 4) (M.1 5) (M.1 6) (M.1 7) (M.1 21) (M.1 22) (M.1 23) (M.1 24) (M.1 33) (M.1 34) (M.1 35) (M.1 36) (M.1 38) x2 x3 x4 → GM z mX9_doSteps (d + j) [.ref 33, .ref 37, .int x2, .int x3, .int x4] M (fun rs => rs = .inl (none, mrow (mrow (mrow (mrow M 22 ((fz (M.1 4) (M.1 5) (M.1 6) (M.1 7) (M.1 21) (M.1 22) (M.1 23) (M.1 24) (M.1 33) (M.1 34) (M.1 35) (M.1 36) (M.1 38) x2 x3 x4).2.1)) 24 ((fz (M.1 4) (M.1 5) (M.1 6) (M.1 7) (M.1 21) (M.1 22) (M.1 23) (M.1 24) (M.1 33) (M.1 34) (M.1 35) (M.1 36) (M.1 38) x2 x3 x4).2.2.1)) 33 ((fz (M.1 4) (M.1 5) (M.1 6) (M.1 7) (M.1 21) (M.1 22) (M.1 23) (M.1 24) (M.1 33) (M.1 34) (M.1 35) (M.1 36) (M.1 38) x2 x3 x4).2.2.2.1)) 38 ((fz (M.1 4) (M.1 5) (M.1 6) (M.1 7) (M.1 21) (M.1 22) (M.1 23) (M.1 24) (M.1 33) (M.1 34) (M.1 35) (M.1 36) (M.1 38) x2 x3 x4).2.2.2.2)))) : ∀ (k0 : Nat) (s7 : Int32) (q22 : (Nat → Int32)) (q24 : (Nat → Int32)) (q33 : (Nat → Int32)) (q38 : (Nat → Int32)), x_doSteps_st_58_ok fz gz (M.1 4) (M.1 5) (M.1 6) (M.1 7) (M.1 21) (M.1 23) (M.1 34) (M.1 35) (M.1 36) x3 x4 x5 x6 k0 s7 q22 q24 q33 q38 → (match x_doSteps_st_58 fz (M.1 4) (M.1 5) (M.1 6) (M.1 7) (M.1 21) (M.1 23) (M.1 34) (M.1 35) (M.1 36) x3 x4 x5 x6 k0 s7 q22 q24 q33 q38 with | (s7', q22', q24', q33', q38') => G z mX9_doSteps (d + 5) 0 0 106 [some (.ref 33), some (.ref 37), none, some (.int x3), some (.int x4), some (.int x5), some (.int x6), none] [] (mrow (mrow (mrow (mrow M 22 (q22')) 24 (q24')) 33 (q33')) 38 (q38')) Q) → G z mX9_doSteps (d + 5) 0 0 58 [some (.ref 33), some (.ref 37), none, some (.int x3), some (.int x4), some (.int x5), some (.int x6), some (.int s7)] [] (mrow (mrow (mrow (mrow M 22 q22) 24 q24) 33 q33) 38 q38) Q := by
  intro k0
  induction k0 with
  | zero =>
      intro s7 q22 q24 q33 q38 hk hX
      exact (by simpa only [x_doSteps_st_58_ok] using hk : False).elim
  | succ k0 ih =>
      intro s7 q22 q24 q33 q38 hk hX
      simp only [x_doSteps_st_58_ok] at hk
      obtain ⟨k16, k17, hk⟩ := hk
      refine G.sl [(.iload 7, 2, 7, 0, 0, 0), (.aload_n 0, 1, 0, 0, 0, 0), (.getfield 15, 3, 8, 6, 71, 0), (.iload 6, 2, 6, 0, 0, 0), (.iaload, 1, 0, 0, 0, 0)] [ix x6] (pc2 := 67) (ls2 := [some (.ref 33), some (.ref 37), none, some (.int x3), some (.int x4), some (.int x5), some (.int x6), some (.int s7)]) (st2 := [.int (M.1 35 (ix x6)), .int s7]) (M2 := mrow (mrow (mrow (mrow M 22 q22) 24 q24) 33 q33) 38 q38) (Ps := [x6 = nI (ix x6) ∧ (ix x6) < 150]) (by decide +kernel) rfl rfl ⟨⟨(ixE k16), k17⟩, trivial⟩ ?_
      refine G.ic_ge (off := (39)) (tgt := 106) (by decide +kernel) rfl (fun c18 => ?_) (fun c18 => ?_)
      · skip
        rw [if_pos c18] at hk
        refine G.loc (ls2 := [some (.ref 33), some (.ref 37), none, some (.int x3), some (.int x4), some (.int x5), some (.int x6), none]) (by simp [subL]) ?_
        simp only [x_doSteps_st_58, if_pos c18] at hX
        exact hX
      · skip
        rw [if_neg c18] at hk
        refine G.sl [(.aload_n 0, 1, 0, 0, 0, 0), (.getfield 78, 3, 8, 2, 67, 0), (.sipush 200, 3, 0, 0, 0, nI 200)] [] (pc2 := 77) (ls2 := [some (.ref 33), some (.ref 37), none, some (.int x3), some (.int x4), some (.int x5), some (.int x6), some (.int s7)]) (st2 := [.int (nI 200), .int (q33 2)]) (M2 := mrow (mrow (mrow (mrow M 22 q22) 24 q24) 33 q33) 38 q38) (Ps := []) (by decide +kernel) rfl rfl trivial ?_
        refine G.ic_ge (off := (29)) (tgt := 106) (by decide +kernel) rfl (fun c19 => ?_) (fun c19 => ?_)
        · skip
          rw [if_pos c19] at hk
          refine G.loc (ls2 := [some (.ref 33), some (.ref 37), none, some (.int x3), some (.int x4), some (.int x5), some (.int x6), none]) (by simp [subL]) ?_
          simp only [x_doSteps_st_58, if_neg c18, if_pos c19] at hX
          exact hX
        · skip
          rw [if_neg c19] at hk
          refine G.sl [(.aload_n 0, 1, 0, 0, 0, 0), (.aload_n 1, 1, 1, 0, 0, 0), (.iload 6, 2, 6, 0, 0, 0), (.iconst 1, 1, 0, 0, 0, nI 1), (.iadd, 1, 0, 0, 0, 0), (.aload_n 0, 1, 0, 0, 0, 0), (.getfield 18, 3, 8, 7, 72, 0), (.iload 6, 2, 6, 0, 0, 0), (.iaload, 1, 0, 0, 0, 0), (.iload 4, 2, 4, 0, 0, 0), (.iconst 1, 1, 0, 0, 0, nI 1), (.iadd, 1, 0, 0, 0, 0)] [ix x6] (pc2 := 97) (ls2 := [some (.ref 33), some (.ref 37), none, some (.int x3), some (.int x4), some (.int x5), some (.int x6), some (.int s7)]) (st2 := [.int (x4 + (nI 1)), .int (M.1 36 (ix x6)), .int (x6 + (nI 1)), .ref 37, .ref 33]) (M2 := mrow (mrow (mrow (mrow M 22 q22) 24 q24) 33 q33) 38 q38) (Ps := [x6 = nI (ix x6) ∧ (ix x6) < 150]) (by decide +kernel) rfl rfl ⟨⟨(ixE k16), k17⟩, trivial⟩ ?_
          obtain ⟨k20, hk⟩ := hk
          rcases g21 : fz (M.1 4) (M.1 5) (M.1 6) (M.1 7) (M.1 21) q22 (M.1 23) q24 q33 (M.1 34) (M.1 35) (M.1 36) q38 (x6 + (nI 1)) (M.1 36 (ix x6)) (x4 + (nI 1)) with ⟨u22, r23, r24, r25, r26⟩
          try simp only [g21] at hk
          have t27 : GM z mX9_doSteps (d + 4) [.ref 33, .ref 37, .int (x6 + (nI 1)), .int (M.1 36 (ix x6)), .int (x4 + (nI 1))] (mrow (mrow (mrow (mrow M 22 q22) 24 q24) 33 q33) 38 q38) (fun rs => rs = .inl (none, mrow (mrow (mrow (mrow M 22 r23) 24 r24) 33 r25) 38 r26)) := by
            have q9 := Hz 4 (mrow (mrow (mrow (mrow M 22 q22) 24 q24) 33 q33) 38 q38) (x6 + (nI 1)) (M.1 36 (ix x6)) (x4 + (nI 1)) ht hf
            try simp only [mput, mrow_same, mrow_hit, mrow_miss, mrow_sw, idr_eq, ne_eq, Nat.reduceEqDiff, not_false_eq_true, Nat.reduceLT, reduceCtorEq, g21] at q9
            exact q9 (by first | exact k20 | (simp only [mput, mrow_same, mrow_hit, mrow_miss, mrow_sw, idr_eq, ne_eq, Nat.reduceEqDiff, not_false_eq_true, Nat.reduceLT, reduceCtorEq]; exact k20))
          refine G.callV (as := [.ref 37, .int (x6 + (nI 1)), .int (M.1 36 (ix x6)), .int (x4 + (nI 1))]) (rest := []) (a := 33) oX9_doSteps lk_EvenFinders_Work_87 (by decide +kernel) rfl rfl ⟨rfl, rfl⟩ (Nat.le_of_ble_eq_true rfl) rfl ⟨Nat.le_of_ble_eq_true rfl, Nat.le_of_ble_eq_true rfl⟩ t27 (fun v9 N9 h28 => ?_) (fun E9 N9 h28 => by cases h28)
          cases h28
          show G z mX9_doSteps (d + 5) 0 0 100 [some (.ref 33), some (.ref 37), none, some (.int x3), some (.int x4), some (.int x5), some (.int x6), some (.int s7)] [] (mrow (mrow (mrow (mrow M 22 r23) 24 r24) 33 r25) 38 r26) Q
          refine G.sl [(.iinc 7 1, 3, 7, 0, 0, nI 1), (.goto (-45), 3, 58, 0, 0, 0)] [] (pc2 := 58) (ls2 := [some (.ref 33), some (.ref 37), none, some (.int x3), some (.int x4), some (.int x5), some (.int x6), some (.int (s7 + nI 1))]) (st2 := []) (M2 := mrow (mrow (mrow (mrow M 22 r23) 24 r24) 33 r25) 38 r26) (Ps := []) (by decide +kernel) rfl rfl trivial ?_
          simp only [x_doSteps_st_58, if_neg c18, if_neg c19, g21] at hX
          exact ih (s7 + nI 1) r23 r24 r25 r26 hk hX
set_option maxHeartbeats 4000000 in
set_option maxRecDepth 3000 in
theorem lp_x_doSteps_33_37_st_11 (z : Zp) (d : Nat) (M : Mem) (Q : Rs → Prop) (x3 : Int32) (x4 : Int32) (nt : Nat) (hnt : nt ≤ 10) (ht : M.1 3 2 = nI nt) (nf : Nat) (hnf : nf ≤ 6) (hf : M.1 3 3 = nI nf) (fz : (Nat → Int32) → (Nat → Int32) → (Nat → Int32) → (Nat → Int32) → (Nat → Int32) → (Nat → Int32) → (Nat → Int32) → (Nat → Int32) → (Nat → Int32) → (Nat → Int32) → (Nat → Int32) → (Nat → Int32) → (Nat → Int32) → Int32 → Int32 → Int32 → Int32 × (Nat → Int32) × (Nat → Int32) × (Nat → Int32) × (Nat → Int32)) (gz : (Nat → Int32) → (Nat → Int32) → (Nat → Int32) → (Nat → Int32) → (Nat → Int32) → (Nat → Int32) → (Nat → Int32) → (Nat → Int32) → (Nat → Int32) → (Nat → Int32) → (Nat → Int32) → (Nat → Int32) → (Nat → Int32) → Int32 → Int32 → Int32 → Prop) (Hz : ∀ (j : Nat) (M : Mem) (x2 : Int32) (x3 : Int32) (x4 : Int32), M.1 3 2 = nI nt → M.1 3 3 = nI nf → gz (M.1 4) (M.1 5) (M.1 6) (M.1 7) (M.1 21) (M.1 22) (M.1 23) (M.1 24) (M.1 33) (M.1 34) (M.1 35) (M.1 36) (M.1 38) x2 x3 x4 → GM z mX9_doSteps (d + j) [.ref 33, .ref 37, .int x2, .int x3, .int x4] M (fun rs => rs = .inl (none, mrow (mrow (mrow (mrow M 22 ((fz (M.1 4) (M.1 5) (M.1 6) (M.1 7) (M.1 21) (M.1 22) (M.1 23) (M.1 24) (M.1 33) (M.1 34) (M.1 35) (M.1 36) (M.1 38) x2 x3 x4).2.1)) 24 ((fz (M.1 4) (M.1 5) (M.1 6) (M.1 7) (M.1 21) (M.1 22) (M.1 23) (M.1 24) (M.1 33) (M.1 34) (M.1 35) (M.1 36) (M.1 38) x2 x3 x4).2.2.1)) 33 ((fz (M.1 4) (M.1 5) (M.1 6) (M.1 7) (M.1 21) (M.1 22) (M.1 23) (M.1 24) (M.1 33) (M.1 34) (M.1 35) (M.1 36) (M.1 38) x2 x3 x4).2.2.2.1)) 38 ((fz (M.1 4) (M.1 5) (M.1 6) (M.1 7) (M.1 21) (M.1 22) (M.1 23) (M.1 24) (M.1 33) (M.1 34) (M.1 35) (M.1 36) (M.1 38) x2 x3 x4).2.2.2.2)))) : ∀ (k0 : Nat) (s5 : Int32) (q22 : (Nat → Int32)) (q24 : (Nat → Int32)) (q33 : (Nat → Int32)) (q38 : (Nat → Int32)), x_doSteps_st_11_ok fz gz (M.1 4) (M.1 5) (M.1 6) (M.1 7) (M.1 21) (M.1 23) (M.1 34) (M.1 35) (M.1 36) nt nf x3 x4 k0 s5 q22 q24 q33 q38 → (match x_doSteps_st_11 fz (M.1 4) (M.1 5) (M.1 6) (M.1 7) (M.1 21) (M.1 23) (M.1 34) (M.1 35) (M.1 36) nt nf x3 x4 k0 s5 q22 q24 q33 q38 with | (s5', q22', q24', q33', q38') => G z mX9_doSteps (d + 5) 0 0 177 [none, none, none, none, none, none, none, none] [] (mrow (mrow (mrow (mrow M 22 (q22')) 24 (q24')) 33 (q33')) 38 (q38')) Q) → G z mX9_doSteps (d + 5) 0 0 11 [some (.ref 33), some (.ref 37), none, some (.int x3), some (.int x4), some (.int s5), none, none] [] (mrow (mrow (mrow (mrow M 22 q22) 24 q24) 33 q33) 38 q38) Q := by
  intro k0
  induction k0 with
  | zero =>
      intro s5 q22 q24 q33 q38 hk hX
      exact (by simpa only [x_doSteps_st_11_ok] using hk : False).elim
  | succ k0 ih =>
      intro s5 q22 q24 q33 q38 hk hX
      simp only [x_doSteps_st_11_ok] at hk
      refine G.sl [(.iload 5, 2, 5, 0, 0, 0), (.iload_n 3, 1, 3, 0, 0, 0)] [] (pc2 := 14) (ls2 := [some (.ref 33), some (.ref 37), none, some (.int x3), some (.int x4), some (.int s5), none, none]) (st2 := [.int x3, .int s5]) (M2 := mrow (mrow (mrow (mrow M 22 q22) 24 q24) 33 q33) 38 q38) (Ps := []) (by decide +kernel) rfl rfl trivial ?_
      refine G.ic_ge (off := (163)) (tgt := 177) (by decide +kernel) rfl (fun c2 => ?_) (fun c2 => ?_)
      · skip
        rw [if_pos c2] at hk
        refine G.loc (ls2 := [none, none, none, none, none, none, none, none]) (by simp [subL]) ?_
        simp only [x_doSteps_st_11, if_pos c2] at hX
        exact hX
      · skip
        rw [if_neg c2] at hk
        refine G.sl [(.aload_n 0, 1, 0, 0, 0, 0), (.getfield 78, 3, 8, 2, 67, 0), (.sipush 200, 3, 0, 0, 0, nI 200)] [] (pc2 := 24) (ls2 := [some (.ref 33), some (.ref 37), none, some (.int x3), some (.int x4), some (.int s5), none, none]) (st2 := [.int (nI 200), .int (q33 2)]) (M2 := mrow (mrow (mrow (mrow M 22 q22) 24 q24) 33 q33) 38 q38) (Ps := []) (by decide +kernel) rfl rfl trivial ?_
        refine G.ic_ge (off := (153)) (tgt := 177) (by decide +kernel) rfl (fun c3 => ?_) (fun c3 => ?_)
        · skip
          rw [if_pos c3] at hk
          refine G.loc (ls2 := [none, none, none, none, none, none, none, none]) (by simp [subL]) ?_
          simp only [x_doSteps_st_11, if_neg c2, if_pos c3] at hX
          exact hX
        · skip
          rw [if_neg c3] at hk
          obtain ⟨k4, k5, hk⟩ := hk
          refine G.sl [(.aload_n 0, 1, 0, 0, 0, 0), (.dup, 1, 0, 0, 0, 0), (.getfield 78, 3, 8, 2, 67, 0), (.iconst 1, 1, 0, 0, 0, nI 1), (.iadd, 1, 0, 0, 0, 0), (.putfield 78, 3, 8, 2, 67, 0), (.iload 5, 2, 5, 0, 0, 0), (.istore 6, 2, 6, 0, 0, 0), (.iinc 5 1, 3, 5, 0, 0, nI 1), (.aload_n 0, 1, 0, 0, 0, 0), (.getfield 9, 3, 8, 5, 70, 0), (.iload 6, 2, 6, 0, 0, 0), (.iaload, 1, 0, 0, 0, 0), (.iconst 5, 1, 0, 0, 0, nI 5)] [ix s5] (pc2 := 52) (ls2 := [some (.ref 33), some (.ref 37), none, some (.int x3), some (.int x4), some (.int (s5 + nI 1)), some (.int s5), none]) (st2 := [.int (nI 5), .int (M.1 34 (ix s5))]) (M2 := mput (mrow (mrow (mrow (mrow M 22 q22) 24 q24) 33 q33) 38 q38) 33 2 ((q33 2) + (nI 1))) (Ps := [s5 = nI (ix s5) ∧ (ix s5) < 150]) (by decide +kernel) rfl rfl ⟨⟨(ixE k4), k5⟩, trivial⟩ ?_
          refine G.mem (M' := mrow (mrow (mrow (mrow M 22 q22) 24 q24) 33 (upd q33 2 ((q33 2) + (nI 1)))) 38 q38) (by first | rfl | (simp only [mput, mrow_same, mrow_hit, mrow_miss, mrow_sw, idr_eq, ne_eq, Nat.reduceEqDiff, not_false_eq_true, Nat.reduceLT, reduceCtorEq]; done)) ?_
          refine G.ic_ne (off := (71)) (tgt := 123) (by decide +kernel) rfl (fun c6 => ?_) (fun c6 => ?_)
          · skip
            rw [if_neg c6] at hk
            refine G.sl [(.aload_n 1, 1, 1, 0, 0, 0), (.aload_n 0, 1, 0, 0, 0, 0), (.getfield 9, 3, 8, 5, 70, 0), (.iload 6, 2, 6, 0, 0, 0), (.iaload, 1, 0, 0, 0, 0), (.aload_n 0, 1, 0, 0, 0, 0), (.getfield 15, 3, 8, 6, 71, 0), (.iload 6, 2, 6, 0, 0, 0), (.iaload, 1, 0, 0, 0, 0), (.aload_n 0, 1, 0, 0, 0, 0), (.getfield 18, 3, 8, 7, 72, 0), (.iload 6, 2, 6, 0, 0, 0), (.iaload, 1, 0, 0, 0, 0)] [ix s5, ix s5, ix s5] (pc2 := 145) (ls2 := [some (.ref 33), some (.ref 37), none, some (.int x3), some (.int x4), some (.int (s5 + nI 1)), some (.int s5), none]) (st2 := [.int (M.1 36 (ix s5)), .int (M.1 35 (ix s5)), .int (M.1 34 (ix s5)), .ref 37]) (M2 := mrow (mrow (mrow (mrow M 22 q22) 24 q24) 33 (upd q33 2 ((q33 2) + (nI 1)))) 38 q38) (Ps := [s5 = nI (ix s5) ∧ (ix s5) < 150, s5 = nI (ix s5) ∧ (ix s5) < 150, s5 = nI (ix s5) ∧ (ix s5) < 150]) (by decide +kernel) rfl rfl ⟨⟨(ixE k4), k5⟩, ⟨(ixE k4), k5⟩, ⟨(ixE k4), k5⟩, trivial⟩ ?_
            obtain ⟨k7, hk⟩ := hk
            rcases g8 : x_isDone (M.1 4) (M.1 5) (M.1 6) (M.1 7) (M.1 21) q22 (M.1 23) q24 q38 nt nf (M.1 34 (ix s5)) (M.1 35 (ix s5)) (M.1 36 (ix s5)) with ⟨v9, r10, r11, r12⟩
            try simp only [g8] at hk
            have ev9 : v9 = 0 ∨ v9 = 1 := by
              have q9 := x_isDone_01 (M.1 4) (M.1 5) (M.1 6) (M.1 7) (M.1 21) q22 (M.1 23) q24 q38 nt nf (M.1 34 (ix s5)) (M.1 35 (ix s5)) (M.1 36 (ix s5))
              rw [g8] at q9
              exact q9
            have t13 : GM z mX9_isDone (d + 4) [.ref 37, .int (M.1 34 (ix s5)), .int (M.1 35 (ix s5)), .int (M.1 36 (ix s5))] (mrow (mrow (mrow (mrow M 22 q22) 24 q24) 33 (upd q33 2 ((q33 2) + (nI 1)))) 38 q38) (fun rs => rs = .inl (some (.int v9), mrow (mrow (mrow (mrow M 22 r10) 24 r11) 33 (upd q33 2 ((q33 2) + (nI 1)))) 38 r12)) := by
              have q9 := c_x_isDone_37 z d (mrow (mrow (mrow (mrow M 22 q22) 24 q24) 33 (upd q33 2 ((q33 2) + (nI 1)))) 38 q38) (M.1 34 (ix s5)) (M.1 35 (ix s5)) (M.1 36 (ix s5)) nt hnt ht nf hnf hf k7
              try simp only [mput, mrow_same, mrow_hit, mrow_miss, mrow_sw, idr_eq, ne_eq, Nat.reduceEqDiff, not_false_eq_true, Nat.reduceLT, reduceCtorEq, g8] at q9
              exact q9
            refine G.callS (as := [.ref 37, .int (M.1 34 (ix s5)), .int (M.1 35 (ix s5)), .int (M.1 36 (ix s5))]) (rest := []) oX9_isDone lk_EvenFinders_Work_96 (by decide +kernel) rfl (Nat.le_of_ble_eq_true rfl) rfl ⟨Nat.le_of_ble_eq_true rfl, Nat.le_of_ble_eq_true rfl⟩ t13 (fun v9 N9 h14 => ?_) (fun E9 N9 h14 => by cases h14)
            cases h14
            show G z mX9_doSteps (d + 5) 0 0 148 [some (.ref 33), some (.ref 37), none, some (.int x3), some (.int x4), some (.int (s5 + nI 1)), some (.int s5), none] [.int v9] (mrow (mrow (mrow (mrow M 22 r10) 24 r11) 33 (upd q33 2 ((q33 2) + (nI 1)))) 38 r12) Q
            refine G.if_eq (off := (16)) (tgt := 164) (by decide +kernel) rfl (fun c15 => ?_) (fun c15 => ?_)
            · skip
              rw [if_pos c15] at hk
              refine G.sl [(.aload_n 0, 1, 0, 0, 0, 0), (.dup, 1, 0, 0, 0, 0), (.getfield 84, 3, 8, 1, 66, 0), (.iconst 1, 1, 0, 0, 0, nI 1), (.iadd, 1, 0, 0, 0, 0), (.putfield 84, 3, 8, 1, 66, 0), (.goto (-163), 3, 11, 0, 0, 0)] [] (pc2 := 11) (ls2 := [some (.ref 33), some (.ref 37), none, some (.int x3), some (.int x4), some (.int (s5 + nI 1)), some (.int s5), none]) (st2 := []) (M2 := mput (mrow (mrow (mrow (mrow M 22 r10) 24 r11) 33 (upd q33 2 ((q33 2) + (nI 1)))) 38 r12) 33 1 ((q33 1) + (nI 1))) (Ps := []) (by decide +kernel) rfl rfl trivial ?_
              refine G.mem (M' := mrow (mrow (mrow (mrow M 22 r10) 24 r11) 33 (upd (upd q33 2 ((q33 2) + (nI 1))) 1 ((q33 1) + (nI 1)))) 38 r12) (by first | rfl | (simp only [mput, mrow_same, mrow_hit, mrow_miss, mrow_sw, idr_eq, ne_eq, Nat.reduceEqDiff, not_false_eq_true, Nat.reduceLT, reduceCtorEq]; done)) ?_
              refine G.loc (ls2 := [some (.ref 33), some (.ref 37), none, some (.int x3), some (.int x4), some (.int (s5 + nI 1)), none, none]) (by simp [subL]) ?_
              simp only [x_doSteps_st_11, if_neg c2, if_neg c3, if_neg c6, g8, if_pos c15] at hX
              exact ih (s5 + nI 1) r10 r11 (upd (upd q33 2 ((q33 2) + (nI 1))) 1 ((q33 1) + (nI 1))) r12 hk hX
            · skip
              rw [if_neg c15] at hk
              refine G.sl [(.aload_n 0, 1, 0, 0, 0, 0), (.dup, 1, 0, 0, 0, 0), (.getfield 81, 3, 8, 0, 64, 0), (.iconst 1, 1, 0, 0, 0, nI 1), (.iadd, 1, 0, 0, 0, 0), (.putfield 81, 3, 8, 0, 64, 0), (.goto 13, 3, 174, 0, 0, 0), (.goto (-163), 3, 11, 0, 0, 0)] [] (pc2 := 11) (ls2 := [some (.ref 33), some (.ref 37), none, some (.int x3), some (.int x4), some (.int (s5 + nI 1)), some (.int s5), none]) (st2 := []) (M2 := mput (mrow (mrow (mrow (mrow M 22 r10) 24 r11) 33 (upd q33 2 ((q33 2) + (nI 1)))) 38 r12) 33 0 ((q33 0) + (nI 1))) (Ps := []) (by decide +kernel) rfl rfl trivial ?_
              refine G.mem (M' := mrow (mrow (mrow (mrow M 22 r10) 24 r11) 33 (upd (upd q33 2 ((q33 2) + (nI 1))) 0 ((q33 0) + (nI 1)))) 38 r12) (by first | rfl | (simp only [mput, mrow_same, mrow_hit, mrow_miss, mrow_sw, idr_eq, ne_eq, Nat.reduceEqDiff, not_false_eq_true, Nat.reduceLT, reduceCtorEq]; done)) ?_
              refine G.loc (ls2 := [some (.ref 33), some (.ref 37), none, some (.int x3), some (.int x4), some (.int (s5 + nI 1)), none, none]) (by simp [subL]) ?_
              simp only [x_doSteps_st_11, if_neg c2, if_neg c3, if_neg c6, g8, if_neg c15] at hX
              exact ih (s5 + nI 1) r10 r11 (upd (upd q33 2 ((q33 2) + (nI 1))) 0 ((q33 0) + (nI 1))) r12 hk hX
          · skip
            rw [if_pos c6] at hk
            refine G.sl [(.iconst 0, 1, 0, 0, 0, nI 0), (.istore 7, 2, 7, 0, 0, 0)] [] (pc2 := 58) (ls2 := [some (.ref 33), some (.ref 37), none, some (.int x3), some (.int x4), some (.int (s5 + nI 1)), some (.int s5), some (.int (nI 0))]) (st2 := []) (M2 := mrow (mrow (mrow (mrow M 22 q22) 24 q24) 33 (upd q33 2 ((q33 2) + (nI 1)))) 38 q38) (Ps := []) (by decide +kernel) rfl rfl trivial ?_
            obtain ⟨k29, hk⟩ := hk
            refine G.mem (M' := mrow (mrow (mrow (mrow (mrow (mrow (mrow (mrow M 22 q22) 24 q24) 33 (upd q33 2 ((q33 2) + (nI 1)))) 38 q38) 22 ((mrow (mrow (mrow (mrow M 22 q22) 24 q24) 33 (upd q33 2 ((q33 2) + (nI 1)))) 38 q38).1 22)) 24 ((mrow (mrow (mrow (mrow M 22 q22) 24 q24) 33 (upd q33 2 ((q33 2) + (nI 1)))) 38 q38).1 24)) 33 ((mrow (mrow (mrow (mrow M 22 q22) 24 q24) 33 (upd q33 2 ((q33 2) + (nI 1)))) 38 q38).1 33)) 38 ((mrow (mrow (mrow (mrow M 22 q22) 24 q24) 33 (upd q33 2 ((q33 2) + (nI 1)))) 38 q38).1 38)) (by simp only [mrow_self]) ?_
            refine lp_x_doSteps_33_37_st_58 z d (mrow (mrow (mrow (mrow M 22 q22) 24 q24) 33 (upd q33 2 ((q33 2) + (nI 1)))) 38 q38) Q x3 x4 (s5 + nI 1) s5 nt hnt ht nf hnf hf fz gz Hz FU (nI 0) ((mrow (mrow (mrow (mrow M 22 q22) 24 q24) 33 (upd q33 2 ((q33 2) + (nI 1)))) 38 q38).1 22) ((mrow (mrow (mrow (mrow M 22 q22) 24 q24) 33 (upd q33 2 ((q33 2) + (nI 1)))) 38 q38).1 24) ((mrow (mrow (mrow (mrow M 22 q22) 24 q24) 33 (upd q33 2 ((q33 2) + (nI 1)))) 38 q38).1 33) ((mrow (mrow (mrow (mrow M 22 q22) 24 q24) 33 (upd q33 2 ((q33 2) + (nI 1)))) 38 q38).1 38) (by first | (simp only [mput, mrow_same, mrow_hit, mrow_miss, mrow_sw, idr_eq, ne_eq, Nat.reduceEqDiff, not_false_eq_true, Nat.reduceLT, reduceCtorEq]; exact k29) | exact k29) ?_
            try simp only [mput, mrow_same, mrow_hit, mrow_miss, mrow_sw, idr_eq, ne_eq, Nat.reduceEqDiff, not_false_eq_true, Nat.reduceLT, reduceCtorEq]
            rcases g30 : x_doSteps_st_58 fz (M.1 4) (M.1 5) (M.1 6) (M.1 7) (M.1 21) (M.1 23) (M.1 34) (M.1 35) (M.1 36) x3 x4 (s5 + nI 1) s5 FU (nI 0) q22 q24 (upd q33 2 ((q33 2) + (nI 1))) q38 with ⟨v31, r32, r33, r34, r35⟩
            try simp only [g30] at hk
            show G z mX9_doSteps (d + 5) 0 0 106 [some (.ref 33), some (.ref 37), none, some (.int x3), some (.int x4), some (.int (s5 + nI 1)), some (.int s5), none] [] (mrow (mrow (mrow (mrow M 22 r32) 24 r33) 33 r34) 38 r35) Q
            refine G.sl [(.iload 5, 2, 5, 0, 0, 0), (.aload_n 0, 1, 0, 0, 0, 0), (.getfield 18, 3, 8, 7, 72, 0), (.iload 6, 2, 6, 0, 0, 0), (.iaload, 1, 0, 0, 0, 0)] [ix s5] (pc2 := 115) (ls2 := [some (.ref 33), some (.ref 37), none, some (.int x3), some (.int x4), some (.int (s5 + nI 1)), some (.int s5), none]) (st2 := [.int (M.1 36 (ix s5)), .int (s5 + nI 1)]) (M2 := mrow (mrow (mrow (mrow M 22 r32) 24 r33) 33 r34) 38 r35) (Ps := [s5 = nI (ix s5) ∧ (ix s5) < 150]) (by decide +kernel) rfl rfl ⟨⟨(ixE k4), k5⟩, trivial⟩ ?_
            refine G.mmax lm_EvenFinders_Work_91 (by decide +kernel) (Nat.le_of_ble_eq_true rfl) (Nat.le_of_ble_eq_true rfl) (Nat.le_of_ble_eq_true rfl) ?_
            refine G.sl [(.istore 5, 2, 5, 0, 0, 0), (.goto 54, 3, 174, 0, 0, 0), (.goto (-163), 3, 11, 0, 0, 0)] [] (pc2 := 11) (ls2 := [some (.ref 33), some (.ref 37), none, some (.int x3), some (.int x4), some (.int (if (s5 + nI 1) < (M.1 36 (ix s5)) then (M.1 36 (ix s5)) else (s5 + nI 1))), some (.int s5), none]) (st2 := []) (M2 := mrow (mrow (mrow (mrow M 22 r32) 24 r33) 33 r34) 38 r35) (Ps := []) (by decide +kernel) rfl rfl trivial ?_
            refine G.loc (ls2 := [some (.ref 33), some (.ref 37), none, some (.int x3), some (.int x4), some (.int (if (s5 + nI 1) < (M.1 36 (ix s5)) then (M.1 36 (ix s5)) else (s5 + nI 1))), none, none]) (by simp [subL]) ?_
            simp only [x_doSteps_st_11, if_neg c2, if_neg c3, if_pos c6, g30] at hX
            exact ih (if (s5 + nI 1) < (M.1 36 (ix s5)) then (M.1 36 (ix s5)) else (s5 + nI 1)) r32 r33 r34 r35 hk hX
set_option maxHeartbeats 4000000 in
set_option maxRecDepth 3000 in
theorem c_x_doSteps_33_37_st (z : Zp) (d : Nat) (M : Mem) (x2 : Int32) (x3 : Int32) (x4 : Int32) (nt : Nat) (hnt : nt ≤ 10) (ht : M.1 3 2 = nI nt) (nf : Nat) (hnf : nf ≤ 6) (hf : M.1 3 3 = nI nf) (fz : (Nat → Int32) → (Nat → Int32) → (Nat → Int32) → (Nat → Int32) → (Nat → Int32) → (Nat → Int32) → (Nat → Int32) → (Nat → Int32) → (Nat → Int32) → (Nat → Int32) → (Nat → Int32) → (Nat → Int32) → (Nat → Int32) → Int32 → Int32 → Int32 → Int32 × (Nat → Int32) × (Nat → Int32) × (Nat → Int32) × (Nat → Int32)) (gz : (Nat → Int32) → (Nat → Int32) → (Nat → Int32) → (Nat → Int32) → (Nat → Int32) → (Nat → Int32) → (Nat → Int32) → (Nat → Int32) → (Nat → Int32) → (Nat → Int32) → (Nat → Int32) → (Nat → Int32) → (Nat → Int32) → Int32 → Int32 → Int32 → Prop) (Hz : ∀ (j : Nat) (M : Mem) (x2 : Int32) (x3 : Int32) (x4 : Int32), M.1 3 2 = nI nt → M.1 3 3 = nI nf → gz (M.1 4) (M.1 5) (M.1 6) (M.1 7) (M.1 21) (M.1 22) (M.1 23) (M.1 24) (M.1 33) (M.1 34) (M.1 35) (M.1 36) (M.1 38) x2 x3 x4 → GM z mX9_doSteps (d + j) [.ref 33, .ref 37, .int x2, .int x3, .int x4] M (fun rs => rs = .inl (none, mrow (mrow (mrow (mrow M 22 ((fz (M.1 4) (M.1 5) (M.1 6) (M.1 7) (M.1 21) (M.1 22) (M.1 23) (M.1 24) (M.1 33) (M.1 34) (M.1 35) (M.1 36) (M.1 38) x2 x3 x4).2.1)) 24 ((fz (M.1 4) (M.1 5) (M.1 6) (M.1 7) (M.1 21) (M.1 22) (M.1 23) (M.1 24) (M.1 33) (M.1 34) (M.1 35) (M.1 36) (M.1 38) x2 x3 x4).2.2.1)) 33 ((fz (M.1 4) (M.1 5) (M.1 6) (M.1 7) (M.1 21) (M.1 22) (M.1 23) (M.1 24) (M.1 33) (M.1 34) (M.1 35) (M.1 36) (M.1 38) x2 x3 x4).2.2.2.1)) 38 ((fz (M.1 4) (M.1 5) (M.1 6) (M.1 7) (M.1 21) (M.1 22) (M.1 23) (M.1 24) (M.1 33) (M.1 34) (M.1 35) (M.1 36) (M.1 38) x2 x3 x4).2.2.2.2)))) (hk : x_doSteps_st_ok fz gz (M.1 4) (M.1 5) (M.1 6) (M.1 7) (M.1 21) (M.1 22) (M.1 23) (M.1 24) (M.1 33) (M.1 34) (M.1 35) (M.1 36) (M.1 38) nt nf x2 x3 x4) : GM z mX9_doSteps (d + 5) [.ref 33, .ref 37, .int x2, .int x3, .int x4] M (fun rs => rs = .inl (none, mrow (mrow (mrow (mrow M 22 ((x_doSteps_st fz (M.1 4) (M.1 5) (M.1 6) (M.1 7) (M.1 21) (M.1 22) (M.1 23) (M.1 24) (M.1 33) (M.1 34) (M.1 35) (M.1 36) (M.1 38) nt nf x2 x3 x4).2.1)) 24 ((x_doSteps_st fz (M.1 4) (M.1 5) (M.1 6) (M.1 7) (M.1 21) (M.1 22) (M.1 23) (M.1 24) (M.1 33) (M.1 34) (M.1 35) (M.1 36) (M.1 38) nt nf x2 x3 x4).2.2.1)) 33 ((x_doSteps_st fz (M.1 4) (M.1 5) (M.1 6) (M.1 7) (M.1 21) (M.1 22) (M.1 23) (M.1 24) (M.1 33) (M.1 34) (M.1 35) (M.1 36) (M.1 38) nt nf x2 x3 x4).2.2.2.1)) 38 ((x_doSteps_st fz (M.1 4) (M.1 5) (M.1 6) (M.1 7) (M.1 21) (M.1 22) (M.1 23) (M.1 24) (M.1 33) (M.1 34) (M.1 35) (M.1 36) (M.1 38) nt nf x2 x3 x4).2.2.2.2))) := by
  simp only [x_doSteps_st_ok] at hk
  refine GM.of oX9_doSteps.1 (Nat.le_of_ble_eq_true rfl) ?_
  show G z mX9_doSteps (d + 5) 0 0 0 [some (.ref 33), some (.ref 37), some (.int x2), some (.int x3), some (.int x4), none, none, none] [] M _
  obtain ⟨Q, hQ⟩ : ∃ Q : Rs → Prop, Q = (fun rs => rs = .inl (none, mrow (mrow (mrow (mrow M 22 ((x_doSteps_st fz (M.1 4) (M.1 5) (M.1 6) (M.1 7) (M.1 21) (M.1 22) (M.1 23) (M.1 24) (M.1 33) (M.1 34) (M.1 35) (M.1 36) (M.1 38) nt nf x2 x3 x4).2.1)) 24 ((x_doSteps_st fz (M.1 4) (M.1 5) (M.1 6) (M.1 7) (M.1 21) (M.1 22) (M.1 23) (M.1 24) (M.1 33) (M.1 34) (M.1 35) (M.1 36) (M.1 38) nt nf x2 x3 x4).2.2.1)) 33 ((x_doSteps_st fz (M.1 4) (M.1 5) (M.1 6) (M.1 7) (M.1 21) (M.1 22) (M.1 23) (M.1 24) (M.1 33) (M.1 34) (M.1 35) (M.1 36) (M.1 38) nt nf x2 x3 x4).2.2.2.1)) 38 ((x_doSteps_st fz (M.1 4) (M.1 5) (M.1 6) (M.1 7) (M.1 21) (M.1 22) (M.1 23) (M.1 24) (M.1 33) (M.1 34) (M.1 35) (M.1 36) (M.1 38) nt nf x2 x3 x4).2.2.2.2))) := ⟨_, rfl⟩
  rw [← hQ]
  refine G.sl [(.iload 4, 2, 4, 0, 0, 0), (.bipush 6, 2, 0, 0, 0, nI 6)] [] (pc2 := 4) (ls2 := [some (.ref 33), some (.ref 37), some (.int x2), some (.int x3), some (.int x4), none, none, none]) (st2 := [.int (nI 6), .int x4]) (M2 := M) (Ps := []) (by decide +kernel) rfl rfl trivial ?_
  refine G.ic_le (off := (4)) (tgt := 8) (by decide +kernel) rfl (fun c1 => ?_) (fun c1 => ?_)
  · skip
    rw [if_pos c1] at hk
    refine G.sl [(.iload_n 2, 1, 2, 0, 0, 0), (.istore 5, 2, 5, 0, 0, 0)] [] (pc2 := 11) (ls2 := [some (.ref 33), some (.ref 37), some (.int x2), some (.int x3), some (.int x4), some (.int x2), none, none]) (st2 := []) (M2 := M) (Ps := []) (by decide +kernel) rfl rfl trivial ?_
    refine G.loc (ls2 := [some (.ref 33), some (.ref 37), none, some (.int x3), some (.int x4), some (.int x2), none, none]) (by simp [subL]) ?_
    obtain ⟨k36, hk⟩ := hk
    refine G.mem (M' := mrow (mrow (mrow (mrow M 22 (M.1 22)) 24 (M.1 24)) 33 (M.1 33)) 38 (M.1 38)) (by simp only [mrow_self]) ?_
    refine lp_x_doSteps_33_37_st_11 z d M Q x3 x4 nt hnt ht nf hnf hf fz gz Hz FU x2 (M.1 22) (M.1 24) (M.1 33) (M.1 38) (by first | (simp only [mput, mrow_same, mrow_hit, mrow_miss, mrow_sw, idr_eq, ne_eq, Nat.reduceEqDiff, not_false_eq_true, Nat.reduceLT, reduceCtorEq]; exact k36) | exact k36) ?_
    try simp only [mput, mrow_same, mrow_hit, mrow_miss, mrow_sw, idr_eq, ne_eq, Nat.reduceEqDiff, not_false_eq_true, Nat.reduceLT, reduceCtorEq]
    rcases g37 : x_doSteps_st_11 fz (M.1 4) (M.1 5) (M.1 6) (M.1 7) (M.1 21) (M.1 23) (M.1 34) (M.1 35) (M.1 36) nt nf x3 x4 FU x2 (M.1 22) (M.1 24) (M.1 33) (M.1 38) with ⟨v38, r39, r40, r41, r42⟩
    show G z mX9_doSteps (d + 5) 0 0 177 [none, none, none, none, none, none, none, none] [] (mrow (mrow (mrow (mrow M 22 r39) 24 r40) 33 r41) 38 r42) Q
    exact G.retv (by decide +kernel) rfl (Nat.le_of_ble_eq_true rfl) (Nat.le_of_ble_eq_true rfl) ((by rw [hQ]; simp only [x_doSteps_st, if_pos c1, g37, mrow_self]))
  · skip
    rw [if_neg c1] at hk
    refine G.mem (M' := mrow (mrow (mrow (mrow M 22 (M.1 22)) 24 (M.1 24)) 33 (M.1 33)) 38 (M.1 38)) ((((((mrow_id (N := M) (c := 22) (f := M.1 22) (by first | rfl | (simp only [mput, mrow_same, mrow_hit, mrow_miss, mrow_sw, idr_eq, ne_eq, Nat.reduceEqDiff, not_false_eq_true, Nat.reduceLT, reduceCtorEq]; done))).symm).trans (mrow_id (N := mrow M 22 (M.1 22)) (c := 24) (f := M.1 24) (by first | rfl | (simp only [mput, mrow_same, mrow_hit, mrow_miss, mrow_sw, idr_eq, ne_eq, Nat.reduceEqDiff, not_false_eq_true, Nat.reduceLT, reduceCtorEq]; done))).symm).trans (mrow_id (N := mrow (mrow M 22 (M.1 22)) 24 (M.1 24)) (c := 33) (f := M.1 33) (by first | rfl | (simp only [mput, mrow_same, mrow_hit, mrow_miss, mrow_sw, idr_eq, ne_eq, Nat.reduceEqDiff, not_false_eq_true, Nat.reduceLT, reduceCtorEq]; done))).symm).trans (mrow_id (N := mrow (mrow (mrow M 22 (M.1 22)) 24 (M.1 24)) 33 (M.1 33)) (c := 38) (f := M.1 38) (by first | rfl | (simp only [mput, mrow_same, mrow_hit, mrow_miss, mrow_sw, idr_eq, ne_eq, Nat.reduceEqDiff, not_false_eq_true, Nat.reduceLT, reduceCtorEq]; done))).symm).trans (by first | rfl | (simp only [mput, mrow_same, mrow_hit, mrow_miss, mrow_sw, idr_eq, ne_eq, Nat.reduceEqDiff, not_false_eq_true, Nat.reduceLT, reduceCtorEq]; done))) ?_
    exact G.retv (by decide +kernel) rfl (Nat.le_of_ble_eq_true rfl) (Nat.le_of_ble_eq_true rfl) ((by rw [hQ]; simp only [x_doSteps_st, if_neg c1, mrow_self]))
theorem c_x_doSteps_33_37_rec (z : Zp) (nt : Nat) (hnt : nt ≤ 10) (nf : Nat) (hnf : nf ≤ 6) : ∀ (k0 d : Nat) (M : Mem) (x2 : Int32) (x3 : Int32) (x4 : Int32), M.1 3 2 = nI nt → M.1 3 3 = nI nf → x_doSteps_rec_ok nt nf k0 (M.1 4) (M.1 5) (M.1 6) (M.1 7) (M.1 21) (M.1 22) (M.1 23) (M.1 24) (M.1 33) (M.1 34) (M.1 35) (M.1 36) (M.1 38) x2 x3 x4 → GM z mX9_doSteps (d + 5 * k0) [.ref 33, .ref 37, .int x2, .int x3, .int x4] M (fun rs => rs = .inl (none, mrow (mrow (mrow (mrow M 22 ((x_doSteps_rec nt nf k0 (M.1 4) (M.1 5) (M.1 6) (M.1 7) (M.1 21) (M.1 22) (M.1 23) (M.1 24) (M.1 33) (M.1 34) (M.1 35) (M.1 36) (M.1 38) x2 x3 x4).2.1)) 24 ((x_doSteps_rec nt nf k0 (M.1 4) (M.1 5) (M.1 6) (M.1 7) (M.1 21) (M.1 22) (M.1 23) (M.1 24) (M.1 33) (M.1 34) (M.1 35) (M.1 36) (M.1 38) x2 x3 x4).2.2.1)) 33 ((x_doSteps_rec nt nf k0 (M.1 4) (M.1 5) (M.1 6) (M.1 7) (M.1 21) (M.1 22) (M.1 23) (M.1 24) (M.1 33) (M.1 34) (M.1 35) (M.1 36) (M.1 38) x2 x3 x4).2.2.2.1)) 38 ((x_doSteps_rec nt nf k0 (M.1 4) (M.1 5) (M.1 6) (M.1 7) (M.1 21) (M.1 22) (M.1 23) (M.1 24) (M.1 33) (M.1 34) (M.1 35) (M.1 36) (M.1 38) x2 x3 x4).2.2.2.2))) := by
  intro k0
  induction k0 with
  | zero =>
    intro d M x2 x3 x4 ht hf hk
    exact (by simpa only [x_doSteps_rec_ok] using hk : False).elim
  | succ k0 ih =>
    intro d M x2 x3 x4 ht hf hk
    have e9 : d + 5 * (k0 + 1) = (d + 5 * k0) + 5 := by omega
    rw [e9]
    simp only [x_doSteps_rec_ok] at hk
    have q9 := c_x_doSteps_33_37_st z (d + 5 * k0) M x2 x3 x4 nt hnt ht nf hnf hf (x_doSteps_rec nt nf k0) (x_doSteps_rec_ok nt nf k0) (fun j M x2 x3 x4 ht hf hk => by
      have q9 := ih (d + j) M x2 x3 x4 ht hf hk
      rw [show d + j + 5 * k0 = d + 5 * k0 + j by omega] at q9
      exact q9)  hk
    simp only [x_doSteps_rec]
    exact q9
theorem c_x_doSteps_33_37 (z : Zp) (d : Nat) (M : Mem) (x2 : Int32) (x3 : Int32) (x4 : Int32) (nt : Nat) (hnt : nt ≤ 10) (ht : M.1 3 2 = nI nt) (nf : Nat) (hnf : nf ≤ 6) (hf : M.1 3 3 = nI nf) (hk : x_doSteps_ok (M.1 4) (M.1 5) (M.1 6) (M.1 7) (M.1 21) (M.1 22) (M.1 23) (M.1 24) (M.1 33) (M.1 34) (M.1 35) (M.1 36) (M.1 38) nt nf x2 x3 x4) : GM z mX9_doSteps (d + 50) [.ref 33, .ref 37, .int x2, .int x3, .int x4] M (fun rs => rs = .inl (none, mrow (mrow (mrow (mrow M 22 ((x_doSteps (M.1 4) (M.1 5) (M.1 6) (M.1 7) (M.1 21) (M.1 22) (M.1 23) (M.1 24) (M.1 33) (M.1 34) (M.1 35) (M.1 36) (M.1 38) nt nf x2 x3 x4).2.1)) 24 ((x_doSteps (M.1 4) (M.1 5) (M.1 6) (M.1 7) (M.1 21) (M.1 22) (M.1 23) (M.1 24) (M.1 33) (M.1 34) (M.1 35) (M.1 36) (M.1 38) nt nf x2 x3 x4).2.2.1)) 33 ((x_doSteps (M.1 4) (M.1 5) (M.1 6) (M.1 7) (M.1 21) (M.1 22) (M.1 23) (M.1 24) (M.1 33) (M.1 34) (M.1 35) (M.1 36) (M.1 38) nt nf x2 x3 x4).2.2.2.1)) 38 ((x_doSteps (M.1 4) (M.1 5) (M.1 6) (M.1 7) (M.1 21) (M.1 22) (M.1 23) (M.1 24) (M.1 33) (M.1 34) (M.1 35) (M.1 36) (M.1 38) nt nf x2 x3 x4).2.2.2.2))) := by
  have q9 := c_x_doSteps_33_37_rec z nt hnt nf hnf (cN 10) d M x2 x3 x4 ht hf hk
  rw [show d + 5 * cN 10 = d + 50 from by rw [cN_eq]] at q9
  exact q9
set_option maxHeartbeats 4000000 in
set_option maxRecDepth 3000 in
theorem c_x_doneBy_33_37 (z : Zp) (d : Nat) (M : Mem) (nt : Nat) (hnt : nt ≤ 10) (ht : M.1 3 2 = nI nt) (nf : Nat) (hnf : nf ≤ 6) (hf : M.1 3 3 = nI nf) (hk : x_doneBy_ok (M.1 4) (M.1 5) (M.1 6) (M.1 7) (M.1 21) (M.1 22) (M.1 23) (M.1 24) (M.1 33) (M.1 34) (M.1 35) (M.1 36) (M.1 38) nt nf) : GM z mX9_doneBy (d + 51) [.ref 33, .ref 37] M (fun rs => rs = .inl (none, mrow (mrow (mrow (mrow M 22 ((x_doneBy (M.1 4) (M.1 5) (M.1 6) (M.1 7) (M.1 21) (M.1 22) (M.1 23) (M.1 24) (M.1 33) (M.1 34) (M.1 35) (M.1 36) (M.1 38) nt nf).2.1)) 24 ((x_doneBy (M.1 4) (M.1 5) (M.1 6) (M.1 7) (M.1 21) (M.1 22) (M.1 23) (M.1 24) (M.1 33) (M.1 34) (M.1 35) (M.1 36) (M.1 38) nt nf).2.2.1)) 33 ((x_doneBy (M.1 4) (M.1 5) (M.1 6) (M.1 7) (M.1 21) (M.1 22) (M.1 23) (M.1 24) (M.1 33) (M.1 34) (M.1 35) (M.1 36) (M.1 38) nt nf).2.2.2.1)) 38 ((x_doneBy (M.1 4) (M.1 5) (M.1 6) (M.1 7) (M.1 21) (M.1 22) (M.1 23) (M.1 24) (M.1 33) (M.1 34) (M.1 35) (M.1 36) (M.1 38) nt nf).2.2.2.2))) := by
  simp only [x_doneBy_ok] at hk
  refine GM.of oX9_doneBy.1 (Nat.le_of_ble_eq_true rfl) ?_
  show G z mX9_doneBy (d + 51) 0 0 0 [some (.ref 33), some (.ref 37)] [] M _
  obtain ⟨Q, hQ⟩ : ∃ Q : Rs → Prop, Q = (fun rs => rs = .inl (none, mrow (mrow (mrow (mrow M 22 ((x_doneBy (M.1 4) (M.1 5) (M.1 6) (M.1 7) (M.1 21) (M.1 22) (M.1 23) (M.1 24) (M.1 33) (M.1 34) (M.1 35) (M.1 36) (M.1 38) nt nf).2.1)) 24 ((x_doneBy (M.1 4) (M.1 5) (M.1 6) (M.1 7) (M.1 21) (M.1 22) (M.1 23) (M.1 24) (M.1 33) (M.1 34) (M.1 35) (M.1 36) (M.1 38) nt nf).2.2.1)) 33 ((x_doneBy (M.1 4) (M.1 5) (M.1 6) (M.1 7) (M.1 21) (M.1 22) (M.1 23) (M.1 24) (M.1 33) (M.1 34) (M.1 35) (M.1 36) (M.1 38) nt nf).2.2.2.1)) 38 ((x_doneBy (M.1 4) (M.1 5) (M.1 6) (M.1 7) (M.1 21) (M.1 22) (M.1 23) (M.1 24) (M.1 33) (M.1 34) (M.1 35) (M.1 36) (M.1 38) nt nf).2.2.2.2))) := ⟨_, rfl⟩
  rw [← hQ]
  refine G.sl [(.aload_n 0, 1, 0, 0, 0, 0), (.iconst 0, 1, 0, 0, 0, nI 0), (.putfield 78, 3, 8, 2, 67, 0), (.aload_n 0, 1, 0, 0, 0, 0), (.iconst 0, 1, 0, 0, 0, nI 0), (.putfield 81, 3, 8, 0, 64, 0), (.aload_n 0, 1, 0, 0, 0, 0), (.iconst 0, 1, 0, 0, 0, nI 0), (.putfield 84, 3, 8, 1, 66, 0), (.aload_n 0, 1, 0, 0, 0, 0), (.aload_n 1, 1, 1, 0, 0, 0), (.iconst 0, 1, 0, 0, 0, nI 0), (.aload_n 0, 1, 0, 0, 0, 0), (.getfield 25, 3, 8, 3, 68, 0), (.iconst 0, 1, 0, 0, 0, nI 0)] [] (pc2 := 23) (ls2 := [some (.ref 33), some (.ref 37)]) (st2 := [.int (nI 0), .int (M.1 33 3), .int (nI 0), .ref 37, .ref 33]) (M2 := mput (mput (mput M 33 2 (nI 0)) 33 0 (nI 0)) 33 1 (nI 0)) (Ps := []) (by decide +kernel) rfl rfl trivial ?_
  refine G.mem (M' := mrow M 33 (upd (upd (upd (M.1 33) 2 (nI 0)) 0 (nI 0)) 1 (nI 0))) (by first | rfl | (simp only [mput, mrow_same, mrow_hit, mrow_miss, mrow_sw, idr_eq, ne_eq, Nat.reduceEqDiff, not_false_eq_true, Nat.reduceLT, reduceCtorEq]; done)) ?_
  obtain ⟨k1, hk⟩ := hk
  rcases g2 : x_doSteps (M.1 4) (M.1 5) (M.1 6) (M.1 7) (M.1 21) (M.1 22) (M.1 23) (M.1 24) (upd (upd (upd (M.1 33) 2 (nI 0)) 0 (nI 0)) 1 (nI 0)) (M.1 34) (M.1 35) (M.1 36) (M.1 38) nt nf (nI 0) (M.1 33 3) (nI 0) with ⟨u3, r4, r5, r6, r7⟩
  have t8 : GM z mX9_doSteps (d + 50) [.ref 33, .ref 37, .int (nI 0), .int (M.1 33 3), .int (nI 0)] (mrow M 33 (upd (upd (upd (M.1 33) 2 (nI 0)) 0 (nI 0)) 1 (nI 0))) (fun rs => rs = .inl (none, mrow (mrow (mrow (mrow M 22 r4) 24 r5) 33 r6) 38 r7)) := by
    have q9 := c_x_doSteps_33_37 z d (mrow M 33 (upd (upd (upd (M.1 33) 2 (nI 0)) 0 (nI 0)) 1 (nI 0))) (nI 0) (M.1 33 3) (nI 0) nt hnt ht nf hnf hf k1
    try simp only [mput, mrow_same, mrow_hit, mrow_miss, mrow_sw, idr_eq, ne_eq, Nat.reduceEqDiff, not_false_eq_true, Nat.reduceLT, reduceCtorEq, g2] at q9
    exact q9
  refine G.callV (as := [.ref 37, .int (nI 0), .int (M.1 33 3), .int (nI 0)]) (rest := []) (a := 33) oX9_doSteps lk_EvenFinders_Work_87 (by decide +kernel) rfl rfl ⟨rfl, rfl⟩ (Nat.le_of_ble_eq_true rfl) rfl ⟨Nat.le_of_ble_eq_true rfl, Nat.le_of_ble_eq_true rfl⟩ t8 (fun v9 N9 h9 => ?_) (fun E9 N9 h9 => by cases h9)
  cases h9
  show G z mX9_doneBy (d + 51) 0 0 26 [some (.ref 33), some (.ref 37)] [] (mrow (mrow (mrow (mrow M 22 r4) 24 r5) 33 r6) 38 r7) Q
  exact G.retv (by decide +kernel) rfl (Nat.le_of_ble_eq_true rfl) (Nat.le_of_ble_eq_true rfl) ((by rw [hQ]; simp only [x_doneBy, g2, mrow_self]))
theorem k_isSmall_01 (x0 : Int32) : k_isSmall x0 = 0 ∨ k_isSmall x0 = 1 := by
  unfold k_isSmall
  repeat' split
  all_goals first | exact Or.inl rfl | exact Or.inr rfl
set_option maxHeartbeats 4000000 in
set_option maxRecDepth 3000 in
theorem c_k_isSmall (z : Zp) (d : Nat) (M : Mem) (x0 : Int32) : GM z mX12_isSmall (d) [.int x0] M (fun rs => rs = .inl (some (.int (k_isSmall x0)), M)) := by
  refine GM.of oX12_isSmall.1 (Nat.le_of_ble_eq_true rfl) ?_
  show G z mX12_isSmall (d) 0 0 0 [some (.int x0)] [] M _
  obtain ⟨Q, hQ⟩ : ∃ Q : Rs → Prop, Q = (fun rs => rs = .inl (some (.int (k_isSmall x0)), M)) := ⟨_, rfl⟩
  rw [← hQ]
  refine G.sl [(.iload_n 0, 1, 0, 0, 0, 0), (.bipush 97, 2, 0, 0, 0, nI 97)] [] (pc2 := 3) (ls2 := [some (.int x0)]) (st2 := [.int (nI 97), .int x0]) (M2 := M) (Ps := []) (by decide +kernel) rfl rfl trivial ?_
  refine G.ic_lt (off := (13)) (tgt := 16) (by decide +kernel) rfl (fun c1 => ?_) (fun c1 => ?_)
  · skip
    refine G.sl [(.iconst 0, 1, 0, 0, 0, nI 0)] [] (pc2 := 17) (ls2 := [some (.int x0)]) (st2 := [.int (nI 0)]) (M2 := M) (Ps := []) (by decide +kernel) rfl rfl trivial ?_
    exact G.reti (by decide +kernel) rfl rfl (Nat.le_of_ble_eq_true rfl) (Nat.le_of_ble_eq_true rfl) ((by rw [hQ]; simp only [k_isSmall, if_pos c1, mrow_self]))
  · skip
    refine G.sl [(.iload_n 0, 1, 0, 0, 0, 0), (.bipush 122, 2, 0, 0, 0, nI 122)] [] (pc2 := 9) (ls2 := [some (.int x0)]) (st2 := [.int (nI 122), .int x0]) (M2 := M) (Ps := []) (by decide +kernel) rfl rfl trivial ?_
    refine G.ic_gt (off := (7)) (tgt := 16) (by decide +kernel) rfl (fun c2 => ?_) (fun c2 => ?_)
    · skip
      refine G.sl [(.iconst 0, 1, 0, 0, 0, nI 0)] [] (pc2 := 17) (ls2 := [some (.int x0)]) (st2 := [.int (nI 0)]) (M2 := M) (Ps := []) (by decide +kernel) rfl rfl trivial ?_
      exact G.reti (by decide +kernel) rfl rfl (Nat.le_of_ble_eq_true rfl) (Nat.le_of_ble_eq_true rfl) ((by rw [hQ]; simp only [k_isSmall, if_neg c1, if_pos c2, mrow_self]))
    · skip
      refine G.sl [(.iconst 1, 1, 0, 0, 0, nI 1), (.goto 4, 3, 17, 0, 0, 0)] [] (pc2 := 17) (ls2 := [some (.int x0)]) (st2 := [.int (nI 1)]) (M2 := M) (Ps := []) (by decide +kernel) rfl rfl trivial ?_
      exact G.reti (by decide +kernel) rfl rfl (Nat.le_of_ble_eq_true rfl) (Nat.le_of_ble_eq_true rfl) ((by rw [hQ]; simp only [k_isSmall, if_neg c1, if_neg c2, mrow_self]))
set_option maxHeartbeats 4000000 in
set_option maxRecDepth 3000 in
theorem lp_k_word_54_14 (z : Zp) (d : Nat) (M : Mem) (Q : Rs → Prop) : ∀ (k0 : Nat) (s1 : Int32) (s2 : Int32) (s3 : Int32), k_word_14_ok (M.1 54) (M.1 56) k0 s1 s2 s3 → (match k_word_14 (M.1 54) (M.1 56) k0 s1 s2 s3 with | (s1', s2', s3') => G z mX12_word (d + 1) 0 0 67 [none, some (.int (s1')), some (.int (s2')), none] [] M Q) → G z mX12_word (d + 1) 0 0 14 [some (.ref 54), some (.int s1), some (.int s2), some (.int s3)] [] M Q := by
  intro k0
  induction k0 with
  | zero =>
      intro s1 s2 s3 hk hX
      exact (by simpa only [k_word_14_ok] using hk : False).elim
  | succ k0 ih =>
      intro s1 s2 s3 hk hX
      simp only [k_word_14_ok] at hk
      refine G.sl [(.iload_n 3, 1, 3, 0, 0, 0), (.aload_n 0, 1, 0, 0, 0, 0), (.getfield 110, 3, 11, 3, 126, 0)] [] (pc2 := 19) (ls2 := [some (.ref 54), some (.int s1), some (.int s2), some (.int s3)]) (st2 := [.int (M.1 54 3), .int s3]) (M2 := M) (Ps := []) (by decide +kernel) rfl rfl trivial ?_
      refine G.ic_ge (off := (48)) (tgt := 67) (by decide +kernel) rfl (fun c7 => ?_) (fun c7 => ?_)
      · skip
        rw [if_pos c7] at hk
        refine G.loc (ls2 := [none, some (.int s1), some (.int s2), none]) (by simp [subL]) ?_
        simp only [k_word_14, if_pos c7] at hX
        exact hX
      · skip
        rw [if_neg c7] at hk
        obtain ⟨k8, k9, hk⟩ := hk
        refine G.sl [(.aload_n 0, 1, 0, 0, 0, 0), (.getfield 20, 3, 11, 9, 132, 0), (.iload_n 3, 1, 3, 0, 0, 0), (.iaload, 1, 0, 0, 0, 0)] [ix s3] (pc2 := 28) (ls2 := [some (.ref 54), some (.int s1), some (.int s2), some (.int s3)]) (st2 := [.int (M.1 56 (ix s3))]) (M2 := M) (Ps := [s3 = nI (ix s3) ∧ (ix s3) < 600]) (by decide +kernel) rfl rfl ⟨⟨(ixE k8), k9⟩, trivial⟩ ?_
        obtain ⟨k10, hk⟩ := hk
        have t11 : GM z mX12_isSmall (d) [.int (M.1 56 (ix s3))] M (fun rs => rs = .inl (some (.int (k_isSmall (M.1 56 (ix s3)))), M)) := by
          have q9 := c_k_isSmall z d M (M.1 56 (ix s3))
          try simp only [mput, mrow_same, mrow_hit, mrow_miss, mrow_sw, idr_eq, ne_eq, Nat.reduceEqDiff, not_false_eq_true, Nat.reduceLT, reduceCtorEq] at q9
          exact q9
        refine G.callS (as := [.int (M.1 56 (ix s3))]) (rest := []) oX12_isSmall lk_EvenFindersModel_117 (by decide +kernel) rfl (Nat.le_of_ble_eq_true rfl) rfl ⟨Nat.le_of_ble_eq_true rfl, Nat.le_of_ble_eq_true rfl⟩ t11 (fun v9 N9 h12 => ?_) (fun E9 N9 h12 => by cases h12)
        cases h12
        show G z mX12_word (d + 1) 0 0 31 [some (.ref 54), some (.int s1), some (.int s2), some (.int s3)] [.int (k_isSmall (M.1 56 (ix s3)))] M Q
        refine G.if_eq (off := (36)) (tgt := 67) (by decide +kernel) rfl (fun c13 => ?_) (fun c13 => ?_)
        · skip
          rw [if_pos c13] at hk
          refine G.loc (ls2 := [none, some (.int s1), some (.int s2), none]) (by simp [subL]) ?_
          simp only [k_word_14, if_neg c7, if_pos c13] at hX
          exact hX
        · skip
          rw [if_neg c13] at hk
          refine G.sl [(.iload_n 2, 1, 2, 0, 0, 0), (.bipush 6, 2, 0, 0, 0, nI 6)] [] (pc2 := 37) (ls2 := [some (.ref 54), some (.int s1), some (.int s2), some (.int s3)]) (st2 := [.int (nI 6), .int s2]) (M2 := M) (Ps := []) (by decide +kernel) rfl rfl trivial ?_
          refine G.ic_ge (off := (19)) (tgt := 56) (by decide +kernel) rfl (fun c14 => ?_) (fun c14 => ?_)
          · skip
            rw [if_pos c14] at hk
            refine G.sl [(.iconst 0, 1, 0, 0, 0, nI 0), (.istore_n 1, 1, 1, 0, 0, 0), (.iinc 2 1, 3, 2, 0, 0, nI 1), (.iinc 3 1, 3, 3, 0, 0, nI 1), (.goto (-50), 3, 14, 0, 0, 0)] [] (pc2 := 14) (ls2 := [some (.ref 54), some (.int (nI 0)), some (.int (s2 + nI 1)), some (.int (s3 + nI 1))]) (st2 := []) (M2 := M) (Ps := []) (by decide +kernel) rfl rfl trivial ?_
            simp only [k_word_14, if_neg c7, if_neg c13, if_pos c14] at hX
            exact ih (nI 0) (s2 + nI 1) (s3 + nI 1) hk hX
          · skip
            rw [if_neg c14] at hk
            refine G.sl [(.iload_n 1, 1, 1, 0, 0, 0), (.iconst 5, 1, 0, 0, 0, nI 5), (.ishl, 1, 0, 0, 0, 0), (.aload_n 0, 1, 0, 0, 0, 0), (.getfield 20, 3, 11, 9, 132, 0), (.iload_n 3, 1, 3, 0, 0, 0), (.iaload, 1, 0, 0, 0, 0), (.bipush 96, 2, 0, 0, 0, nI 96), (.isub, 1, 0, 0, 0, 0), (.ior, 1, 0, 0, 0, 0), (.goto 4, 3, 57, 0, 0, 0), (.istore_n 1, 1, 1, 0, 0, 0), (.iinc 2 1, 3, 2, 0, 0, nI 1), (.iinc 3 1, 3, 3, 0, 0, nI 1), (.goto (-50), 3, 14, 0, 0, 0)] [ix s3] (pc2 := 14) (ls2 := [some (.ref 54), some (.int ((s1 <<< ((nI 5) &&& 31)) ||| ((M.1 56 (ix s3)) - (nI 96)))), some (.int (s2 + nI 1)), some (.int (s3 + nI 1))]) (st2 := []) (M2 := M) (Ps := [s3 = nI (ix s3) ∧ (ix s3) < 600]) (by decide +kernel) rfl rfl ⟨⟨(ixE k8), k9⟩, trivial⟩ ?_
            simp only [k_word_14, if_neg c7, if_neg c13, if_neg c14] at hX
            exact ih ((s1 <<< ((nI 5) &&& 31)) ||| ((M.1 56 (ix s3)) - (nI 96))) (s2 + nI 1) (s3 + nI 1) hk hX
set_option maxHeartbeats 4000000 in
set_option maxRecDepth 3000 in
theorem c_k_word_54 (z : Zp) (d : Nat) (M : Mem) (hk : k_word_ok (M.1 54) (M.1 56)) : GM z mX12_word (d + 1) [.ref 54] M (fun rs => rs = .inl (some (.int ((k_word (M.1 54) (M.1 56)).1)), mrow M 54 ((k_word (M.1 54) (M.1 56)).2))) := by
  simp only [k_word_ok] at hk
  refine GM.of oX12_word.1 (Nat.le_of_ble_eq_true rfl) ?_
  show G z mX12_word (d + 1) 0 0 0 [some (.ref 54), none, none, none] [] M _
  obtain ⟨Q, hQ⟩ : ∃ Q : Rs → Prop, Q = (fun rs => rs = .inl (some (.int ((k_word (M.1 54) (M.1 56)).1)), mrow M 54 ((k_word (M.1 54) (M.1 56)).2))) := ⟨_, rfl⟩
  rw [← hQ]
  refine G.sl [(.aload_n 0, 1, 0, 0, 0, 0)] [] (pc2 := 1) (ls2 := [some (.ref 54), none, none, none]) (st2 := [.ref 54]) (M2 := M) (Ps := []) (by decide +kernel) rfl rfl trivial ?_
  obtain ⟨k1, hk⟩ := hk
  rcases g2 : k_here (M.1 54) (M.1 56) with ⟨v3, r4⟩
  try simp only [g2] at hk
  have t5 : GM z mX12_here (d) [.ref 54] M (fun rs => rs = .inl (some (.int v3), mrow M 54 r4)) := by
    have q9 := c_k_here_54 z d M k1
    try simp only [mput, mrow_same, mrow_hit, mrow_miss, mrow_sw, idr_eq, ne_eq, Nat.reduceEqDiff, not_false_eq_true, Nat.reduceLT, reduceCtorEq, g2] at q9
    exact q9
  refine G.callV (as := []) (rest := []) (a := 54) oX12_here lk_EvenFindersModel_113 (by decide +kernel) rfl rfl ⟨rfl, rfl⟩ (Nat.le_of_ble_eq_true rfl) rfl ⟨Nat.le_of_ble_eq_true rfl, Nat.le_of_ble_eq_true rfl⟩ t5 (fun v9 N9 h6 => ?_) (fun E9 N9 h6 => by cases h6)
  cases h6
  show G z mX12_word (d + 1) 0 0 4 [some (.ref 54), none, none, none] [.int v3] (mrow M 54 r4) Q
  refine G.sl [(.pop, 1, 0, 0, 0, 0), (.iconst 0, 1, 0, 0, 0, nI 0), (.istore_n 1, 1, 1, 0, 0, 0), (.iconst 0, 1, 0, 0, 0, nI 0), (.istore_n 2, 1, 2, 0, 0, 0), (.aload_n 0, 1, 0, 0, 0, 0), (.getfield 107, 3, 11, 4, 127, 0), (.istore_n 3, 1, 3, 0, 0, 0)] [] (pc2 := 14) (ls2 := [some (.ref 54), some (.int (nI 0)), some (.int (nI 0)), some (.int (r4 4))]) (st2 := []) (M2 := mrow M 54 r4) (Ps := []) (by decide +kernel) rfl rfl trivial ?_
  obtain ⟨k15, hk⟩ := hk
  refine lp_k_word_54_14 z d (mrow M 54 r4) Q FU (nI 0) (nI 0) (r4 4) (by first | (simp only [mput, mrow_same, mrow_hit, mrow_miss, mrow_sw, idr_eq, ne_eq, Nat.reduceEqDiff, not_false_eq_true, Nat.reduceLT, reduceCtorEq]; exact k15) | exact k15) ?_
  try simp only [mput, mrow_same, mrow_hit, mrow_miss, mrow_sw, idr_eq, ne_eq, Nat.reduceEqDiff, not_false_eq_true, Nat.reduceLT, reduceCtorEq]
  rcases g16 : k_word_14 r4 (M.1 56) FU (nI 0) (nI 0) (r4 4) with ⟨v17, v18, v19⟩
  show G z mX12_word (d + 1) 0 0 67 [none, some (.int v17), some (.int v18), none] [] (mrow M 54 r4) Q
  refine G.sl [(.iload_n 2, 1, 2, 0, 0, 0), (.bipush 6, 2, 0, 0, 0, nI 6)] [] (pc2 := 70) (ls2 := [none, some (.int v17), some (.int v18), none]) (st2 := [.int (nI 6), .int v18]) (M2 := mrow M 54 r4) (Ps := []) (by decide +kernel) rfl rfl trivial ?_
  refine G.ic_le (off := (7)) (tgt := 77) (by decide +kernel) rfl (fun c20 => ?_) (fun c20 => ?_)
  · skip
    refine G.sl [(.iload_n 1, 1, 1, 0, 0, 0)] [] (pc2 := 78) (ls2 := [none, some (.int v17), some (.int v18), none]) (st2 := [.int v17]) (M2 := mrow M 54 r4) (Ps := []) (by decide +kernel) rfl rfl trivial ?_
    exact G.reti (by decide +kernel) rfl rfl (Nat.le_of_ble_eq_true rfl) (Nat.le_of_ble_eq_true rfl) ((by rw [hQ]; simp only [k_word, g2, g16, if_pos c20, mrow_self]))
  · skip
    refine G.sl [(.iconst 0, 1, 0, 0, 0, nI 0), (.goto 4, 3, 78, 0, 0, 0)] [] (pc2 := 78) (ls2 := [none, some (.int v17), some (.int v18), none]) (st2 := [.int (nI 0)]) (M2 := mrow M 54 r4) (Ps := []) (by decide +kernel) rfl rfl trivial ?_
    exact G.reti (by decide +kernel) rfl rfl (Nat.le_of_ble_eq_true rfl) (Nat.le_of_ble_eq_true rfl) ((by rw [hQ]; simp only [k_word, g2, g16, if_neg c20, mrow_self]))
set_option maxHeartbeats 4000000 in
set_option maxRecDepth 3000 in
theorem lp_k_of_s5_4 (z : Zp) (d : Nat) (M : Mem) (Q : Rs → Prop) (nn : Nat) (hnn : nn = 6) (hX : G z mX12_of (d + 4) 0 0 31 [none, some (.int (k_of_s5_4  nn)), none] [] M Q) : G z mX12_of (d + 4) 0 0 4 [some (.ref 1005), some (.int (nI 0)), some (.int (nI 0))] [] M Q := by
  refine down (n := nn) (P := fun i2 => G z mX12_of (d + 4) 0 0 4 [some (.ref 1005), some (.int (k_of_s5_4  i2)), some (.int (nI i2))] [] M Q) ?_ ?_ 0 (Nat.zero_le _)
  · skip
    refine G.sl [(.iload_n 2, 1, 2, 0, 0, 0), (.aload_n 0, 1, 0, 0, 0, 0)] [] (pc2 := 6) (ls2 := [some (.ref 1005), some (.int (k_of_s5_4  nn)), some (.int (nI nn))]) (st2 := [.ref 1005, .int (nI nn)]) (M2 := M) (Ps := []) (by decide +kernel) rfl rfl trivial ?_
    have t1 : GM z mJ0_length_8abf5 (d + 3) [.ref 1005] M (fun rs => rs = .inl (some (.int (nI 6)), M)) := c_slen z _ _ 5 (by decide)
    refine G.callT (as := []) (rest := [.int (nI nn)]) (i := 5) oJ0_length_8abf5 lk_EvenFindersModel_121 (by decide +kernel) rfl (by decide) rfl (Nat.le_of_ble_eq_true rfl) rfl ⟨Nat.le_of_ble_eq_true rfl, Nat.le_of_ble_eq_true rfl⟩ t1 (fun v9 N9 h2 => ?_) (fun E9 N9 h2 => by cases h2)
    cases h2
    show G z mX12_of (d + 4) 0 0 9 [some (.ref 1005), some (.int (k_of_s5_4  nn)), some (.int (nI nn))] [.int (nI 6), .int (nI nn)] M Q
    refine G.ic_ge (off := (22)) (tgt := 31) (by decide +kernel) rfl (fun _ => ?_) (fun h9 => absurd (nI_le (by omega) (by omega)) h9)
    refine G.loc (ls2 := [none, some (.int (k_of_s5_4  nn)), none]) (by simp [subL]) ?_
    exact hX
  · skip
    intro i2 hi ih
    show G z mX12_of (d + 4) 0 0 4 [some (.ref 1005), some (.int (k_of_s5_4  i2)), some (.int (nI i2))] [] M Q
    refine G.sl [(.iload_n 2, 1, 2, 0, 0, 0), (.aload_n 0, 1, 0, 0, 0, 0)] [] (pc2 := 6) (ls2 := [some (.ref 1005), some (.int (k_of_s5_4  i2)), some (.int (nI i2))]) (st2 := [.ref 1005, .int (nI i2)]) (M2 := M) (Ps := []) (by decide +kernel) rfl rfl trivial ?_
    have t3 : GM z mJ0_length_8abf5 (d + 3) [.ref 1005] M (fun rs => rs = .inl (some (.int (nI 6)), M)) := c_slen z _ _ 5 (by decide)
    refine G.callT (as := []) (rest := [.int (nI i2)]) (i := 5) oJ0_length_8abf5 lk_EvenFindersModel_121 (by decide +kernel) rfl (by decide) rfl (Nat.le_of_ble_eq_true rfl) rfl ⟨Nat.le_of_ble_eq_true rfl, Nat.le_of_ble_eq_true rfl⟩ t3 (fun v9 N9 h4 => ?_) (fun E9 N9 h4 => by cases h4)
    cases h4
    show G z mX12_of (d + 4) 0 0 9 [some (.ref 1005), some (.int (k_of_s5_4  i2)), some (.int (nI i2))] [.int (nI 6), .int (nI i2)] M Q
    refine G.ic_ge (off := (22)) (tgt := 31) (by decide +kernel) rfl (fun h9 => absurd h9 (nI_ge (by omega) (by omega))) (fun _ => ?_)
    refine G.sl [(.iload_n 1, 1, 1, 0, 0, 0), (.iconst 5, 1, 0, 0, 0, nI 5), (.ishl, 1, 0, 0, 0, 0), (.aload_n 0, 1, 0, 0, 0, 0), (.iload_n 2, 1, 2, 0, 0, 0)] [] (pc2 := 17) (ls2 := [some (.ref 1005), some (.int (k_of_s5_4  i2)), some (.int (nI i2))]) (st2 := [.int (nI i2), .ref 1005, .int ((k_of_s5_4  i2) <<< ((nI 5) &&& 31))]) (M2 := M) (Ps := []) (by decide +kernel) rfl rfl trivial ?_
    have t5 : GM z mJ0_charAt_5068e (d + 3) [.ref 1005, .int (nI i2)] M (fun rs => rs = .inl (some (.int (sby 5 i2)), M)) := c_charAt z _ _ 5 i2 (by decide) (show i2 < 6 from (by omega))
    refine G.callT (as := [.int (nI i2)]) (rest := [.int ((k_of_s5_4  i2) <<< ((nI 5) &&& 31))]) (i := 5) oJ0_charAt_5068e lk_EvenFindersModel_126 (by decide +kernel) rfl (by decide) rfl (Nat.le_of_ble_eq_true rfl) rfl ⟨Nat.le_of_ble_eq_true rfl, Nat.le_of_ble_eq_true rfl⟩ t5 (fun v9 N9 h6 => ?_) (fun E9 N9 h6 => by cases h6)
    cases h6
    show G z mX12_of (d + 4) 0 0 20 [some (.ref 1005), some (.int (k_of_s5_4  i2)), some (.int (nI i2))] [.int (sby 5 i2), .int ((k_of_s5_4  i2) <<< ((nI 5) &&& 31))] M Q
    refine G.sl [(.bipush 96, 2, 0, 0, 0, nI 96), (.isub, 1, 0, 0, 0, 0), (.ior, 1, 0, 0, 0, 0), (.istore_n 1, 1, 1, 0, 0, 0), (.iinc 2 1, 3, 2, 0, 0, nI 1), (.goto (-24), 3, 4, 0, 0, 0)] [] (pc2 := 4) (ls2 := [some (.ref 1005), some (.int (((k_of_s5_4  i2) <<< ((nI 5) &&& 31)) ||| ((sby 5 i2) - (nI 96)))), some (.int ((nI i2) + nI 1))]) (st2 := []) (M2 := M) (Ps := []) (by decide +kernel) rfl rfl trivial ?_
    rw [nI_add i2 1]
    simp only [k_of_s5_4] at ih
    exact ih
set_option maxHeartbeats 4000000 in
set_option maxRecDepth 3000 in
theorem c_k_of_s5 (z : Zp) (d : Nat) (M : Mem) : GM z mX12_of (d + 4) [.ref 1005] M (fun rs => rs = .inl (some (.int (k_of_s5 )), M)) := by
  refine GM.of oX12_of.1 (Nat.le_of_ble_eq_true rfl) ?_
  show G z mX12_of (d + 4) 0 0 0 [some (.ref 1005), none, none] [] M _
  obtain ⟨Q, hQ⟩ : ∃ Q : Rs → Prop, Q = (fun rs => rs = .inl (some (.int (k_of_s5 )), M)) := ⟨_, rfl⟩
  rw [← hQ]
  refine G.sl [(.iconst 0, 1, 0, 0, 0, nI 0), (.istore_n 1, 1, 1, 0, 0, 0), (.iconst 0, 1, 0, 0, 0, nI 0), (.istore_n 2, 1, 2, 0, 0, 0)] [] (pc2 := 4) (ls2 := [some (.ref 1005), some (.int (nI 0)), some (.int (nI 0))]) (st2 := []) (M2 := M) (Ps := []) (by decide +kernel) rfl rfl trivial ?_
  refine lp_k_of_s5_4 z d M Q (cN 6) (cN_eq 6) ?_
  show G z mX12_of (d + 4) 0 0 31 [none, some (.int (k_of_s5_4 (cN 6))), none] [] M Q
  refine G.sl [(.iload_n 1, 1, 1, 0, 0, 0)] [] (pc2 := 32) (ls2 := [none, some (.int (k_of_s5_4 (cN 6))), none]) (st2 := [.int (k_of_s5_4 (cN 6))]) (M2 := M) (Ps := []) (by decide +kernel) rfl rfl trivial ?_
  exact G.reti (by decide +kernel) rfl rfl (Nat.le_of_ble_eq_true rfl) (Nat.le_of_ble_eq_true rfl) ((by rw [hQ]; simp only [k_of_s5, mrow_self]))
set_option maxHeartbeats 4000000 in
set_option maxRecDepth 3000 in
theorem lp_k_of_s6_4 (z : Zp) (d : Nat) (M : Mem) (Q : Rs → Prop) (nn : Nat) (hnn : nn = 4) (hX : G z mX12_of (d + 4) 0 0 31 [none, some (.int (k_of_s6_4  nn)), none] [] M Q) : G z mX12_of (d + 4) 0 0 4 [some (.ref 1006), some (.int (nI 0)), some (.int (nI 0))] [] M Q := by
  refine down (n := nn) (P := fun i2 => G z mX12_of (d + 4) 0 0 4 [some (.ref 1006), some (.int (k_of_s6_4  i2)), some (.int (nI i2))] [] M Q) ?_ ?_ 0 (Nat.zero_le _)
  · skip
    refine G.sl [(.iload_n 2, 1, 2, 0, 0, 0), (.aload_n 0, 1, 0, 0, 0, 0)] [] (pc2 := 6) (ls2 := [some (.ref 1006), some (.int (k_of_s6_4  nn)), some (.int (nI nn))]) (st2 := [.ref 1006, .int (nI nn)]) (M2 := M) (Ps := []) (by decide +kernel) rfl rfl trivial ?_
    have t1 : GM z mJ0_length_8abf5 (d + 3) [.ref 1006] M (fun rs => rs = .inl (some (.int (nI 4)), M)) := c_slen z _ _ 6 (by decide)
    refine G.callT (as := []) (rest := [.int (nI nn)]) (i := 6) oJ0_length_8abf5 lk_EvenFindersModel_121 (by decide +kernel) rfl (by decide) rfl (Nat.le_of_ble_eq_true rfl) rfl ⟨Nat.le_of_ble_eq_true rfl, Nat.le_of_ble_eq_true rfl⟩ t1 (fun v9 N9 h2 => ?_) (fun E9 N9 h2 => by cases h2)
    cases h2
    show G z mX12_of (d + 4) 0 0 9 [some (.ref 1006), some (.int (k_of_s6_4  nn)), some (.int (nI nn))] [.int (nI 4), .int (nI nn)] M Q
    refine G.ic_ge (off := (22)) (tgt := 31) (by decide +kernel) rfl (fun _ => ?_) (fun h9 => absurd (nI_le (by omega) (by omega)) h9)
    refine G.loc (ls2 := [none, some (.int (k_of_s6_4  nn)), none]) (by simp [subL]) ?_
    exact hX
  · skip
    intro i2 hi ih
    show G z mX12_of (d + 4) 0 0 4 [some (.ref 1006), some (.int (k_of_s6_4  i2)), some (.int (nI i2))] [] M Q
    refine G.sl [(.iload_n 2, 1, 2, 0, 0, 0), (.aload_n 0, 1, 0, 0, 0, 0)] [] (pc2 := 6) (ls2 := [some (.ref 1006), some (.int (k_of_s6_4  i2)), some (.int (nI i2))]) (st2 := [.ref 1006, .int (nI i2)]) (M2 := M) (Ps := []) (by decide +kernel) rfl rfl trivial ?_
    have t3 : GM z mJ0_length_8abf5 (d + 3) [.ref 1006] M (fun rs => rs = .inl (some (.int (nI 4)), M)) := c_slen z _ _ 6 (by decide)
    refine G.callT (as := []) (rest := [.int (nI i2)]) (i := 6) oJ0_length_8abf5 lk_EvenFindersModel_121 (by decide +kernel) rfl (by decide) rfl (Nat.le_of_ble_eq_true rfl) rfl ⟨Nat.le_of_ble_eq_true rfl, Nat.le_of_ble_eq_true rfl⟩ t3 (fun v9 N9 h4 => ?_) (fun E9 N9 h4 => by cases h4)
    cases h4
    show G z mX12_of (d + 4) 0 0 9 [some (.ref 1006), some (.int (k_of_s6_4  i2)), some (.int (nI i2))] [.int (nI 4), .int (nI i2)] M Q
    refine G.ic_ge (off := (22)) (tgt := 31) (by decide +kernel) rfl (fun h9 => absurd h9 (nI_ge (by omega) (by omega))) (fun _ => ?_)
    refine G.sl [(.iload_n 1, 1, 1, 0, 0, 0), (.iconst 5, 1, 0, 0, 0, nI 5), (.ishl, 1, 0, 0, 0, 0), (.aload_n 0, 1, 0, 0, 0, 0), (.iload_n 2, 1, 2, 0, 0, 0)] [] (pc2 := 17) (ls2 := [some (.ref 1006), some (.int (k_of_s6_4  i2)), some (.int (nI i2))]) (st2 := [.int (nI i2), .ref 1006, .int ((k_of_s6_4  i2) <<< ((nI 5) &&& 31))]) (M2 := M) (Ps := []) (by decide +kernel) rfl rfl trivial ?_
    have t5 : GM z mJ0_charAt_5068e (d + 3) [.ref 1006, .int (nI i2)] M (fun rs => rs = .inl (some (.int (sby 6 i2)), M)) := c_charAt z _ _ 6 i2 (by decide) (show i2 < 4 from (by omega))
    refine G.callT (as := [.int (nI i2)]) (rest := [.int ((k_of_s6_4  i2) <<< ((nI 5) &&& 31))]) (i := 6) oJ0_charAt_5068e lk_EvenFindersModel_126 (by decide +kernel) rfl (by decide) rfl (Nat.le_of_ble_eq_true rfl) rfl ⟨Nat.le_of_ble_eq_true rfl, Nat.le_of_ble_eq_true rfl⟩ t5 (fun v9 N9 h6 => ?_) (fun E9 N9 h6 => by cases h6)
    cases h6
    show G z mX12_of (d + 4) 0 0 20 [some (.ref 1006), some (.int (k_of_s6_4  i2)), some (.int (nI i2))] [.int (sby 6 i2), .int ((k_of_s6_4  i2) <<< ((nI 5) &&& 31))] M Q
    refine G.sl [(.bipush 96, 2, 0, 0, 0, nI 96), (.isub, 1, 0, 0, 0, 0), (.ior, 1, 0, 0, 0, 0), (.istore_n 1, 1, 1, 0, 0, 0), (.iinc 2 1, 3, 2, 0, 0, nI 1), (.goto (-24), 3, 4, 0, 0, 0)] [] (pc2 := 4) (ls2 := [some (.ref 1006), some (.int (((k_of_s6_4  i2) <<< ((nI 5) &&& 31)) ||| ((sby 6 i2) - (nI 96)))), some (.int ((nI i2) + nI 1))]) (st2 := []) (M2 := M) (Ps := []) (by decide +kernel) rfl rfl trivial ?_
    rw [nI_add i2 1]
    simp only [k_of_s6_4] at ih
    exact ih
set_option maxHeartbeats 4000000 in
set_option maxRecDepth 3000 in
theorem c_k_of_s6 (z : Zp) (d : Nat) (M : Mem) : GM z mX12_of (d + 4) [.ref 1006] M (fun rs => rs = .inl (some (.int (k_of_s6 )), M)) := by
  refine GM.of oX12_of.1 (Nat.le_of_ble_eq_true rfl) ?_
  show G z mX12_of (d + 4) 0 0 0 [some (.ref 1006), none, none] [] M _
  obtain ⟨Q, hQ⟩ : ∃ Q : Rs → Prop, Q = (fun rs => rs = .inl (some (.int (k_of_s6 )), M)) := ⟨_, rfl⟩
  rw [← hQ]
  refine G.sl [(.iconst 0, 1, 0, 0, 0, nI 0), (.istore_n 1, 1, 1, 0, 0, 0), (.iconst 0, 1, 0, 0, 0, nI 0), (.istore_n 2, 1, 2, 0, 0, 0)] [] (pc2 := 4) (ls2 := [some (.ref 1006), some (.int (nI 0)), some (.int (nI 0))]) (st2 := []) (M2 := M) (Ps := []) (by decide +kernel) rfl rfl trivial ?_
  refine lp_k_of_s6_4 z d M Q (cN 4) (cN_eq 4) ?_
  show G z mX12_of (d + 4) 0 0 31 [none, some (.int (k_of_s6_4 (cN 4))), none] [] M Q
  refine G.sl [(.iload_n 1, 1, 1, 0, 0, 0)] [] (pc2 := 32) (ls2 := [none, some (.int (k_of_s6_4 (cN 4))), none]) (st2 := [.int (k_of_s6_4 (cN 4))]) (M2 := M) (Ps := []) (by decide +kernel) rfl rfl trivial ?_
  exact G.reti (by decide +kernel) rfl rfl (Nat.le_of_ble_eq_true rfl) (Nat.le_of_ble_eq_true rfl) ((by rw [hQ]; simp only [k_of_s6, mrow_self]))
set_option maxHeartbeats 4000000 in
set_option maxRecDepth 3000 in
theorem lp_k_of_s7_4 (z : Zp) (d : Nat) (M : Mem) (Q : Rs → Prop) (nn : Nat) (hnn : nn = 5) (hX : G z mX12_of (d + 4) 0 0 31 [none, some (.int (k_of_s7_4  nn)), none] [] M Q) : G z mX12_of (d + 4) 0 0 4 [some (.ref 1007), some (.int (nI 0)), some (.int (nI 0))] [] M Q := by
  refine down (n := nn) (P := fun i2 => G z mX12_of (d + 4) 0 0 4 [some (.ref 1007), some (.int (k_of_s7_4  i2)), some (.int (nI i2))] [] M Q) ?_ ?_ 0 (Nat.zero_le _)
  · skip
    refine G.sl [(.iload_n 2, 1, 2, 0, 0, 0), (.aload_n 0, 1, 0, 0, 0, 0)] [] (pc2 := 6) (ls2 := [some (.ref 1007), some (.int (k_of_s7_4  nn)), some (.int (nI nn))]) (st2 := [.ref 1007, .int (nI nn)]) (M2 := M) (Ps := []) (by decide +kernel) rfl rfl trivial ?_
    have t1 : GM z mJ0_length_8abf5 (d + 3) [.ref 1007] M (fun rs => rs = .inl (some (.int (nI 5)), M)) := c_slen z _ _ 7 (by decide)
    refine G.callT (as := []) (rest := [.int (nI nn)]) (i := 7) oJ0_length_8abf5 lk_EvenFindersModel_121 (by decide +kernel) rfl (by decide) rfl (Nat.le_of_ble_eq_true rfl) rfl ⟨Nat.le_of_ble_eq_true rfl, Nat.le_of_ble_eq_true rfl⟩ t1 (fun v9 N9 h2 => ?_) (fun E9 N9 h2 => by cases h2)
    cases h2
    show G z mX12_of (d + 4) 0 0 9 [some (.ref 1007), some (.int (k_of_s7_4  nn)), some (.int (nI nn))] [.int (nI 5), .int (nI nn)] M Q
    refine G.ic_ge (off := (22)) (tgt := 31) (by decide +kernel) rfl (fun _ => ?_) (fun h9 => absurd (nI_le (by omega) (by omega)) h9)
    refine G.loc (ls2 := [none, some (.int (k_of_s7_4  nn)), none]) (by simp [subL]) ?_
    exact hX
  · skip
    intro i2 hi ih
    show G z mX12_of (d + 4) 0 0 4 [some (.ref 1007), some (.int (k_of_s7_4  i2)), some (.int (nI i2))] [] M Q
    refine G.sl [(.iload_n 2, 1, 2, 0, 0, 0), (.aload_n 0, 1, 0, 0, 0, 0)] [] (pc2 := 6) (ls2 := [some (.ref 1007), some (.int (k_of_s7_4  i2)), some (.int (nI i2))]) (st2 := [.ref 1007, .int (nI i2)]) (M2 := M) (Ps := []) (by decide +kernel) rfl rfl trivial ?_
    have t3 : GM z mJ0_length_8abf5 (d + 3) [.ref 1007] M (fun rs => rs = .inl (some (.int (nI 5)), M)) := c_slen z _ _ 7 (by decide)
    refine G.callT (as := []) (rest := [.int (nI i2)]) (i := 7) oJ0_length_8abf5 lk_EvenFindersModel_121 (by decide +kernel) rfl (by decide) rfl (Nat.le_of_ble_eq_true rfl) rfl ⟨Nat.le_of_ble_eq_true rfl, Nat.le_of_ble_eq_true rfl⟩ t3 (fun v9 N9 h4 => ?_) (fun E9 N9 h4 => by cases h4)
    cases h4
    show G z mX12_of (d + 4) 0 0 9 [some (.ref 1007), some (.int (k_of_s7_4  i2)), some (.int (nI i2))] [.int (nI 5), .int (nI i2)] M Q
    refine G.ic_ge (off := (22)) (tgt := 31) (by decide +kernel) rfl (fun h9 => absurd h9 (nI_ge (by omega) (by omega))) (fun _ => ?_)
    refine G.sl [(.iload_n 1, 1, 1, 0, 0, 0), (.iconst 5, 1, 0, 0, 0, nI 5), (.ishl, 1, 0, 0, 0, 0), (.aload_n 0, 1, 0, 0, 0, 0), (.iload_n 2, 1, 2, 0, 0, 0)] [] (pc2 := 17) (ls2 := [some (.ref 1007), some (.int (k_of_s7_4  i2)), some (.int (nI i2))]) (st2 := [.int (nI i2), .ref 1007, .int ((k_of_s7_4  i2) <<< ((nI 5) &&& 31))]) (M2 := M) (Ps := []) (by decide +kernel) rfl rfl trivial ?_
    have t5 : GM z mJ0_charAt_5068e (d + 3) [.ref 1007, .int (nI i2)] M (fun rs => rs = .inl (some (.int (sby 7 i2)), M)) := c_charAt z _ _ 7 i2 (by decide) (show i2 < 5 from (by omega))
    refine G.callT (as := [.int (nI i2)]) (rest := [.int ((k_of_s7_4  i2) <<< ((nI 5) &&& 31))]) (i := 7) oJ0_charAt_5068e lk_EvenFindersModel_126 (by decide +kernel) rfl (by decide) rfl (Nat.le_of_ble_eq_true rfl) rfl ⟨Nat.le_of_ble_eq_true rfl, Nat.le_of_ble_eq_true rfl⟩ t5 (fun v9 N9 h6 => ?_) (fun E9 N9 h6 => by cases h6)
    cases h6
    show G z mX12_of (d + 4) 0 0 20 [some (.ref 1007), some (.int (k_of_s7_4  i2)), some (.int (nI i2))] [.int (sby 7 i2), .int ((k_of_s7_4  i2) <<< ((nI 5) &&& 31))] M Q
    refine G.sl [(.bipush 96, 2, 0, 0, 0, nI 96), (.isub, 1, 0, 0, 0, 0), (.ior, 1, 0, 0, 0, 0), (.istore_n 1, 1, 1, 0, 0, 0), (.iinc 2 1, 3, 2, 0, 0, nI 1), (.goto (-24), 3, 4, 0, 0, 0)] [] (pc2 := 4) (ls2 := [some (.ref 1007), some (.int (((k_of_s7_4  i2) <<< ((nI 5) &&& 31)) ||| ((sby 7 i2) - (nI 96)))), some (.int ((nI i2) + nI 1))]) (st2 := []) (M2 := M) (Ps := []) (by decide +kernel) rfl rfl trivial ?_
    rw [nI_add i2 1]
    simp only [k_of_s7_4] at ih
    exact ih
set_option maxHeartbeats 4000000 in
set_option maxRecDepth 3000 in
theorem c_k_of_s7 (z : Zp) (d : Nat) (M : Mem) : GM z mX12_of (d + 4) [.ref 1007] M (fun rs => rs = .inl (some (.int (k_of_s7 )), M)) := by
  refine GM.of oX12_of.1 (Nat.le_of_ble_eq_true rfl) ?_
  show G z mX12_of (d + 4) 0 0 0 [some (.ref 1007), none, none] [] M _
  obtain ⟨Q, hQ⟩ : ∃ Q : Rs → Prop, Q = (fun rs => rs = .inl (some (.int (k_of_s7 )), M)) := ⟨_, rfl⟩
  rw [← hQ]
  refine G.sl [(.iconst 0, 1, 0, 0, 0, nI 0), (.istore_n 1, 1, 1, 0, 0, 0), (.iconst 0, 1, 0, 0, 0, nI 0), (.istore_n 2, 1, 2, 0, 0, 0)] [] (pc2 := 4) (ls2 := [some (.ref 1007), some (.int (nI 0)), some (.int (nI 0))]) (st2 := []) (M2 := M) (Ps := []) (by decide +kernel) rfl rfl trivial ?_
  refine lp_k_of_s7_4 z d M Q (cN 5) (cN_eq 5) ?_
  show G z mX12_of (d + 4) 0 0 31 [none, some (.int (k_of_s7_4 (cN 5))), none] [] M Q
  refine G.sl [(.iload_n 1, 1, 1, 0, 0, 0)] [] (pc2 := 32) (ls2 := [none, some (.int (k_of_s7_4 (cN 5))), none]) (st2 := [.int (k_of_s7_4 (cN 5))]) (M2 := M) (Ps := []) (by decide +kernel) rfl rfl trivial ?_
  exact G.reti (by decide +kernel) rfl rfl (Nat.le_of_ble_eq_true rfl) (Nat.le_of_ble_eq_true rfl) ((by rw [hQ]; simp only [k_of_s7, mrow_self]))
set_option maxHeartbeats 4000000 in
set_option maxRecDepth 3000 in
theorem lp_k_of_s8_4 (z : Zp) (d : Nat) (M : Mem) (Q : Rs → Prop) (nn : Nat) (hnn : nn = 6) (hX : G z mX12_of (d + 4) 0 0 31 [none, some (.int (k_of_s8_4  nn)), none] [] M Q) : G z mX12_of (d + 4) 0 0 4 [some (.ref 1008), some (.int (nI 0)), some (.int (nI 0))] [] M Q := by
  refine down (n := nn) (P := fun i2 => G z mX12_of (d + 4) 0 0 4 [some (.ref 1008), some (.int (k_of_s8_4  i2)), some (.int (nI i2))] [] M Q) ?_ ?_ 0 (Nat.zero_le _)
  · skip
    refine G.sl [(.iload_n 2, 1, 2, 0, 0, 0), (.aload_n 0, 1, 0, 0, 0, 0)] [] (pc2 := 6) (ls2 := [some (.ref 1008), some (.int (k_of_s8_4  nn)), some (.int (nI nn))]) (st2 := [.ref 1008, .int (nI nn)]) (M2 := M) (Ps := []) (by decide +kernel) rfl rfl trivial ?_
    have t1 : GM z mJ0_length_8abf5 (d + 3) [.ref 1008] M (fun rs => rs = .inl (some (.int (nI 6)), M)) := c_slen z _ _ 8 (by decide)
    refine G.callT (as := []) (rest := [.int (nI nn)]) (i := 8) oJ0_length_8abf5 lk_EvenFindersModel_121 (by decide +kernel) rfl (by decide) rfl (Nat.le_of_ble_eq_true rfl) rfl ⟨Nat.le_of_ble_eq_true rfl, Nat.le_of_ble_eq_true rfl⟩ t1 (fun v9 N9 h2 => ?_) (fun E9 N9 h2 => by cases h2)
    cases h2
    show G z mX12_of (d + 4) 0 0 9 [some (.ref 1008), some (.int (k_of_s8_4  nn)), some (.int (nI nn))] [.int (nI 6), .int (nI nn)] M Q
    refine G.ic_ge (off := (22)) (tgt := 31) (by decide +kernel) rfl (fun _ => ?_) (fun h9 => absurd (nI_le (by omega) (by omega)) h9)
    refine G.loc (ls2 := [none, some (.int (k_of_s8_4  nn)), none]) (by simp [subL]) ?_
    exact hX
  · skip
    intro i2 hi ih
    show G z mX12_of (d + 4) 0 0 4 [some (.ref 1008), some (.int (k_of_s8_4  i2)), some (.int (nI i2))] [] M Q
    refine G.sl [(.iload_n 2, 1, 2, 0, 0, 0), (.aload_n 0, 1, 0, 0, 0, 0)] [] (pc2 := 6) (ls2 := [some (.ref 1008), some (.int (k_of_s8_4  i2)), some (.int (nI i2))]) (st2 := [.ref 1008, .int (nI i2)]) (M2 := M) (Ps := []) (by decide +kernel) rfl rfl trivial ?_
    have t3 : GM z mJ0_length_8abf5 (d + 3) [.ref 1008] M (fun rs => rs = .inl (some (.int (nI 6)), M)) := c_slen z _ _ 8 (by decide)
    refine G.callT (as := []) (rest := [.int (nI i2)]) (i := 8) oJ0_length_8abf5 lk_EvenFindersModel_121 (by decide +kernel) rfl (by decide) rfl (Nat.le_of_ble_eq_true rfl) rfl ⟨Nat.le_of_ble_eq_true rfl, Nat.le_of_ble_eq_true rfl⟩ t3 (fun v9 N9 h4 => ?_) (fun E9 N9 h4 => by cases h4)
    cases h4
    show G z mX12_of (d + 4) 0 0 9 [some (.ref 1008), some (.int (k_of_s8_4  i2)), some (.int (nI i2))] [.int (nI 6), .int (nI i2)] M Q
    refine G.ic_ge (off := (22)) (tgt := 31) (by decide +kernel) rfl (fun h9 => absurd h9 (nI_ge (by omega) (by omega))) (fun _ => ?_)
    refine G.sl [(.iload_n 1, 1, 1, 0, 0, 0), (.iconst 5, 1, 0, 0, 0, nI 5), (.ishl, 1, 0, 0, 0, 0), (.aload_n 0, 1, 0, 0, 0, 0), (.iload_n 2, 1, 2, 0, 0, 0)] [] (pc2 := 17) (ls2 := [some (.ref 1008), some (.int (k_of_s8_4  i2)), some (.int (nI i2))]) (st2 := [.int (nI i2), .ref 1008, .int ((k_of_s8_4  i2) <<< ((nI 5) &&& 31))]) (M2 := M) (Ps := []) (by decide +kernel) rfl rfl trivial ?_
    have t5 : GM z mJ0_charAt_5068e (d + 3) [.ref 1008, .int (nI i2)] M (fun rs => rs = .inl (some (.int (sby 8 i2)), M)) := c_charAt z _ _ 8 i2 (by decide) (show i2 < 6 from (by omega))
    refine G.callT (as := [.int (nI i2)]) (rest := [.int ((k_of_s8_4  i2) <<< ((nI 5) &&& 31))]) (i := 8) oJ0_charAt_5068e lk_EvenFindersModel_126 (by decide +kernel) rfl (by decide) rfl (Nat.le_of_ble_eq_true rfl) rfl ⟨Nat.le_of_ble_eq_true rfl, Nat.le_of_ble_eq_true rfl⟩ t5 (fun v9 N9 h6 => ?_) (fun E9 N9 h6 => by cases h6)
    cases h6
    show G z mX12_of (d + 4) 0 0 20 [some (.ref 1008), some (.int (k_of_s8_4  i2)), some (.int (nI i2))] [.int (sby 8 i2), .int ((k_of_s8_4  i2) <<< ((nI 5) &&& 31))] M Q
    refine G.sl [(.bipush 96, 2, 0, 0, 0, nI 96), (.isub, 1, 0, 0, 0, 0), (.ior, 1, 0, 0, 0, 0), (.istore_n 1, 1, 1, 0, 0, 0), (.iinc 2 1, 3, 2, 0, 0, nI 1), (.goto (-24), 3, 4, 0, 0, 0)] [] (pc2 := 4) (ls2 := [some (.ref 1008), some (.int (((k_of_s8_4  i2) <<< ((nI 5) &&& 31)) ||| ((sby 8 i2) - (nI 96)))), some (.int ((nI i2) + nI 1))]) (st2 := []) (M2 := M) (Ps := []) (by decide +kernel) rfl rfl trivial ?_
    rw [nI_add i2 1]
    simp only [k_of_s8_4] at ih
    exact ih
set_option maxHeartbeats 4000000 in
set_option maxRecDepth 3000 in
theorem c_k_of_s8 (z : Zp) (d : Nat) (M : Mem) : GM z mX12_of (d + 4) [.ref 1008] M (fun rs => rs = .inl (some (.int (k_of_s8 )), M)) := by
  refine GM.of oX12_of.1 (Nat.le_of_ble_eq_true rfl) ?_
  show G z mX12_of (d + 4) 0 0 0 [some (.ref 1008), none, none] [] M _
  obtain ⟨Q, hQ⟩ : ∃ Q : Rs → Prop, Q = (fun rs => rs = .inl (some (.int (k_of_s8 )), M)) := ⟨_, rfl⟩
  rw [← hQ]
  refine G.sl [(.iconst 0, 1, 0, 0, 0, nI 0), (.istore_n 1, 1, 1, 0, 0, 0), (.iconst 0, 1, 0, 0, 0, nI 0), (.istore_n 2, 1, 2, 0, 0, 0)] [] (pc2 := 4) (ls2 := [some (.ref 1008), some (.int (nI 0)), some (.int (nI 0))]) (st2 := []) (M2 := M) (Ps := []) (by decide +kernel) rfl rfl trivial ?_
  refine lp_k_of_s8_4 z d M Q (cN 6) (cN_eq 6) ?_
  show G z mX12_of (d + 4) 0 0 31 [none, some (.int (k_of_s8_4 (cN 6))), none] [] M Q
  refine G.sl [(.iload_n 1, 1, 1, 0, 0, 0)] [] (pc2 := 32) (ls2 := [none, some (.int (k_of_s8_4 (cN 6))), none]) (st2 := [.int (k_of_s8_4 (cN 6))]) (M2 := M) (Ps := []) (by decide +kernel) rfl rfl trivial ?_
  exact G.reti (by decide +kernel) rfl rfl (Nat.le_of_ble_eq_true rfl) (Nat.le_of_ble_eq_true rfl) ((by rw [hQ]; simp only [k_of_s8, mrow_self]))
set_option maxHeartbeats 4000000 in
set_option maxRecDepth 3000 in
theorem lp_k_of_s9_4 (z : Zp) (d : Nat) (M : Mem) (Q : Rs → Prop) (nn : Nat) (hnn : nn = 3) (hX : G z mX12_of (d + 4) 0 0 31 [none, some (.int (k_of_s9_4  nn)), none] [] M Q) : G z mX12_of (d + 4) 0 0 4 [some (.ref 1009), some (.int (nI 0)), some (.int (nI 0))] [] M Q := by
  refine down (n := nn) (P := fun i2 => G z mX12_of (d + 4) 0 0 4 [some (.ref 1009), some (.int (k_of_s9_4  i2)), some (.int (nI i2))] [] M Q) ?_ ?_ 0 (Nat.zero_le _)
  · skip
    refine G.sl [(.iload_n 2, 1, 2, 0, 0, 0), (.aload_n 0, 1, 0, 0, 0, 0)] [] (pc2 := 6) (ls2 := [some (.ref 1009), some (.int (k_of_s9_4  nn)), some (.int (nI nn))]) (st2 := [.ref 1009, .int (nI nn)]) (M2 := M) (Ps := []) (by decide +kernel) rfl rfl trivial ?_
    have t1 : GM z mJ0_length_8abf5 (d + 3) [.ref 1009] M (fun rs => rs = .inl (some (.int (nI 3)), M)) := c_slen z _ _ 9 (by decide)
    refine G.callT (as := []) (rest := [.int (nI nn)]) (i := 9) oJ0_length_8abf5 lk_EvenFindersModel_121 (by decide +kernel) rfl (by decide) rfl (Nat.le_of_ble_eq_true rfl) rfl ⟨Nat.le_of_ble_eq_true rfl, Nat.le_of_ble_eq_true rfl⟩ t1 (fun v9 N9 h2 => ?_) (fun E9 N9 h2 => by cases h2)
    cases h2
    show G z mX12_of (d + 4) 0 0 9 [some (.ref 1009), some (.int (k_of_s9_4  nn)), some (.int (nI nn))] [.int (nI 3), .int (nI nn)] M Q
    refine G.ic_ge (off := (22)) (tgt := 31) (by decide +kernel) rfl (fun _ => ?_) (fun h9 => absurd (nI_le (by omega) (by omega)) h9)
    refine G.loc (ls2 := [none, some (.int (k_of_s9_4  nn)), none]) (by simp [subL]) ?_
    exact hX
  · skip
    intro i2 hi ih
    show G z mX12_of (d + 4) 0 0 4 [some (.ref 1009), some (.int (k_of_s9_4  i2)), some (.int (nI i2))] [] M Q
    refine G.sl [(.iload_n 2, 1, 2, 0, 0, 0), (.aload_n 0, 1, 0, 0, 0, 0)] [] (pc2 := 6) (ls2 := [some (.ref 1009), some (.int (k_of_s9_4  i2)), some (.int (nI i2))]) (st2 := [.ref 1009, .int (nI i2)]) (M2 := M) (Ps := []) (by decide +kernel) rfl rfl trivial ?_
    have t3 : GM z mJ0_length_8abf5 (d + 3) [.ref 1009] M (fun rs => rs = .inl (some (.int (nI 3)), M)) := c_slen z _ _ 9 (by decide)
    refine G.callT (as := []) (rest := [.int (nI i2)]) (i := 9) oJ0_length_8abf5 lk_EvenFindersModel_121 (by decide +kernel) rfl (by decide) rfl (Nat.le_of_ble_eq_true rfl) rfl ⟨Nat.le_of_ble_eq_true rfl, Nat.le_of_ble_eq_true rfl⟩ t3 (fun v9 N9 h4 => ?_) (fun E9 N9 h4 => by cases h4)
    cases h4
    show G z mX12_of (d + 4) 0 0 9 [some (.ref 1009), some (.int (k_of_s9_4  i2)), some (.int (nI i2))] [.int (nI 3), .int (nI i2)] M Q
    refine G.ic_ge (off := (22)) (tgt := 31) (by decide +kernel) rfl (fun h9 => absurd h9 (nI_ge (by omega) (by omega))) (fun _ => ?_)
    refine G.sl [(.iload_n 1, 1, 1, 0, 0, 0), (.iconst 5, 1, 0, 0, 0, nI 5), (.ishl, 1, 0, 0, 0, 0), (.aload_n 0, 1, 0, 0, 0, 0), (.iload_n 2, 1, 2, 0, 0, 0)] [] (pc2 := 17) (ls2 := [some (.ref 1009), some (.int (k_of_s9_4  i2)), some (.int (nI i2))]) (st2 := [.int (nI i2), .ref 1009, .int ((k_of_s9_4  i2) <<< ((nI 5) &&& 31))]) (M2 := M) (Ps := []) (by decide +kernel) rfl rfl trivial ?_
    have t5 : GM z mJ0_charAt_5068e (d + 3) [.ref 1009, .int (nI i2)] M (fun rs => rs = .inl (some (.int (sby 9 i2)), M)) := c_charAt z _ _ 9 i2 (by decide) (show i2 < 3 from (by omega))
    refine G.callT (as := [.int (nI i2)]) (rest := [.int ((k_of_s9_4  i2) <<< ((nI 5) &&& 31))]) (i := 9) oJ0_charAt_5068e lk_EvenFindersModel_126 (by decide +kernel) rfl (by decide) rfl (Nat.le_of_ble_eq_true rfl) rfl ⟨Nat.le_of_ble_eq_true rfl, Nat.le_of_ble_eq_true rfl⟩ t5 (fun v9 N9 h6 => ?_) (fun E9 N9 h6 => by cases h6)
    cases h6
    show G z mX12_of (d + 4) 0 0 20 [some (.ref 1009), some (.int (k_of_s9_4  i2)), some (.int (nI i2))] [.int (sby 9 i2), .int ((k_of_s9_4  i2) <<< ((nI 5) &&& 31))] M Q
    refine G.sl [(.bipush 96, 2, 0, 0, 0, nI 96), (.isub, 1, 0, 0, 0, 0), (.ior, 1, 0, 0, 0, 0), (.istore_n 1, 1, 1, 0, 0, 0), (.iinc 2 1, 3, 2, 0, 0, nI 1), (.goto (-24), 3, 4, 0, 0, 0)] [] (pc2 := 4) (ls2 := [some (.ref 1009), some (.int (((k_of_s9_4  i2) <<< ((nI 5) &&& 31)) ||| ((sby 9 i2) - (nI 96)))), some (.int ((nI i2) + nI 1))]) (st2 := []) (M2 := M) (Ps := []) (by decide +kernel) rfl rfl trivial ?_
    rw [nI_add i2 1]
    simp only [k_of_s9_4] at ih
    exact ih
set_option maxHeartbeats 4000000 in
set_option maxRecDepth 3000 in
theorem c_k_of_s9 (z : Zp) (d : Nat) (M : Mem) : GM z mX12_of (d + 4) [.ref 1009] M (fun rs => rs = .inl (some (.int (k_of_s9 )), M)) := by
  refine GM.of oX12_of.1 (Nat.le_of_ble_eq_true rfl) ?_
  show G z mX12_of (d + 4) 0 0 0 [some (.ref 1009), none, none] [] M _
  obtain ⟨Q, hQ⟩ : ∃ Q : Rs → Prop, Q = (fun rs => rs = .inl (some (.int (k_of_s9 )), M)) := ⟨_, rfl⟩
  rw [← hQ]
  refine G.sl [(.iconst 0, 1, 0, 0, 0, nI 0), (.istore_n 1, 1, 1, 0, 0, 0), (.iconst 0, 1, 0, 0, 0, nI 0), (.istore_n 2, 1, 2, 0, 0, 0)] [] (pc2 := 4) (ls2 := [some (.ref 1009), some (.int (nI 0)), some (.int (nI 0))]) (st2 := []) (M2 := M) (Ps := []) (by decide +kernel) rfl rfl trivial ?_
  refine lp_k_of_s9_4 z d M Q (cN 3) (cN_eq 3) ?_
  show G z mX12_of (d + 4) 0 0 31 [none, some (.int (k_of_s9_4 (cN 3))), none] [] M Q
  refine G.sl [(.iload_n 1, 1, 1, 0, 0, 0)] [] (pc2 := 32) (ls2 := [none, some (.int (k_of_s9_4 (cN 3))), none]) (st2 := [.int (k_of_s9_4 (cN 3))]) (M2 := M) (Ps := []) (by decide +kernel) rfl rfl trivial ?_
  exact G.reti (by decide +kernel) rfl rfl (Nat.le_of_ble_eq_true rfl) (Nat.le_of_ble_eq_true rfl) ((by rw [hQ]; simp only [k_of_s9, mrow_self]))
theorem k_isRow_01 (x0 : Int32) : k_isRow x0 = 0 ∨ k_isRow x0 = 1 := by
  unfold k_isRow
  repeat' split
  all_goals first | exact Or.inl rfl | exact Or.inr rfl
set_option maxHeartbeats 4000000 in
set_option maxRecDepth 3000 in
theorem c_k_isRow (z : Zp) (d : Nat) (M : Mem) (x0 : Int32) : GM z mX12_isRow (d + 5) [.int x0] M (fun rs => rs = .inl (some (.int (k_isRow x0)), M)) := by
  refine GM.of oX12_isRow.1 (Nat.le_of_ble_eq_true rfl) ?_
  show G z mX12_isRow (d + 5) 0 0 0 [some (.int x0)] [] M _
  obtain ⟨Q, hQ⟩ : ∃ Q : Rs → Prop, Q = (fun rs => rs = .inl (some (.int (k_isRow x0)), M)) := ⟨_, rfl⟩
  rw [← hQ]
  refine G.sl [(.iload_n 0, 1, 0, 0, 0, 0), (.ldc 197, 2, 1, 5, 0, 0)] [] (pc2 := 3) (ls2 := [some (.int x0)]) (st2 := [.ref 1005, .int x0]) (M2 := M) (Ps := []) (by decide +kernel) rfl rfl trivial ?_
  have t2 : GM z mX12_of (d + 4) [.ref 1005] M (fun rs => rs = .inl (some (.int k_of_s5), M)) := by
    have q9 := c_k_of_s5 z d M 
    try simp only [mput, mrow_same, mrow_hit, mrow_miss, mrow_sw, idr_eq, ne_eq, Nat.reduceEqDiff, not_false_eq_true, Nat.reduceLT, reduceCtorEq] at q9
    exact q9
  refine G.callS (as := [.ref 1005]) (rest := [.int x0]) oX12_of lk_EvenFindersModel_198 (by decide +kernel) rfl (Nat.le_of_ble_eq_true rfl) rfl ⟨Nat.le_of_ble_eq_true rfl, Nat.le_of_ble_eq_true rfl⟩ t2 (fun v9 N9 h3 => ?_) (fun E9 N9 h3 => by cases h3)
  cases h3
  show G z mX12_isRow (d + 5) 0 0 6 [some (.int x0)] [.int k_of_s5, .int x0] M Q
  refine G.ic_eq (off := (39)) (tgt := 45) (by decide +kernel) rfl (fun c4 => ?_) (fun c4 => ?_)
  · skip
    refine G.sl [(.iconst 1, 1, 0, 0, 0, nI 1), (.goto 4, 3, 50, 0, 0, 0)] [] (pc2 := 50) (ls2 := [some (.int x0)]) (st2 := [.int (nI 1)]) (M2 := M) (Ps := []) (by decide +kernel) rfl rfl trivial ?_
    exact G.reti (by decide +kernel) rfl rfl (Nat.le_of_ble_eq_true rfl) (Nat.le_of_ble_eq_true rfl) ((by rw [hQ]; simp only [k_isRow, if_pos c4, mrow_self]))
  · skip
    refine G.sl [(.iload_n 0, 1, 0, 0, 0, 0), (.ldc 202, 2, 1, 6, 0, 0)] [] (pc2 := 12) (ls2 := [some (.int x0)]) (st2 := [.ref 1006, .int x0]) (M2 := M) (Ps := []) (by decide +kernel) rfl rfl trivial ?_
    have t6 : GM z mX12_of (d + 4) [.ref 1006] M (fun rs => rs = .inl (some (.int k_of_s6), M)) := by
      have q9 := c_k_of_s6 z d M 
      try simp only [mput, mrow_same, mrow_hit, mrow_miss, mrow_sw, idr_eq, ne_eq, Nat.reduceEqDiff, not_false_eq_true, Nat.reduceLT, reduceCtorEq] at q9
      exact q9
    refine G.callS (as := [.ref 1006]) (rest := [.int x0]) oX12_of lk_EvenFindersModel_198 (by decide +kernel) rfl (Nat.le_of_ble_eq_true rfl) rfl ⟨Nat.le_of_ble_eq_true rfl, Nat.le_of_ble_eq_true rfl⟩ t6 (fun v9 N9 h7 => ?_) (fun E9 N9 h7 => by cases h7)
    cases h7
    show G z mX12_isRow (d + 5) 0 0 15 [some (.int x0)] [.int k_of_s6, .int x0] M Q
    refine G.ic_eq (off := (30)) (tgt := 45) (by decide +kernel) rfl (fun c8 => ?_) (fun c8 => ?_)
    · skip
      refine G.sl [(.iconst 1, 1, 0, 0, 0, nI 1), (.goto 4, 3, 50, 0, 0, 0)] [] (pc2 := 50) (ls2 := [some (.int x0)]) (st2 := [.int (nI 1)]) (M2 := M) (Ps := []) (by decide +kernel) rfl rfl trivial ?_
      exact G.reti (by decide +kernel) rfl rfl (Nat.le_of_ble_eq_true rfl) (Nat.le_of_ble_eq_true rfl) ((by rw [hQ]; simp only [k_isRow, if_neg c4, if_pos c8, mrow_self]))
    · skip
      refine G.sl [(.iload_n 0, 1, 0, 0, 0, 0), (.ldc 203, 2, 1, 7, 0, 0)] [] (pc2 := 21) (ls2 := [some (.int x0)]) (st2 := [.ref 1007, .int x0]) (M2 := M) (Ps := []) (by decide +kernel) rfl rfl trivial ?_
      have t10 : GM z mX12_of (d + 4) [.ref 1007] M (fun rs => rs = .inl (some (.int k_of_s7), M)) := by
        have q9 := c_k_of_s7 z d M 
        try simp only [mput, mrow_same, mrow_hit, mrow_miss, mrow_sw, idr_eq, ne_eq, Nat.reduceEqDiff, not_false_eq_true, Nat.reduceLT, reduceCtorEq] at q9
        exact q9
      refine G.callS (as := [.ref 1007]) (rest := [.int x0]) oX12_of lk_EvenFindersModel_198 (by decide +kernel) rfl (Nat.le_of_ble_eq_true rfl) rfl ⟨Nat.le_of_ble_eq_true rfl, Nat.le_of_ble_eq_true rfl⟩ t10 (fun v9 N9 h11 => ?_) (fun E9 N9 h11 => by cases h11)
      cases h11
      show G z mX12_isRow (d + 5) 0 0 24 [some (.int x0)] [.int k_of_s7, .int x0] M Q
      refine G.ic_eq (off := (21)) (tgt := 45) (by decide +kernel) rfl (fun c12 => ?_) (fun c12 => ?_)
      · skip
        refine G.sl [(.iconst 1, 1, 0, 0, 0, nI 1), (.goto 4, 3, 50, 0, 0, 0)] [] (pc2 := 50) (ls2 := [some (.int x0)]) (st2 := [.int (nI 1)]) (M2 := M) (Ps := []) (by decide +kernel) rfl rfl trivial ?_
        exact G.reti (by decide +kernel) rfl rfl (Nat.le_of_ble_eq_true rfl) (Nat.le_of_ble_eq_true rfl) ((by rw [hQ]; simp only [k_isRow, if_neg c4, if_neg c8, if_pos c12, mrow_self]))
      · skip
        refine G.sl [(.iload_n 0, 1, 0, 0, 0, 0), (.ldc 204, 2, 1, 8, 0, 0)] [] (pc2 := 30) (ls2 := [some (.int x0)]) (st2 := [.ref 1008, .int x0]) (M2 := M) (Ps := []) (by decide +kernel) rfl rfl trivial ?_
        have t14 : GM z mX12_of (d + 4) [.ref 1008] M (fun rs => rs = .inl (some (.int k_of_s8), M)) := by
          have q9 := c_k_of_s8 z d M 
          try simp only [mput, mrow_same, mrow_hit, mrow_miss, mrow_sw, idr_eq, ne_eq, Nat.reduceEqDiff, not_false_eq_true, Nat.reduceLT, reduceCtorEq] at q9
          exact q9
        refine G.callS (as := [.ref 1008]) (rest := [.int x0]) oX12_of lk_EvenFindersModel_198 (by decide +kernel) rfl (Nat.le_of_ble_eq_true rfl) rfl ⟨Nat.le_of_ble_eq_true rfl, Nat.le_of_ble_eq_true rfl⟩ t14 (fun v9 N9 h15 => ?_) (fun E9 N9 h15 => by cases h15)
        cases h15
        show G z mX12_isRow (d + 5) 0 0 33 [some (.int x0)] [.int k_of_s8, .int x0] M Q
        refine G.ic_eq (off := (12)) (tgt := 45) (by decide +kernel) rfl (fun c16 => ?_) (fun c16 => ?_)
        · skip
          refine G.sl [(.iconst 1, 1, 0, 0, 0, nI 1), (.goto 4, 3, 50, 0, 0, 0)] [] (pc2 := 50) (ls2 := [some (.int x0)]) (st2 := [.int (nI 1)]) (M2 := M) (Ps := []) (by decide +kernel) rfl rfl trivial ?_
          exact G.reti (by decide +kernel) rfl rfl (Nat.le_of_ble_eq_true rfl) (Nat.le_of_ble_eq_true rfl) ((by rw [hQ]; simp only [k_isRow, if_neg c4, if_neg c8, if_neg c12, if_pos c16, mrow_self]))
        · skip
          refine G.sl [(.iload_n 0, 1, 0, 0, 0, 0), (.ldc 205, 2, 1, 9, 0, 0)] [] (pc2 := 39) (ls2 := [some (.int x0)]) (st2 := [.ref 1009, .int x0]) (M2 := M) (Ps := []) (by decide +kernel) rfl rfl trivial ?_
          have t18 : GM z mX12_of (d + 4) [.ref 1009] M (fun rs => rs = .inl (some (.int k_of_s9), M)) := by
            have q9 := c_k_of_s9 z d M 
            try simp only [mput, mrow_same, mrow_hit, mrow_miss, mrow_sw, idr_eq, ne_eq, Nat.reduceEqDiff, not_false_eq_true, Nat.reduceLT, reduceCtorEq] at q9
            exact q9
          refine G.callS (as := [.ref 1009]) (rest := [.int x0]) oX12_of lk_EvenFindersModel_198 (by decide +kernel) rfl (Nat.le_of_ble_eq_true rfl) rfl ⟨Nat.le_of_ble_eq_true rfl, Nat.le_of_ble_eq_true rfl⟩ t18 (fun v9 N9 h19 => ?_) (fun E9 N9 h19 => by cases h19)
          cases h19
          show G z mX12_isRow (d + 5) 0 0 42 [some (.int x0)] [.int k_of_s9, .int x0] M Q
          refine G.ic_ne (off := (7)) (tgt := 49) (by decide +kernel) rfl (fun c20 => ?_) (fun c20 => ?_)
          · skip
            refine G.sl [(.iconst 0, 1, 0, 0, 0, nI 0)] [] (pc2 := 50) (ls2 := [some (.int x0)]) (st2 := [.int (nI 0)]) (M2 := M) (Ps := []) (by decide +kernel) rfl rfl trivial ?_
            exact G.reti (by decide +kernel) rfl rfl (Nat.le_of_ble_eq_true rfl) (Nat.le_of_ble_eq_true rfl) ((by rw [hQ]; simp only [k_isRow, if_neg c4, if_neg c8, if_neg c12, if_neg c16, if_neg c20, mrow_self]))
          · skip
            refine G.sl [(.iconst 1, 1, 0, 0, 0, nI 1), (.goto 4, 3, 50, 0, 0, 0)] [] (pc2 := 50) (ls2 := [some (.int x0)]) (st2 := [.int (nI 1)]) (M2 := M) (Ps := []) (by decide +kernel) rfl rfl trivial ?_
            exact G.reti (by decide +kernel) rfl rfl (Nat.le_of_ble_eq_true rfl) (Nat.le_of_ble_eq_true rfl) ((by rw [hQ]; simp only [k_isRow, if_neg c4, if_neg c8, if_neg c12, if_neg c16, if_pos c20, mrow_self]))
set_option maxHeartbeats 4000000 in
set_option maxRecDepth 3000 in
theorem lp_k_pass_54_0 (z : Zp) (d : Nat) (M : Mem) (Q : Rs → Prop) : ∀ (k0 : Nat) (q54 : (Nat → Int32)), k_pass_0_ok (M.1 56) k0 q54 → (match k_pass_0 (M.1 56) k0 q54 with | q54' => G z mX12_pass (d + 1) 0 0 39 [none] [] (mrow M 54 (q54')) Q) → G z mX12_pass (d + 1) 0 0 0 [some (.ref 54)] [] (mrow M 54 q54) Q := by
  intro k0
  induction k0 with
  | zero =>
      intro q54 hk hX
      exact (by simpa only [k_pass_0_ok] using hk : False).elim
  | succ k0 ih =>
      intro q54 hk hX
      simp only [k_pass_0_ok] at hk
      refine G.sl [(.aload_n 0, 1, 0, 0, 0, 0), (.getfield 107, 3, 11, 4, 127, 0), (.aload_n 0, 1, 0, 0, 0, 0), (.getfield 110, 3, 11, 3, 126, 0)] [] (pc2 := 8) (ls2 := [some (.ref 54)]) (st2 := [.int (q54 3), .int (q54 4)]) (M2 := mrow M 54 q54) (Ps := []) (by decide +kernel) rfl rfl trivial ?_
      refine G.ic_ge (off := (31)) (tgt := 39) (by decide +kernel) rfl (fun c1 => ?_) (fun c1 => ?_)
      · skip
        rw [if_pos c1] at hk
        refine G.loc (ls2 := [none]) (by simp [subL]) ?_
        simp only [k_pass_0, if_pos c1] at hX
        exact hX
      · skip
        rw [if_neg c1] at hk
        obtain ⟨k2, k3, hk⟩ := hk
        refine G.sl [(.aload_n 0, 1, 0, 0, 0, 0), (.getfield 20, 3, 11, 9, 132, 0), (.aload_n 0, 1, 0, 0, 0, 0), (.getfield 107, 3, 11, 4, 127, 0), (.iaload, 1, 0, 0, 0, 0)] [ix (q54 4)] (pc2 := 20) (ls2 := [some (.ref 54)]) (st2 := [.int (M.1 56 (ix (q54 4)))]) (M2 := mrow M 54 q54) (Ps := [(q54 4) = nI (ix (q54 4)) ∧ (ix (q54 4)) < 600]) (by decide +kernel) rfl rfl ⟨⟨(ixE k2), k3⟩, trivial⟩ ?_
        obtain ⟨k4, hk⟩ := hk
        have t5 : GM z mX12_isSmall (d) [.int (M.1 56 (ix (q54 4)))] (mrow M 54 q54) (fun rs => rs = .inl (some (.int (k_isSmall (M.1 56 (ix (q54 4))))), mrow M 54 q54)) := by
          have q9 := c_k_isSmall z d (mrow M 54 q54) (M.1 56 (ix (q54 4)))
          try simp only [mput, mrow_same, mrow_hit, mrow_miss, mrow_sw, idr_eq, ne_eq, Nat.reduceEqDiff, not_false_eq_true, Nat.reduceLT, reduceCtorEq] at q9
          exact q9
        refine G.callS (as := [.int (M.1 56 (ix (q54 4)))]) (rest := []) oX12_isSmall lk_EvenFindersModel_117 (by decide +kernel) rfl (Nat.le_of_ble_eq_true rfl) rfl ⟨Nat.le_of_ble_eq_true rfl, Nat.le_of_ble_eq_true rfl⟩ t5 (fun v9 N9 h6 => ?_) (fun E9 N9 h6 => by cases h6)
        cases h6
        show G z mX12_pass (d + 1) 0 0 23 [some (.ref 54)] [.int (k_isSmall (M.1 56 (ix (q54 4))))] (mrow M 54 q54) Q
        refine G.if_eq (off := (16)) (tgt := 39) (by decide +kernel) rfl (fun c7 => ?_) (fun c7 => ?_)
        · skip
          rw [if_pos c7] at hk
          refine G.loc (ls2 := [none]) (by simp [subL]) ?_
          simp only [k_pass_0, if_neg c1, if_pos c7] at hX
          exact hX
        · skip
          rw [if_neg c7] at hk
          refine G.sl [(.aload_n 0, 1, 0, 0, 0, 0), (.dup, 1, 0, 0, 0, 0), (.getfield 107, 3, 11, 4, 127, 0), (.iconst 1, 1, 0, 0, 0, nI 1), (.iadd, 1, 0, 0, 0, 0), (.putfield 107, 3, 11, 4, 127, 0), (.goto (-36), 3, 0, 0, 0, 0)] [] (pc2 := 0) (ls2 := [some (.ref 54)]) (st2 := []) (M2 := mput (mrow M 54 q54) 54 4 ((q54 4) + (nI 1))) (Ps := []) (by decide +kernel) rfl rfl trivial ?_
          refine G.mem (M' := mrow M 54 (upd q54 4 ((q54 4) + (nI 1)))) (by first | rfl | (simp only [mput, mrow_same, mrow_hit, mrow_miss, mrow_sw, idr_eq, ne_eq, Nat.reduceEqDiff, not_false_eq_true, Nat.reduceLT, reduceCtorEq]; done)) ?_
          simp only [k_pass_0, if_neg c1, if_neg c7] at hX
          exact ih (upd q54 4 ((q54 4) + (nI 1))) hk hX
set_option maxHeartbeats 4000000 in
set_option maxRecDepth 3000 in
theorem c_k_pass_54 (z : Zp) (d : Nat) (M : Mem) (hk : k_pass_ok (M.1 54) (M.1 56)) : GM z mX12_pass (d + 1) [.ref 54] M (fun rs => rs = .inl (none, mrow M 54 ((k_pass (M.1 54) (M.1 56)).2))) := by
  simp only [k_pass_ok] at hk
  refine GM.of oX12_pass.1 (Nat.le_of_ble_eq_true rfl) ?_
  show G z mX12_pass (d + 1) 0 0 0 [some (.ref 54)] [] M _
  obtain ⟨Q, hQ⟩ : ∃ Q : Rs → Prop, Q = (fun rs => rs = .inl (none, mrow M 54 ((k_pass (M.1 54) (M.1 56)).2))) := ⟨_, rfl⟩
  rw [← hQ]
  obtain ⟨k8, hk⟩ := hk
  refine G.mem (M' := mrow M 54 (M.1 54)) (by simp only [mrow_self]) ?_
  refine lp_k_pass_54_0 z d M Q FU (M.1 54) (by first | (simp only [mput, mrow_same, mrow_hit, mrow_miss, mrow_sw, idr_eq, ne_eq, Nat.reduceEqDiff, not_false_eq_true, Nat.reduceLT, reduceCtorEq]; exact k8) | exact k8) ?_
  try simp only [mput, mrow_same, mrow_hit, mrow_miss, mrow_sw, idr_eq, ne_eq, Nat.reduceEqDiff, not_false_eq_true, Nat.reduceLT, reduceCtorEq]
  show G z mX12_pass (d + 1) 0 0 39 [none] [] (mrow M 54 (k_pass_0 (M.1 56) FU (M.1 54))) Q
  exact G.retv (by decide +kernel) rfl (Nat.le_of_ble_eq_true rfl) (Nat.le_of_ble_eq_true rfl) ((by rw [hQ]; simp only [k_pass, mrow_self]))
