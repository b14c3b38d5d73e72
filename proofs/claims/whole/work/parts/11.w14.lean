set_option maxHeartbeats 4000000 in
set_option maxRecDepth 3000 in
theorem lp_x_doSteps_33_37_st_58 (z : Zp) (d : Nat) (M : Mem) (Q : Rs → Prop) (x3 : Int32) (x4 : Int32) (x5 : Int32) (x6 : Int32) (nt : Nat) (hnt : nt ≤ 10) (ht : M.1 3 2 = nI nt) (nf : Nat) (hnf : nf ≤ 6) (hf : M.1 3 3 = nI nf) (fz : (Nat → Int32) → (Nat → Int32) → (Nat → Int32) → (Nat → Int32) → (Nat → Int32) → (Nat → Int32) → (Nat → Int32) → (Nat → Int32) → (Nat → Int32) → (Nat → Int32) → (Nat → Int32) → (Nat → Int32) → (Nat → Int32) → Int32 → Int32 → Int32 → Int32 × (Nat → Int32) × (Nat → Int32) × (Nat → Int32) × (Nat → Int32)) (gz : (Nat → Int32) → (Nat → Int32) → (Nat → Int32) → (Nat → Int32) → (Nat → Int32) → (Nat → Int32) → (Nat → Int32) → (Nat → Int32) → (Nat → Int32) → (Nat → Int32) → (Nat → Int32) → (Nat → Int32) → (Nat → Int32) → Int32 → Int32 → Int32 → Prop) (Hz : ∀ (j : Nat) (M : Mem) (x2 : Int32) (x3 : Int32) (x4 : Int32), M.1 3 2 = nI nt → M.1 3 3 = nI nf → gz (M.1 4) (M.1 5) (M.1 6) (M.1 7) (M.1 21) (M.1 22) (M.1 23) (M.1 24) (M.1 33) (M.1 34) (M.1 35) (M.1 36) (M.1 38) x2 x3 x4 → GM z mX9_doSteps (d + j) [.ref 33, .ref 37, .int x2, .int x3, .int x4] M (fun rs => rs = .inl (none, mrow (mrow (mrow (mrow M 22 ((fz (M.1 4) (M.1 5) (M.1 6) (M.1 7) (M.1 21) (M.1 22) (M.1 23) (M.1 24) (M.1 33) (M.1 34) (M.1 35) (M.1 36) (M.1 38) x2 x3 x4).2.1)) 24 ((fz (M.1 4) (M.1 5) (M.1 6) (M.1 7) (M.1 21) (M.1 22) (M.1 23) (M.1 24) (M.1 33) (M.1 34) (M.1 35) (M.1 36) (M.1 38) x2 x3 x4).2.2.1)) 33 ((fz (M.1 4) (M.1 5) (M.1 6) (M.1 7) (M.1 21) (M.1 22) (M.1 23) (M.1 24) (M.1 33) (M.1 34) (M.1 35) (M.1 36) (M.1 38) x2 x3 x4).2.2.2.1)) 38 ((fz (M.1 4) (M.1 5) (M.1 6) (M.1 7) (M.1 21) (M.1 22) (M.1 23) (M.1 24) (M.1 33) (M.1 34) (M.1 35) (M.1 36) (M.1 38) x2 x3 x4).2.2.2.2)))) : ∀ (k0 : Nat) (s7 : Int32) (q22 : (Nat → Int32)) (q24 : (Nat → Int32)) (q33 : (Nat → Int32)) (q38 : (Nat → Int32)), x_doSteps_st_58_ok fz gz (M.1 4) (M.1 5) (M.1 6) (M.1 7) (M.1 21) (M.1 23) (M.1 34) (M.1 35) (M.1 36) x3 x4 x5 x6 k0 s7 q22 q24 q33 q38 → (match x_doSteps_st_58 fz (M.1 4) (M.1 5) (M.1 6) (M.1 7) (M.1 21) (M.1 23) (M.1 34) (M.1 35) (M.1 36) x3 x4 x5 x6 k0 s7 q22 q24 q33 q38 with | (s7', q22', q24', q33', q38') => G z mX9_doSteps (d + 6) 0 0 106 [some (.ref 33), some (.ref 37), none, some (.int x3), some (.int x4), some (.int x5), some (.int x6), none] [] (mrow (mrow (mrow (mrow M 22 (q22')) 24 (q24')) 33 (q33')) 38 (q38')) Q) → G z mX9_doSteps (d + 6) 0 0 58 [some (.ref 33), some (.ref 37), none, some (.int x3), some (.int x4), some (.int x5), some (.int x6), some (.int s7)] [] (mrow (mrow (mrow (mrow M 22 q22) 24 q24) 33 q33) 38 q38) Q := by
  intro k0
  induction k0 with
  | zero =>
      intro s7 q22 q24 q33 q38 hk hX
      exact (by simpa only [x_doSteps_st_58_ok] using hk : False).elim
  | succ k0 ih =>
      intro s7 q22 q24 q33 q38 hk hX
      simp only [x_doSteps_st_58_ok] at hk
      obtain ⟨k16, k17, hk⟩ := hk
      refine G.sl [(.iload 7, 2, 7, 0, 0, 0), (.aload_n 0, 1, 0, 0, 0, 0), (.getfield 15, 3, 8, 6, 71, 0), (.iload 6, 2, 6, 0, 0, 0), (.iaload, 1, 0, 0, 0, 0)] [ix x6] (pc2 := 67) (ls2 := [some (.ref 33), some (.ref 37), none, some (.int x3), some (.int x4), some (.int x5), some (.int x6), some (.int s7)]) (st2 := [.int (M.1 35 (ix x6)), .int s7]) (M2 := mrow (mrow (mrow (mrow M 22 q22) 24 q24) 33 q33) 38 q38) (Ps := [x6 = nI (ix x6) ∧ (ix x6) < 150]) (by decide +kernel) rfl rfl ⟨⟨(ixE k16), k17⟩, trivial⟩ ?_
      refine G.ic_ge (off := (39)) (tgt := 106) (by decide +kernel) rfl (fun c18 => ?_) (fun c18 => ?_)
      · skip
        rw [if_pos c18] at hk
        refine G.loc (ls2 := [some (.ref 33), some (.ref 37), none, some (.int x3), some (.int x4), some (.int x5), some (.int x6), none]) (by simp [subL]) ?_
        simp only [x_doSteps_st_58, if_pos c18] at hX
        exact hX
      · skip
        rw [if_neg c18] at hk
        refine G.sl [(.aload_n 0, 1, 0, 0, 0, 0), (.getfield 78, 3, 8, 2, 67, 0), (.sipush 200, 3, 0, 0, 0, nI 200)] [] (pc2 := 77) (ls2 := [some (.ref 33), some (.ref 37), none, some (.int x3), some (.int x4), some (.int x5), some (.int x6), some (.int s7)]) (st2 := [.int (nI 200), .int (q33 2)]) (M2 := mrow (mrow (mrow (mrow M 22 q22) 24 q24) 33 q33) 38 q38) (Ps := []) (by decide +kernel) rfl rfl trivial ?_
        refine G.ic_ge (off := (29)) (tgt := 106) (by decide +kernel) rfl (fun c19 => ?_) (fun c19 => ?_)
        · skip
          rw [if_pos c19] at hk
          refine G.loc (ls2 := [some (.ref 33), some (.ref 37), none, some (.int x3), some (.int x4), some (.int x5), some (.int x6), none]) (by simp [subL]) ?_
          simp only [x_doSteps_st_58, if_neg c18, if_pos c19] at hX
          exact hX
        · skip
          rw [if_neg c19] at hk
          refine G.sl [(.aload_n 0, 1, 0, 0, 0, 0), (.aload_n 1, 1, 1, 0, 0, 0), (.iload 6, 2, 6, 0, 0, 0), (.iconst 1, 1, 0, 0, 0, nI 1), (.iadd, 1, 0, 0, 0, 0), (.aload_n 0, 1, 0, 0, 0, 0), (.getfield 18, 3, 8, 7, 72, 0), (.iload 6, 2, 6, 0, 0, 0), (.iaload, 1, 0, 0, 0, 0), (.iload 4, 2, 4, 0, 0, 0), (.iconst 1, 1, 0, 0, 0, nI 1), (.iadd, 1, 0, 0, 0, 0)] [ix x6] (pc2 := 97) (ls2 := [some (.ref 33), some (.ref 37), none, some (.int x3), some (.int x4), some (.int x5), some (.int x6), some (.int s7)]) (st2 := [.int (x4 + (nI 1)), .int (M.1 36 (ix x6)), .int (x6 + (nI 1)), .ref 37, .ref 33]) (M2 := mrow (mrow (mrow (mrow M 22 q22) 24 q24) 33 q33) 38 q38) (Ps := [x6 = nI (ix x6) ∧ (ix x6) < 150]) (by decide +kernel) rfl rfl ⟨⟨(ixE k16), k17⟩, trivial⟩ ?_
          obtain ⟨k20, hk⟩ := hk
          rcases g21 : fz (M.1 4) (M.1 5) (M.1 6) (M.1 7) (M.1 21) q22 (M.1 23) q24 q33 (M.1 34) (M.1 35) (M.1 36) q38 (x6 + (nI 1)) (M.1 36 (ix x6)) (x4 + (nI 1)) with ⟨u22, r23, r24, r25, r26⟩
          try simp only [g21] at hk
          have t27 : GM z mX9_doSteps (d + 5) [.ref 33, .ref 37, .int (x6 + (nI 1)), .int (M.1 36 (ix x6)), .int (x4 + (nI 1))] (mrow (mrow (mrow (mrow M 22 q22) 24 q24) 33 q33) 38 q38) (fun rs => rs = .inl (none, mrow (mrow (mrow (mrow M 22 r23) 24 r24) 33 r25) 38 r26)) := by
            have q9 := Hz 5 (mrow (mrow (mrow (mrow M 22 q22) 24 q24) 33 q33) 38 q38) (x6 + (nI 1)) (M.1 36 (ix x6)) (x4 + (nI 1)) ht hf
            try simp only [mput, mrow_same, mrow_hit, mrow_miss, mrow_sw, idr_eq, ne_eq, Nat.reduceEqDiff, not_false_eq_true, Nat.reduceLT, reduceCtorEq, g21] at q9
            exact q9 (by first | exact k20 | (simp only [mput, mrow_same, mrow_hit, mrow_miss, mrow_sw, idr_eq, ne_eq, Nat.reduceEqDiff, not_false_eq_true, Nat.reduceLT, reduceCtorEq]; exact k20))
          refine G.callV (as := [.ref 37, .int (x6 + (nI 1)), .int (M.1 36 (ix x6)), .int (x4 + (nI 1))]) (rest := []) (a := 33) oX9_doSteps lk_EvenFinders_Work_87 (by decide +kernel) rfl rfl ⟨rfl, rfl⟩ (Nat.le_of_ble_eq_true rfl) rfl ⟨Nat.le_of_ble_eq_true rfl, Nat.le_of_ble_eq_true rfl⟩ t27 (fun v9 N9 h28 => ?_) (fun E9 N9 h28 => by cases h28)
          cases h28
          show G z mX9_doSteps (d + 6) 0 0 100 [some (.ref 33), some (.ref 37), none, some (.int x3), some (.int x4), some (.int x5), some (.int x6), some (.int s7)] [] (mrow (mrow (mrow (mrow M 22 r23) 24 r24) 33 r25) 38 r26) Q
          refine G.sl [(.iinc 7 1, 3, 7, 0, 0, nI 1), (.goto (-45), 3, 58, 0, 0, 0)] [] (pc2 := 58) (ls2 := [some (.ref 33), some (.ref 37), none, some (.int x3), some (.int x4), some (.int x5), some (.int x6), some (.int (s7 + nI 1))]) (st2 := []) (M2 := mrow (mrow (mrow (mrow M 22 r23) 24 r24) 33 r25) 38 r26) (Ps := []) (by decide +kernel) rfl rfl trivial ?_
          simp only [x_doSteps_st_58, if_neg c18, if_neg c19, g21] at hX
          exact ih (s7 + nI 1) r23 r24 r25 r26 hk hX
set_option maxHeartbeats 4000000 in
set_option maxRecDepth 3000 in
theorem lp_x_doSteps_33_37_st_11 (z : Zp) (d : Nat) (M : Mem) (Q : Rs → Prop) (x3 : Int32) (x4 : Int32) (nt : Nat) (hnt : nt ≤ 10) (ht : M.1 3 2 = nI nt) (nf : Nat) (hnf : nf ≤ 6) (hf : M.1 3 3 = nI nf) (fz : (Nat → Int32) → (Nat → Int32) → (Nat → Int32) → (Nat → Int32) → (Nat → Int32) → (Nat → Int32) → (Nat → Int32) → (Nat → Int32) → (Nat → Int32) → (Nat → Int32) → (Nat → Int32) → (Nat → Int32) → (Nat → Int32) → Int32 → Int32 → Int32 → Int32 × (Nat → Int32) × (Nat → Int32) × (Nat → Int32) × (Nat → Int32)) (gz : (Nat → Int32) → (Nat → Int32) → (Nat → Int32) → (Nat → Int32) → (Nat → Int32) → (Nat → Int32) → (Nat → Int32) → (Nat → Int32) → (Nat → Int32) → (Nat → Int32) → (Nat → Int32) → (Nat → Int32) → (Nat → Int32) → Int32 → Int32 → Int32 → Prop) (Hz : ∀ (j : Nat) (M : Mem) (x2 : Int32) (x3 : Int32) (x4 : Int32), M.1 3 2 = nI nt → M.1 3 3 = nI nf → gz (M.1 4) (M.1 5) (M.1 6) (M.1 7) (M.1 21) (M.1 22) (M.1 23) (M.1 24) (M.1 33) (M.1 34) (M.1 35) (M.1 36) (M.1 38) x2 x3 x4 → GM z mX9_doSteps (d + j) [.ref 33, .ref 37, .int x2, .int x3, .int x4] M (fun rs => rs = .inl (none, mrow (mrow (mrow (mrow M 22 ((fz (M.1 4) (M.1 5) (M.1 6) (M.1 7) (M.1 21) (M.1 22) (M.1 23) (M.1 24) (M.1 33) (M.1 34) (M.1 35) (M.1 36) (M.1 38) x2 x3 x4).2.1)) 24 ((fz (M.1 4) (M.1 5) (M.1 6) (M.1 7) (M.1 21) (M.1 22) (M.1 23) (M.1 24) (M.1 33) (M.1 34) (M.1 35) (M.1 36) (M.1 38) x2 x3 x4).2.2.1)) 33 ((fz (M.1 4) (M.1 5) (M.1 6) (M.1 7) (M.1 21) (M.1 22) (M.1 23) (M.1 24) (M.1 33) (M.1 34) (M.1 35) (M.1 36) (M.1 38) x2 x3 x4).2.2.2.1)) 38 ((fz (M.1 4) (M.1 5) (M.1 6) (M.1 7) (M.1 21) (M.1 22) (M.1 23) (M.1 24) (M.1 33) (M.1 34) (M.1 35) (M.1 36) (M.1 38) x2 x3 x4).2.2.2.2)))) : ∀ (k0 : Nat) (s5 : Int32) (q22 : (Nat → Int32)) (q24 : (Nat → Int32)) (q33 : (Nat → Int32)) (q38 : (Nat → Int32)), x_doSteps_st_11_ok fz gz (M.1 4) (M.1 5) (M.1 6) (M.1 7) (M.1 21) (M.1 23) (M.1 34) (M.1 35) (M.1 36) nt nf x3 x4 k0 s5 q22 q24 q33 q38 → (match x_doSteps_st_11 fz (M.1 4) (M.1 5) (M.1 6) (M.1 7) (M.1 21) (M.1 23) (M.1 34) (M.1 35) (M.1 36) nt nf x3 x4 k0 s5 q22 q24 q33 q38 with | (s5', q22', q24', q33', q38') => G z mX9_doSteps (d + 6) 0 0 177 [none, none, none, none, none, none, none, none] [] (mrow (mrow (mrow (mrow M 22 (q22')) 24 (q24')) 33 (q33')) 38 (q38')) Q) → G z mX9_doSteps (d + 6) 0 0 11 [some (.ref 33), some (.ref 37), none, some (.int x3), some (.int x4), some (.int s5), none, none] [] (mrow (mrow (mrow (mrow M 22 q22) 24 q24) 33 q33) 38 q38) Q := by
  intro k0
  induction k0 with
  | zero =>
      intro s5 q22 q24 q33 q38 hk hX
      exact (by simpa only [x_doSteps_st_11_ok] using hk : False).elim
  | succ k0 ih =>
      intro s5 q22 q24 q33 q38 hk hX
      simp only [x_doSteps_st_11_ok] at hk
      refine G.sl [(.iload 5, 2, 5, 0, 0, 0), (.iload_n 3, 1, 3, 0, 0, 0)] [] (pc2 := 14) (ls2 := [some (.ref 33), some (.ref 37), none, some (.int x3), some (.int x4), some (.int s5), none, none]) (st2 := [.int x3, .int s5]) (M2 := mrow (mrow (mrow (mrow M 22 q22) 24 q24) 33 q33) 38 q38) (Ps := []) (by decide +kernel) rfl rfl trivial ?_
      refine G.ic_ge (off := (163)) (tgt := 177) (by decide +kernel) rfl (fun c2 => ?_) (fun c2 => ?_)
      · skip
        rw [if_pos c2] at hk
        refine G.loc (ls2 := [none, none, none, none, none, none, none, none]) (by simp [subL]) ?_
        simp only [x_doSteps_st_11, if_pos c2] at hX
        exact hX
      · skip
        rw [if_neg c2] at hk
        refine G.sl [(.aload_n 0, 1, 0, 0, 0, 0), (.getfield 78, 3, 8, 2, 67, 0), (.sipush 200, 3, 0, 0, 0, nI 200)] [] (pc2 := 24) (ls2 := [some (.ref 33), some (.ref 37), none, some (.int x3), some (.int x4), some (.int s5), none, none]) (st2 := [.int (nI 200), .int (q33 2)]) (M2 := mrow (mrow (mrow (mrow M 22 q22) 24 q24) 33 q33) 38 q38) (Ps := []) (by decide +kernel) rfl rfl trivial ?_
        refine G.ic_ge (off := (153)) (tgt := 177) (by decide +kernel) rfl (fun c3 => ?_) (fun c3 => ?_)
        · skip
          rw [if_pos c3] at hk
          refine G.loc (ls2 := [none, none, none, none, none, none, none, none]) (by simp [subL]) ?_
          simp only [x_doSteps_st_11, if_neg c2, if_pos c3] at hX
          exact hX
        · skip
          rw [if_neg c3] at hk
          obtain ⟨k4, k5, hk⟩ := hk
          refine G.sl [(.aload_n 0, 1, 0, 0, 0, 0), (.dup, 1, 0, 0, 0, 0), (.getfield 78, 3, 8, 2, 67, 0), (.iconst 1, 1, 0, 0, 0, nI 1), (.iadd, 1, 0, 0, 0, 0), (.putfield 78, 3, 8, 2, 67, 0), (.iload 5, 2, 5, 0, 0, 0), (.istore 6, 2, 6, 0, 0, 0), (.iinc 5 1, 3, 5, 0, 0, nI 1), (.aload_n 0, 1, 0, 0, 0, 0), (.getfield 9, 3, 8, 5, 70, 0), (.iload 6, 2, 6, 0, 0, 0), (.iaload, 1, 0, 0, 0, 0), (.iconst 5, 1, 0, 0, 0, nI 5)] [ix s5] (pc2 := 52) (ls2 := [some (.ref 33), some (.ref 37), none, some (.int x3), some (.int x4), some (.int (s5 + nI 1)), some (.int s5), none]) (st2 := [.int (nI 5), .int (M.1 34 (ix s5))]) (M2 := mput (mrow (mrow (mrow (mrow M 22 q22) 24 q24) 33 q33) 38 q38) 33 2 ((q33 2) + (nI 1))) (Ps := [s5 = nI (ix s5) ∧ (ix s5) < 150]) (by decide +kernel) rfl rfl ⟨⟨(ixE k4), k5⟩, trivial⟩ ?_
          refine G.mem (M' := mrow (mrow (mrow (mrow M 22 q22) 24 q24) 33 (upd q33 2 ((q33 2) + (nI 1)))) 38 q38) (by first | rfl | (simp only [mput, mrow_same, mrow_hit, mrow_miss, mrow_sw, idr_eq, ne_eq, Nat.reduceEqDiff, not_false_eq_true, Nat.reduceLT, reduceCtorEq]; done)) ?_
          refine G.ic_ne (off := (71)) (tgt := 123) (by decide +kernel) rfl (fun c6 => ?_) (fun c6 => ?_)
          · skip
            rw [if_neg c6] at hk
            refine G.sl [(.aload_n 1, 1, 1, 0, 0, 0), (.aload_n 0, 1, 0, 0, 0, 0), (.getfield 9, 3, 8, 5, 70, 0), (.iload 6, 2, 6, 0, 0, 0), (.iaload, 1, 0, 0, 0, 0), (.aload_n 0, 1, 0, 0, 0, 0), (.getfield 15, 3, 8, 6, 71, 0), (.iload 6, 2, 6, 0, 0, 0), (.iaload, 1, 0, 0, 0, 0), (.aload_n 0, 1, 0, 0, 0, 0), (.getfield 18, 3, 8, 7, 72, 0), (.iload 6, 2, 6, 0, 0, 0), (.iaload, 1, 0, 0, 0, 0)] [ix s5, ix s5, ix s5] (pc2 := 145) (ls2 := [some (.ref 33), some (.ref 37), none, some (.int x3), some (.int x4), some (.int (s5 + nI 1)), some (.int s5), none]) (st2 := [.int (M.1 36 (ix s5)), .int (M.1 35 (ix s5)), .int (M.1 34 (ix s5)), .ref 37]) (M2 := mrow (mrow (mrow (mrow M 22 q22) 24 q24) 33 (upd q33 2 ((q33 2) + (nI 1)))) 38 q38) (Ps := [s5 = nI (ix s5) ∧ (ix s5) < 150, s5 = nI (ix s5) ∧ (ix s5) < 150, s5 = nI (ix s5) ∧ (ix s5) < 150]) (by decide +kernel) rfl rfl ⟨⟨(ixE k4), k5⟩, ⟨(ixE k4), k5⟩, ⟨(ixE k4), k5⟩, trivial⟩ ?_
            obtain ⟨k7, hk⟩ := hk
            rcases g8 : x_isDone (M.1 4) (M.1 5) (M.1 6) (M.1 7) (M.1 21) q22 (M.1 23) q24 q38 nt nf (M.1 34 (ix s5)) (M.1 35 (ix s5)) (M.1 36 (ix s5)) with ⟨v9, r10, r11, r12⟩
            try simp only [g8] at hk
            have ev9 : v9 = 0 ∨ v9 = 1 := by
              have q9 := x_isDone_01 (M.1 4) (M.1 5) (M.1 6) (M.1 7) (M.1 21) q22 (M.1 23) q24 q38 nt nf (M.1 34 (ix s5)) (M.1 35 (ix s5)) (M.1 36 (ix s5))
              rw [g8] at q9
              exact q9
            have t13 : GM z mX9_isDone (d + 5) [.ref 37, .int (M.1 34 (ix s5)), .int (M.1 35 (ix s5)), .int (M.1 36 (ix s5))] (mrow (mrow (mrow (mrow M 22 q22) 24 q24) 33 (upd q33 2 ((q33 2) + (nI 1)))) 38 q38) (fun rs => rs = .inl (some (.int v9), mrow (mrow (mrow (mrow M 22 r10) 24 r11) 33 (upd q33 2 ((q33 2) + (nI 1)))) 38 r12)) := by
              have q9 := c_x_isDone_37 z d (mrow (mrow (mrow (mrow M 22 q22) 24 q24) 33 (upd q33 2 ((q33 2) + (nI 1)))) 38 q38) (M.1 34 (ix s5)) (M.1 35 (ix s5)) (M.1 36 (ix s5)) nt hnt ht nf hnf hf k7
              try simp only [mput, mrow_same, mrow_hit, mrow_miss, mrow_sw, idr_eq, ne_eq, Nat.reduceEqDiff, not_false_eq_true, Nat.reduceLT, reduceCtorEq, g8] at q9
              exact q9
            refine G.callS (as := [.ref 37, .int (M.1 34 (ix s5)), .int (M.1 35 (ix s5)), .int (M.1 36 (ix s5))]) (rest := []) oX9_isDone lk_EvenFinders_Work_96 (by decide +kernel) rfl (Nat.le_of_ble_eq_true rfl) rfl ⟨Nat.le_of_ble_eq_true rfl, Nat.le_of_ble_eq_true rfl⟩ t13 (fun v9 N9 h14 => ?_) (fun E9 N9 h14 => by cases h14)
            cases h14
            show G z mX9_doSteps (d + 6) 0 0 148 [some (.ref 33), some (.ref 37), none, some (.int x3), some (.int x4), some (.int (s5 + nI 1)), some (.int s5), none] [.int v9] (mrow (mrow (mrow (mrow M 22 r10) 24 r11) 33 (upd q33 2 ((q33 2) + (nI 1)))) 38 r12) Q
            refine G.if_eq (off := (16)) (tgt := 164) (by decide +kernel) rfl (fun c15 => ?_) (fun c15 => ?_)
            · skip
              rw [if_pos c15] at hk
              refine G.sl [(.aload_n 0, 1, 0, 0, 0, 0), (.dup, 1, 0, 0, 0, 0), (.getfield 84, 3, 8, 1, 66, 0), (.iconst 1, 1, 0, 0, 0, nI 1), (.iadd, 1, 0, 0, 0, 0), (.putfield 84, 3, 8, 1, 66, 0), (.goto (-163), 3, 11, 0, 0, 0)] [] (pc2 := 11) (ls2 := [some (.ref 33), some (.ref 37), none, some (.int x3), some (.int x4), some (.int (s5 + nI 1)), some (.int s5), none]) (st2 := []) (M2 := mput (mrow (mrow (mrow (mrow M 22 r10) 24 r11) 33 (upd q33 2 ((q33 2) + (nI 1)))) 38 r12) 33 1 ((q33 1) + (nI 1))) (Ps := []) (by decide +kernel) rfl rfl trivial ?_
              refine G.mem (M' := mrow (mrow (mrow (mrow M 22 r10) 24 r11) 33 (upd (upd q33 2 ((q33 2) + (nI 1))) 1 ((q33 1) + (nI 1)))) 38 r12) (by first | rfl | (simp only [mput, mrow_same, mrow_hit, mrow_miss, mrow_sw, idr_eq, ne_eq, Nat.reduceEqDiff, not_false_eq_true, Nat.reduceLT, reduceCtorEq]; done)) ?_
              refine G.loc (ls2 := [some (.ref 33), some (.ref 37), none, some (.int x3), some (.int x4), some (.int (s5 + nI 1)), none, none]) (by simp [subL]) ?_
              simp only [x_doSteps_st_11, if_neg c2, if_neg c3, if_neg c6, g8, if_pos c15] at hX
              exact ih (s5 + nI 1) r10 r11 (upd (upd q33 2 ((q33 2) + (nI 1))) 1 ((q33 1) + (nI 1))) r12 hk hX
            · skip
              rw [if_neg c15] at hk
              refine G.sl [(.aload_n 0, 1, 0, 0, 0, 0), (.dup, 1, 0, 0, 0, 0), (.getfield 81, 3, 8, 0, 64, 0), (.iconst 1, 1, 0, 0, 0, nI 1), (.iadd, 1, 0, 0, 0, 0), (.putfield 81, 3, 8, 0, 64, 0), (.goto 13, 3, 174, 0, 0, 0), (.goto (-163), 3, 11, 0, 0, 0)] [] (pc2 := 11) (ls2 := [some (.ref 33), some (.ref 37), none, some (.int x3), some (.int x4), some (.int (s5 + nI 1)), some (.int s5), none]) (st2 := []) (M2 := mput (mrow (mrow (mrow (mrow M 22 r10) 24 r11) 33 (upd q33 2 ((q33 2) + (nI 1)))) 38 r12) 33 0 ((q33 0) + (nI 1))) (Ps := []) (by decide +kernel) rfl rfl trivial ?_
              refine G.mem (M' := mrow (mrow (mrow (mrow M 22 r10) 24 r11) 33 (upd (upd q33 2 ((q33 2) + (nI 1))) 0 ((q33 0) + (nI 1)))) 38 r12) (by first | rfl | (simp only [mput, mrow_same, mrow_hit, mrow_miss, mrow_sw, idr_eq, ne_eq, Nat.reduceEqDiff, not_false_eq_true, Nat.reduceLT, reduceCtorEq]; done)) ?_
              refine G.loc (ls2 := [some (.ref 33), some (.ref 37), none, some (.int x3), some (.int x4), some (.int (s5 + nI 1)), none, none]) (by simp [subL]) ?_
              simp only [x_doSteps_st_11, if_neg c2, if_neg c3, if_neg c6, g8, if_neg c15] at hX
              exact ih (s5 + nI 1) r10 r11 (upd (upd q33 2 ((q33 2) + (nI 1))) 0 ((q33 0) + (nI 1))) r12 hk hX
          · skip
            rw [if_pos c6] at hk
            refine G.sl [(.iconst 0, 1, 0, 0, 0, nI 0), (.istore 7, 2, 7, 0, 0, 0)] [] (pc2 := 58) (ls2 := [some (.ref 33), some (.ref 37), none, some (.int x3), some (.int x4), some (.int (s5 + nI 1)), some (.int s5), some (.int (nI 0))]) (st2 := []) (M2 := mrow (mrow (mrow (mrow M 22 q22) 24 q24) 33 (upd q33 2 ((q33 2) + (nI 1)))) 38 q38) (Ps := []) (by decide +kernel) rfl rfl trivial ?_
            obtain ⟨k29, hk⟩ := hk
            refine G.mem (M' := mrow (mrow (mrow (mrow (mrow (mrow (mrow (mrow M 22 q22) 24 q24) 33 (upd q33 2 ((q33 2) + (nI 1)))) 38 q38) 22 ((mrow (mrow (mrow (mrow M 22 q22) 24 q24) 33 (upd q33 2 ((q33 2) + (nI 1)))) 38 q38).1 22)) 24 ((mrow (mrow (mrow (mrow M 22 q22) 24 q24) 33 (upd q33 2 ((q33 2) + (nI 1)))) 38 q38).1 24)) 33 ((mrow (mrow (mrow (mrow M 22 q22) 24 q24) 33 (upd q33 2 ((q33 2) + (nI 1)))) 38 q38).1 33)) 38 ((mrow (mrow (mrow (mrow M 22 q22) 24 q24) 33 (upd q33 2 ((q33 2) + (nI 1)))) 38 q38).1 38)) (by simp only [mrow_self]) ?_
            refine lp_x_doSteps_33_37_st_58 z d (mrow (mrow (mrow (mrow M 22 q22) 24 q24) 33 (upd q33 2 ((q33 2) + (nI 1)))) 38 q38) Q x3 x4 (s5 + nI 1) s5 nt hnt ht nf hnf hf fz gz Hz FU (nI 0) ((mrow (mrow (mrow (mrow M 22 q22) 24 q24) 33 (upd q33 2 ((q33 2) + (nI 1)))) 38 q38).1 22) ((mrow (mrow (mrow (mrow M 22 q22) 24 q24) 33 (upd q33 2 ((q33 2) + (nI 1)))) 38 q38).1 24) ((mrow (mrow (mrow (mrow M 22 q22) 24 q24) 33 (upd q33 2 ((q33 2) + (nI 1)))) 38 q38).1 33) ((mrow (mrow (mrow (mrow M 22 q22) 24 q24) 33 (upd q33 2 ((q33 2) + (nI 1)))) 38 q38).1 38) (by first | (simp only [mput, mrow_same, mrow_hit, mrow_miss, mrow_sw, idr_eq, ne_eq, Nat.reduceEqDiff, not_false_eq_true, Nat.reduceLT, reduceCtorEq]; exact k29) | exact k29) ?_
            try simp only [mput, mrow_same, mrow_hit, mrow_miss, mrow_sw, idr_eq, ne_eq, Nat.reduceEqDiff, not_false_eq_true, Nat.reduceLT, reduceCtorEq]
            rcases g30 : x_doSteps_st_58 fz (M.1 4) (M.1 5) (M.1 6) (M.1 7) (M.1 21) (M.1 23) (M.1 34) (M.1 35) (M.1 36) x3 x4 (s5 + nI 1) s5 FU (nI 0) q22 q24 (upd q33 2 ((q33 2) + (nI 1))) q38 with ⟨v31, r32, r33, r34, r35⟩
            try simp only [g30] at hk
            show G z mX9_doSteps (d + 6) 0 0 106 [some (.ref 33), some (.ref 37), none, some (.int x3), some (.int x4), some (.int (s5 + nI 1)), some (.int s5), none] [] (mrow (mrow (mrow (mrow M 22 r32) 24 r33) 33 r34) 38 r35) Q
            refine G.sl [(.iload 5, 2, 5, 0, 0, 0), (.aload_n 0, 1, 0, 0, 0, 0), (.getfield 18, 3, 8, 7, 72, 0), (.iload 6, 2, 6, 0, 0, 0), (.iaload, 1, 0, 0, 0, 0)] [ix s5] (pc2 := 115) (ls2 := [some (.ref 33), some (.ref 37), none, some (.int x3), some (.int x4), some (.int (s5 + nI 1)), some (.int s5), none]) (st2 := [.int (M.1 36 (ix s5)), .int (s5 + nI 1)]) (M2 := mrow (mrow (mrow (mrow M 22 r32) 24 r33) 33 r34) 38 r35) (Ps := [s5 = nI (ix s5) ∧ (ix s5) < 150]) (by decide +kernel) rfl rfl ⟨⟨(ixE k4), k5⟩, trivial⟩ ?_
            refine G.mmax lm_EvenFinders_Work_91 (by decide +kernel) (Nat.le_of_ble_eq_true rfl) (Nat.le_of_ble_eq_true rfl) (Nat.le_of_ble_eq_true rfl) ?_
            refine G.sl [(.istore 5, 2, 5, 0, 0, 0), (.goto 54, 3, 174, 0, 0, 0), (.goto (-163), 3, 11, 0, 0, 0)] [] (pc2 := 11) (ls2 := [some (.ref 33), some (.ref 37), none, some (.int x3), some (.int x4), some (.int (if (s5 + nI 1) < (M.1 36 (ix s5)) then (M.1 36 (ix s5)) else (s5 + nI 1))), some (.int s5), none]) (st2 := []) (M2 := mrow (mrow (mrow (mrow M 22 r32) 24 r33) 33 r34) 38 r35) (Ps := []) (by decide +kernel) rfl rfl trivial ?_
            refine G.loc (ls2 := [some (.ref 33), some (.ref 37), none, some (.int x3), some (.int x4), some (.int (if (s5 + nI 1) < (M.1 36 (ix s5)) then (M.1 36 (ix s5)) else (s5 + nI 1))), none, none]) (by simp [subL]) ?_
            simp only [x_doSteps_st_11, if_neg c2, if_neg c3, if_pos c6, g30] at hX
            exact ih (if (s5 + nI 1) < (M.1 36 (ix s5)) then (M.1 36 (ix s5)) else (s5 + nI 1)) r32 r33 r34 r35 hk hX
set_option maxHeartbeats 4000000 in
set_option maxRecDepth 3000 in
theorem c_x_doSteps_33_37_st (z : Zp) (d : Nat) (M : Mem) (x2 : Int32) (x3 : Int32) (x4 : Int32) (nt : Nat) (hnt : nt ≤ 10) (ht : M.1 3 2 = nI nt) (nf : Nat) (hnf : nf ≤ 6) (hf : M.1 3 3 = nI nf) (fz : (Nat → Int32) → (Nat → Int32) → (Nat → Int32) → (Nat → Int32) → (Nat → Int32) → (Nat → Int32) → (Nat → Int32) → (Nat → Int32) → (Nat → Int32) → (Nat → Int32) → (Nat → Int32) → (Nat → Int32) → (Nat → Int32) → Int32 → Int32 → Int32 → Int32 × (Nat → Int32) × (Nat → Int32) × (Nat → Int32) × (Nat → Int32)) (gz : (Nat → Int32) → (Nat → Int32) → (Nat → Int32) → (Nat → Int32) → (Nat → Int32) → (Nat → Int32) → (Nat → Int32) → (Nat → Int32) → (Nat → Int32) → (Nat → Int32) → (Nat → Int32) → (Nat → Int32) → (Nat → Int32) → Int32 → Int32 → Int32 → Prop) (Hz : ∀ (j : Nat) (M : Mem) (x2 : Int32) (x3 : Int32) (x4 : Int32), M.1 3 2 = nI nt → M.1 3 3 = nI nf → gz (M.1 4) (M.1 5) (M.1 6) (M.1 7) (M.1 21) (M.1 22) (M.1 23) (M.1 24) (M.1 33) (M.1 34) (M.1 35) (M.1 36) (M.1 38) x2 x3 x4 → GM z mX9_doSteps (d + j) [.ref 33, .ref 37, .int x2, .int x3, .int x4] M (fun rs => rs = .inl (none, mrow (mrow (mrow (mrow M 22 ((fz (M.1 4) (M.1 5) (M.1 6) (M.1 7) (M.1 21) (M.1 22) (M.1 23) (M.1 24) (M.1 33) (M.1 34) (M.1 35) (M.1 36) (M.1 38) x2 x3 x4).2.1)) 24 ((fz (M.1 4) (M.1 5) (M.1 6) (M.1 7) (M.1 21) (M.1 22) (M.1 23) (M.1 24) (M.1 33) (M.1 34) (M.1 35) (M.1 36) (M.1 38) x2 x3 x4).2.2.1)) 33 ((fz (M.1 4) (M.1 5) (M.1 6) (M.1 7) (M.1 21) (M.1 22) (M.1 23) (M.1 24) (M.1 33) (M.1 34) (M.1 35) (M.1 36) (M.1 38) x2 x3 x4).2.2.2.1)) 38 ((fz (M.1 4) (M.1 5) (M.1 6) (M.1 7) (M.1 21) (M.1 22) (M.1 23) (M.1 24) (M.1 33) (M.1 34) (M.1 35) (M.1 36) (M.1 38) x2 x3 x4).2.2.2.2)))) (hk : x_doSteps_st_ok fz gz (M.1 4) (M.1 5) (M.1 6) (M.1 7) (M.1 21) (M.1 22) (M.1 23) (M.1 24) (M.1 33) (M.1 34) (M.1 35) (M.1 36) (M.1 38) nt nf x2 x3 x4) : GM z mX9_doSteps (d + 6) [.ref 33, .ref 37, .int x2, .int x3, .int x4] M (fun rs => rs = .inl (none, mrow (mrow (mrow (mrow M 22 ((x_doSteps_st fz (M.1 4) (M.1 5) (M.1 6) (M.1 7) (M.1 21) (M.1 22) (M.1 23) (M.1 24) (M.1 33) (M.1 34) (M.1 35) (M.1 36) (M.1 38) nt nf x2 x3 x4).2.1)) 24 ((x_doSteps_st fz (M.1 4) (M.1 5) (M.1 6) (M.1 7) (M.1 21) (M.1 22) (M.1 23) (M.1 24) (M.1 33) (M.1 34) (M.1 35) (M.1 36) (M.1 38) nt nf x2 x3 x4).2.2.1)) 33 ((x_doSteps_st fz (M.1 4) (M.1 5) (M.1 6) (M.1 7) (M.1 21) (M.1 22) (M.1 23) (M.1 24) (M.1 33) (M.1 34) (M.1 35) (M.1 36) (M.1 38) nt nf x2 x3 x4).2.2.2.1)) 38 ((x_doSteps_st fz (M.1 4) (M.1 5) (M.1 6) (M.1 7) (M.1 21) (M.1 22) (M.1 23) (M.1 24) (M.1 33) (M.1 34) (M.1 35) (M.1 36) (M.1 38) nt nf x2 x3 x4).2.2.2.2))) := by
  simp only [x_doSteps_st_ok] at hk
  refine GM.of oX9_doSteps.1 (Nat.le_of_ble_eq_true rfl) ?_
  show G z mX9_doSteps (d + 6) 0 0 0 [some (.ref 33), some (.ref 37), some (.int x2), some (.int x3), some (.int x4), none, none, none] [] M _
  obtain ⟨Q, hQ⟩ : ∃ Q : Rs → Prop, Q = (fun rs => rs = .inl (none, mrow (mrow (mrow (mrow M 22 ((x_doSteps_st fz (M.1 4) (M.1 5) (M.1 6) (M.1 7) (M.1 21) (M.1 22) (M.1 23) (M.1 24) (M.1 33) (M.1 34) (M.1 35) (M.1 36) (M.1 38) nt nf x2 x3 x4).2.1)) 24 ((x_doSteps_st fz (M.1 4) (M.1 5) (M.1 6) (M.1 7) (M.1 21) (M.1 22) (M.1 23) (M.1 24) (M.1 33) (M.1 34) (M.1 35) (M.1 36) (M.1 38) nt nf x2 x3 x4).2.2.1)) 33 ((x_doSteps_st fz (M.1 4) (M.1 5) (M.1 6) (M.1 7) (M.1 21) (M.1 22) (M.1 23) (M.1 24) (M.1 33) (M.1 34) (M.1 35) (M.1 36) (M.1 38) nt nf x2 x3 x4).2.2.2.1)) 38 ((x_doSteps_st fz (M.1 4) (M.1 5) (M.1 6) (M.1 7) (M.1 21) (M.1 22) (M.1 23) (M.1 24) (M.1 33) (M.1 34) (M.1 35) (M.1 36) (M.1 38) nt nf x2 x3 x4).2.2.2.2))) := ⟨_, rfl⟩
  rw [← hQ]
  refine G.sl [(.iload 4, 2, 4, 0, 0, 0), (.bipush 6, 2, 0, 0, 0, nI 6)] [] (pc2 := 4) (ls2 := [some (.ref 33), some (.ref 37), some (.int x2), some (.int x3), some (.int x4), none, none, none]) (st2 := [.int (nI 6), .int x4]) (M2 := M) (Ps := []) (by decide +kernel) rfl rfl trivial ?_
  refine G.ic_le (off := (4)) (tgt := 8) (by decide +kernel) rfl (fun c1 => ?_) (fun c1 => ?_)
  · skip
    rw [if_pos c1] at hk
    refine G.sl [(.iload_n 2, 1, 2, 0, 0, 0), (.istore 5, 2, 5, 0, 0, 0)] [] (pc2 := 11) (ls2 := [some (.ref 33), some (.ref 37), some (.int x2), some (.int x3), some (.int x4), some (.int x2), none, none]) (st2 := []) (M2 := M) (Ps := []) (by decide +kernel) rfl rfl trivial ?_
    refine G.loc (ls2 := [some (.ref 33), some (.ref 37), none, some (.int x3), some (.int x4), some (.int x2), none, none]) (by simp [subL]) ?_
    obtain ⟨k36, hk⟩ := hk
    refine G.mem (M' := mrow (mrow (mrow (mrow M 22 (M.1 22)) 24 (M.1 24)) 33 (M.1 33)) 38 (M.1 38)) (by simp only [mrow_self]) ?_
    refine lp_x_doSteps_33_37_st_11 z d M Q x3 x4 nt hnt ht nf hnf hf fz gz Hz FU x2 (M.1 22) (M.1 24) (M.1 33) (M.1 38) (by first | (simp only [mput, mrow_same, mrow_hit, mrow_miss, mrow_sw, idr_eq, ne_eq, Nat.reduceEqDiff, not_false_eq_true, Nat.reduceLT, reduceCtorEq]; exact k36) | exact k36) ?_
    try simp only [mput, mrow_same, mrow_hit, mrow_miss, mrow_sw, idr_eq, ne_eq, Nat.reduceEqDiff, not_false_eq_true, Nat.reduceLT, reduceCtorEq]
    rcases g37 : x_doSteps_st_11 fz (M.1 4) (M.1 5) (M.1 6) (M.1 7) (M.1 21) (M.1 23) (M.1 34) (M.1 35) (M.1 36) nt nf x3 x4 FU x2 (M.1 22) (M.1 24) (M.1 33) (M.1 38) with ⟨v38, r39, r40, r41, r42⟩
    show G z mX9_doSteps (d + 6) 0 0 177 [none, none, none, none, none, none, none, none] [] (mrow (mrow (mrow (mrow M 22 r39) 24 r40) 33 r41) 38 r42) Q
    exact G.retv (by decide +kernel) rfl (Nat.le_of_ble_eq_true rfl) (Nat.le_of_ble_eq_true rfl) ((by rw [hQ]; simp only [x_doSteps_st, if_pos c1, g37, mrow_self]))
  · skip
    rw [if_neg c1] at hk
    refine G.mem (M' := mrow (mrow (mrow (mrow M 22 (M.1 22)) 24 (M.1 24)) 33 (M.1 33)) 38 (M.1 38)) ((((((mrow_id (N := M) (c := 22) (f := M.1 22) (by first | rfl | (simp only [mput, mrow_same, mrow_hit, mrow_miss, mrow_sw, idr_eq, ne_eq, Nat.reduceEqDiff, not_false_eq_true, Nat.reduceLT, reduceCtorEq]; done))).symm).trans (mrow_id (N := mrow M 22 (M.1 22)) (c := 24) (f := M.1 24) (by first | rfl | (simp only [mput, mrow_same, mrow_hit, mrow_miss, mrow_sw, idr_eq, ne_eq, Nat.reduceEqDiff, not_false_eq_true, Nat.reduceLT, reduceCtorEq]; done))).symm).trans (mrow_id (N := mrow (mrow M 22 (M.1 22)) 24 (M.1 24)) (c := 33) (f := M.1 33) (by first | rfl | (simp only [mput, mrow_same, mrow_hit, mrow_miss, mrow_sw, idr_eq, ne_eq, Nat.reduceEqDiff, not_false_eq_true, Nat.reduceLT, reduceCtorEq]; done))).symm).trans (mrow_id (N := mrow (mrow (mrow M 22 (M.1 22)) 24 (M.1 24)) 33 (M.1 33)) (c := 38) (f := M.1 38) (by first | rfl | (simp only [mput, mrow_same, mrow_hit, mrow_miss, mrow_sw, idr_eq, ne_eq, Nat.reduceEqDiff, not_false_eq_true, Nat.reduceLT, reduceCtorEq]; done))).symm).trans (by first | rfl | (simp only [mput, mrow_same, mrow_hit, mrow_miss, mrow_sw, idr_eq, ne_eq, Nat.reduceEqDiff, not_false_eq_true, Nat.reduceLT, reduceCtorEq]; done))) ?_
    exact G.retv (by decide +kernel) rfl (Nat.le_of_ble_eq_true rfl) (Nat.le_of_ble_eq_true rfl) ((by rw [hQ]; simp only [x_doSteps_st, if_neg c1, mrow_self]))
theorem c_x_doSteps_33_37_rec (z : Zp) (nt : Nat) (hnt : nt ≤ 10) (nf : Nat) (hnf : nf ≤ 6) : ∀ (k0 d : Nat) (M : Mem) (x2 : Int32) (x3 : Int32) (x4 : Int32), M.1 3 2 = nI nt → M.1 3 3 = nI nf → x_doSteps_rec_ok nt nf k0 (M.1 4) (M.1 5) (M.1 6) (M.1 7) (M.1 21) (M.1 22) (M.1 23) (M.1 24) (M.1 33) (M.1 34) (M.1 35) (M.1 36) (M.1 38) x2 x3 x4 → GM z mX9_doSteps (d + 6 * k0) [.ref 33, .ref 37, .int x2, .int x3, .int x4] M (fun rs => rs = .inl (none, mrow (mrow (mrow (mrow M 22 ((x_doSteps_rec nt nf k0 (M.1 4) (M.1 5) (M.1 6) (M.1 7) (M.1 21) (M.1 22) (M.1 23) (M.1 24) (M.1 33) (M.1 34) (M.1 35) (M.1 36) (M.1 38) x2 x3 x4).2.1)) 24 ((x_doSteps_rec nt nf k0 (M.1 4) (M.1 5) (M.1 6) (M.1 7) (M.1 21) (M.1 22) (M.1 23) (M.1 24) (M.1 33) (M.1 34) (M.1 35) (M.1 36) (M.1 38) x2 x3 x4).2.2.1)) 33 ((x_doSteps_rec nt nf k0 (M.1 4) (M.1 5) (M.1 6) (M.1 7) (M.1 21) (M.1 22) (M.1 23) (M.1 24) (M.1 33) (M.1 34) (M.1 35) (M.1 36) (M.1 38) x2 x3 x4).2.2.2.1)) 38 ((x_doSteps_rec nt nf k0 (M.1 4) (M.1 5) (M.1 6) (M.1 7) (M.1 21) (M.1 22) (M.1 23) (M.1 24) (M.1 33) (M.1 34) (M.1 35) (M.1 36) (M.1 38) x2 x3 x4).2.2.2.2))) := by
  intro k0
  induction k0 with
  | zero =>
    intro d M x2 x3 x4 ht hf hk
    exact (by simpa only [x_doSteps_rec_ok] using hk : False).elim
  | succ k0 ih =>
    intro d M x2 x3 x4 ht hf hk
    have e9 : d + 6 * (k0 + 1) = (d + 6 * k0) + 6 := by omega
    rw [e9]
    simp only [x_doSteps_rec_ok] at hk
    have q9 := c_x_doSteps_33_37_st z (d + 6 * k0) M x2 x3 x4 nt hnt ht nf hnf hf (x_doSteps_rec nt nf k0) (x_doSteps_rec_ok nt nf k0) (fun j M x2 x3 x4 ht hf hk => by
      have q9 := ih (d + j) M x2 x3 x4 ht hf hk
      rw [show d + j + 6 * k0 = d + 6 * k0 + j by omega] at q9
      exact q9)  hk
    simp only [x_doSteps_rec]
    exact q9
theorem c_x_doSteps_33_37 (z : Zp) (d : Nat) (M : Mem) (x2 : Int32) (x3 : Int32) (x4 : Int32) (nt : Nat) (hnt : nt ≤ 10) (ht : M.1 3 2 = nI nt) (nf : Nat) (hnf : nf ≤ 6) (hf : M.1 3 3 = nI nf) (hk : x_doSteps_ok (M.1 4) (M.1 5) (M.1 6) (M.1 7) (M.1 21) (M.1 22) (M.1 23) (M.1 24) (M.1 33) (M.1 34) (M.1 35) (M.1 36) (M.1 38) nt nf x2 x3 x4) : GM z mX9_doSteps (d + 60) [.ref 33, .ref 37, .int x2, .int x3, .int x4] M (fun rs => rs = .inl (none, mrow (mrow (mrow (mrow M 22 ((x_doSteps (M.1 4) (M.1 5) (M.1 6) (M.1 7) (M.1 21) (M.1 22) (M.1 23) (M.1 24) (M.1 33) (M.1 34) (M.1 35) (M.1 36) (M.1 38) nt nf x2 x3 x4).2.1)) 24 ((x_doSteps (M.1 4) (M.1 5) (M.1 6) (M.1 7) (M.1 21) (M.1 22) (M.1 23) (M.1 24) (M.1 33) (M.1 34) (M.1 35) (M.1 36) (M.1 38) nt nf x2 x3 x4).2.2.1)) 33 ((x_doSteps (M.1 4) (M.1 5) (M.1 6) (M.1 7) (M.1 21) (M.1 22) (M.1 23) (M.1 24) (M.1 33) (M.1 34) (M.1 35) (M.1 36) (M.1 38) nt nf x2 x3 x4).2.2.2.1)) 38 ((x_doSteps (M.1 4) (M.1 5) (M.1 6) (M.1 7) (M.1 21) (M.1 22) (M.1 23) (M.1 24) (M.1 33) (M.1 34) (M.1 35) (M.1 36) (M.1 38) nt nf x2 x3 x4).2.2.2.2))) := by
  have q9 := c_x_doSteps_33_37_rec z nt hnt nf hnf 10 d M x2 x3 x4 ht hf hk
  exact q9
set_option maxHeartbeats 4000000 in
set_option maxRecDepth 3000 in
theorem c_x_doneBy_33_37 (z : Zp) (d : Nat) (M : Mem) (nt : Nat) (hnt : nt ≤ 10) (ht : M.1 3 2 = nI nt) (nf : Nat) (hnf : nf ≤ 6) (hf : M.1 3 3 = nI nf) (hk : x_doneBy_ok (M.1 4) (M.1 5) (M.1 6) (M.1 7) (M.1 21) (M.1 22) (M.1 23) (M.1 24) (M.1 33) (M.1 34) (M.1 35) (M.1 36) (M.1 38) nt nf) : GM z mX9_doneBy (d + 61) [.ref 33, .ref 37] M (fun rs => rs = .inl (none, mrow (mrow (mrow (mrow M 22 ((x_doneBy (M.1 4) (M.1 5) (M.1 6) (M.1 7) (M.1 21) (M.1 22) (M.1 23) (M.1 24) (M.1 33) (M.1 34) (M.1 35) (M.1 36) (M.1 38) nt nf).2.1)) 24 ((x_doneBy (M.1 4) (M.1 5) (M.1 6) (M.1 7) (M.1 21) (M.1 22) (M.1 23) (M.1 24) (M.1 33) (M.1 34) (M.1 35) (M.1 36) (M.1 38) nt nf).2.2.1)) 33 ((x_doneBy (M.1 4) (M.1 5) (M.1 6) (M.1 7) (M.1 21) (M.1 22) (M.1 23) (M.1 24) (M.1 33) (M.1 34) (M.1 35) (M.1 36) (M.1 38) nt nf).2.2.2.1)) 38 ((x_doneBy (M.1 4) (M.1 5) (M.1 6) (M.1 7) (M.1 21) (M.1 22) (M.1 23) (M.1 24) (M.1 33) (M.1 34) (M.1 35) (M.1 36) (M.1 38) nt nf).2.2.2.2))) := by
  simp only [x_doneBy_ok] at hk
  refine GM.of oX9_doneBy.1 (Nat.le_of_ble_eq_true rfl) ?_
  show G z mX9_doneBy (d + 61) 0 0 0 [some (.ref 33), some (.ref 37)] [] M _
  obtain ⟨Q, hQ⟩ : ∃ Q : Rs → Prop, Q = (fun rs => rs = .inl (none, mrow (mrow (mrow (mrow M 22 ((x_doneBy (M.1 4) (M.1 5) (M.1 6) (M.1 7) (M.1 21) (M.1 22) (M.1 23) (M.1 24) (M.1 33) (M.1 34) (M.1 35) (M.1 36) (M.1 38) nt nf).2.1)) 24 ((x_doneBy (M.1 4) (M.1 5) (M.1 6) (M.1 7) (M.1 21) (M.1 22) (M.1 23) (M.1 24) (M.1 33) (M.1 34) (M.1 35) (M.1 36) (M.1 38) nt nf).2.2.1)) 33 ((x_doneBy (M.1 4) (M.1 5) (M.1 6) (M.1 7) (M.1 21) (M.1 22) (M.1 23) (M.1 24) (M.1 33) (M.1 34) (M.1 35) (M.1 36) (M.1 38) nt nf).2.2.2.1)) 38 ((x_doneBy (M.1 4) (M.1 5) (M.1 6) (M.1 7) (M.1 21) (M.1 22) (M.1 23) (M.1 24) (M.1 33) (M.1 34) (M.1 35) (M.1 36) (M.1 38) nt nf).2.2.2.2))) := ⟨_, rfl⟩
  rw [← hQ]
  refine G.sl [(.aload_n 0, 1, 0, 0, 0, 0), (.iconst 0, 1, 0, 0, 0, nI 0), (.putfield 78, 3, 8, 2, 67, 0), (.aload_n 0, 1, 0, 0, 0, 0), (.iconst 0, 1, 0, 0, 0, nI 0), (.putfield 81, 3, 8, 0, 64, 0), (.aload_n 0, 1, 0, 0, 0, 0), (.iconst 0, 1, 0, 0, 0, nI 0), (.putfield 84, 3, 8, 1, 66, 0), (.aload_n 0, 1, 0, 0, 0, 0), (.aload_n 1, 1, 1, 0, 0, 0), (.iconst 0, 1, 0, 0, 0, nI 0), (.aload_n 0, 1, 0, 0, 0, 0), (.getfield 25, 3, 8, 3, 68, 0), (.iconst 0, 1, 0, 0, 0, nI 0)] [] (pc2 := 23) (ls2 := [some (.ref 33), some (.ref 37)]) (st2 := [.int (nI 0), .int (M.1 33 3), .int (nI 0), .ref 37, .ref 33]) (M2 := mput (mput (mput M 33 2 (nI 0)) 33 0 (nI 0)) 33 1 (nI 0)) (Ps := []) (by decide +kernel) rfl rfl trivial ?_
  refine G.mem (M' := mrow M 33 (upd (upd (upd (M.1 33) 2 (nI 0)) 0 (nI 0)) 1 (nI 0))) (by first | rfl | (simp only [mput, mrow_same, mrow_hit, mrow_miss, mrow_sw, idr_eq, ne_eq, Nat.reduceEqDiff, not_false_eq_true, Nat.reduceLT, reduceCtorEq]; done)) ?_
  obtain ⟨k1, hk⟩ := hk
  rcases g2 : x_doSteps (M.1 4) (M.1 5) (M.1 6) (M.1 7) (M.1 21) (M.1 22) (M.1 23) (M.1 24) (upd (upd (upd (M.1 33) 2 (nI 0)) 0 (nI 0)) 1 (nI 0)) (M.1 34) (M.1 35) (M.1 36) (M.1 38) nt nf (nI 0) (M.1 33 3) (nI 0) with ⟨u3, r4, r5, r6, r7⟩
  have t8 : GM z mX9_doSteps (d + 60) [.ref 33, .ref 37, .int (nI 0), .int (M.1 33 3), .int (nI 0)] (mrow M 33 (upd (upd (upd (M.1 33) 2 (nI 0)) 0 (nI 0)) 1 (nI 0))) (fun rs => rs = .inl (none, mrow (mrow (mrow (mrow M 22 r4) 24 r5) 33 r6) 38 r7)) := by
    have q9 := c_x_doSteps_33_37 z d (mrow M 33 (upd (upd (upd (M.1 33) 2 (nI 0)) 0 (nI 0)) 1 (nI 0))) (nI 0) (M.1 33 3) (nI 0) nt hnt ht nf hnf hf k1
    try simp only [mput, mrow_same, mrow_hit, mrow_miss, mrow_sw, idr_eq, ne_eq, Nat.reduceEqDiff, not_false_eq_true, Nat.reduceLT, reduceCtorEq, g2] at q9
    exact q9
  refine G.callV (as := [.ref 37, .int (nI 0), .int (M.1 33 3), .int (nI 0)]) (rest := []) (a := 33) oX9_doSteps lk_EvenFinders_Work_87 (by decide +kernel) rfl rfl ⟨rfl, rfl⟩ (Nat.le_of_ble_eq_true rfl) rfl ⟨Nat.le_of_ble_eq_true rfl, Nat.le_of_ble_eq_true rfl⟩ t8 (fun v9 N9 h9 => ?_) (fun E9 N9 h9 => by cases h9)
  cases h9
  show G z mX9_doneBy (d + 61) 0 0 26 [some (.ref 33), some (.ref 37)] [] (mrow (mrow (mrow (mrow M 22 r4) 24 r5) 33 r6) 38 r7) Q
  exact G.retv (by decide +kernel) rfl (Nat.le_of_ble_eq_true rfl) (Nat.le_of_ble_eq_true rfl) ((by rw [hQ]; simp only [x_doneBy, g2, mrow_self]))
theorem k_isSmall_01 (x0 : Int32) : k_isSmall x0 = 0 ∨ k_isSmall x0 = 1 := by
  unfold k_isSmall
  repeat' split
  all_goals first | exact Or.inl rfl | exact Or.inr rfl
set_option maxHeartbeats 4000000 in
set_option maxRecDepth 3000 in
theorem c_k_isSmall (z : Zp) (d : Nat) (M : Mem) (x0 : Int32) : GM z mX12_isSmall (d) [.int x0] M (fun rs => rs = .inl (some (.int (k_isSmall x0)), M)) := by
  refine GM.of oX12_isSmall.1 (Nat.le_of_ble_eq_true rfl) ?_
  show G z mX12_isSmall (d) 0 0 0 [some (.int x0)] [] M _
  obtain ⟨Q, hQ⟩ : ∃ Q : Rs → Prop, Q = (fun rs => rs = .inl (some (.int (k_isSmall x0)), M)) := ⟨_, rfl⟩
  rw [← hQ]
  refine G.sl [(.iload_n 0, 1, 0, 0, 0, 0), (.bipush 97, 2, 0, 0, 0, nI 97)] [] (pc2 := 3) (ls2 := [some (.int x0)]) (st2 := [.int (nI 97), .int x0]) (M2 := M) (Ps := []) (by decide +kernel) rfl rfl trivial ?_
  refine G.ic_lt (off := (13)) (tgt := 16) (by decide +kernel) rfl (fun c1 => ?_) (fun c1 => ?_)
  · skip
    refine G.sl [(.iconst 0, 1, 0, 0, 0, nI 0)] [] (pc2 := 17) (ls2 := [some (.int x0)]) (st2 := [.int (nI 0)]) (M2 := M) (Ps := []) (by decide +kernel) rfl rfl trivial ?_
    exact G.reti (by decide +kernel) rfl rfl (Nat.le_of_ble_eq_true rfl) (Nat.le_of_ble_eq_true rfl) ((by rw [hQ]; simp only [k_isSmall, if_pos c1, mrow_self]))
  · skip
    refine G.sl [(.iload_n 0, 1, 0, 0, 0, 0), (.bipush 122, 2, 0, 0, 0, nI 122)] [] (pc2 := 9) (ls2 := [some (.int x0)]) (st2 := [.int (nI 122), .int x0]) (M2 := M) (Ps := []) (by decide +kernel) rfl rfl trivial ?_
    refine G.ic_gt (off := (7)) (tgt := 16) (by decide +kernel) rfl (fun c2 => ?_) (fun c2 => ?_)
    · skip
      refine G.sl [(.iconst 0, 1, 0, 0, 0, nI 0)] [] (pc2 := 17) (ls2 := [some (.int x0)]) (st2 := [.int (nI 0)]) (M2 := M) (Ps := []) (by decide +kernel) rfl rfl trivial ?_
      exact G.reti (by decide +kernel) rfl rfl (Nat.le_of_ble_eq_true rfl) (Nat.le_of_ble_eq_true rfl) ((by rw [hQ]; simp only [k_isSmall, if_neg c1, if_pos c2, mrow_self]))
    · skip
      refine G.sl [(.iconst 1, 1, 0, 0, 0, nI 1), (.goto 4, 3, 17, 0, 0, 0)] [] (pc2 := 17) (ls2 := [some (.int x0)]) (st2 := [.int (nI 1)]) (M2 := M) (Ps := []) (by decide +kernel) rfl rfl trivial ?_
      exact G.reti (by decide +kernel) rfl rfl (Nat.le_of_ble_eq_true rfl) (Nat.le_of_ble_eq_true rfl) ((by rw [hQ]; simp only [k_isSmall, if_neg c1, if_neg c2, mrow_self]))
set_option maxHeartbeats 4000000 in
set_option maxRecDepth 3000 in
theorem lp_k_word_54_14 (z : Zp) (d : Nat) (M : Mem) (Q : Rs → Prop) : ∀ (k0 : Nat) (s1 : Int32) (s2 : Int32) (s3 : Int32), k_word_14_ok (M.1 54) (M.1 56) k0 s1 s2 s3 → (match k_word_14 (M.1 54) (M.1 56) k0 s1 s2 s3 with | (s1', s2', s3') => G z mX12_word (d + 1) 0 0 67 [none, some (.int (s1')), some (.int (s2')), none] [] M Q) → G z mX12_word (d + 1) 0 0 14 [some (.ref 54), some (.int s1), some (.int s2), some (.int s3)] [] M Q := by
  intro k0
  induction k0 with
  | zero =>
      intro s1 s2 s3 hk hX
      exact (by simpa only [k_word_14_ok] using hk : False).elim
  | succ k0 ih =>
      intro s1 s2 s3 hk hX
      simp only [k_word_14_ok] at hk
      refine G.sl [(.iload_n 3, 1, 3, 0, 0, 0), (.aload_n 0, 1, 0, 0, 0, 0), (.getfield 110, 3, 11, 3, 126, 0)] [] (pc2 := 19) (ls2 := [some (.ref 54), some (.int s1), some (.int s2), some (.int s3)]) (st2 := [.int (M.1 54 3), .int s3]) (M2 := M) (Ps := []) (by decide +kernel) rfl rfl trivial ?_
      refine G.ic_ge (off := (48)) (tgt := 67) (by decide +kernel) rfl (fun c7 => ?_) (fun c7 => ?_)
      · skip
        rw [if_pos c7] at hk
        refine G.loc (ls2 := [none, some (.int s1), some (.int s2), none]) (by simp [subL]) ?_
        simp only [k_word_14, if_pos c7] at hX
        exact hX
      · skip
        rw [if_neg c7] at hk
        obtain ⟨k8, k9, hk⟩ := hk
        refine G.sl [(.aload_n 0, 1, 0, 0, 0, 0), (.getfield 20, 3, 11, 9, 132, 0), (.iload_n 3, 1, 3, 0, 0, 0), (.iaload, 1, 0, 0, 0, 0)] [ix s3] (pc2 := 28) (ls2 := [some (.ref 54), some (.int s1), some (.int s2), some (.int s3)]) (st2 := [.int (M.1 56 (ix s3))]) (M2 := M) (Ps := [s3 = nI (ix s3) ∧ (ix s3) < 600]) (by decide +kernel) rfl rfl ⟨⟨(ixE k8), k9⟩, trivial⟩ ?_
        obtain ⟨k10, hk⟩ := hk
        have t11 : GM z mX12_isSmall (d) [.int (M.1 56 (ix s3))] M (fun rs => rs = .inl (some (.int (k_isSmall (M.1 56 (ix s3)))), M)) := by
          have q9 := c_k_isSmall z d M (M.1 56 (ix s3))
          try simp only [mput, mrow_same, mrow_hit, mrow_miss, mrow_sw, idr_eq, ne_eq, Nat.reduceEqDiff, not_false_eq_true, Nat.reduceLT, reduceCtorEq] at q9
          exact q9
        refine G.callS (as := [.int (M.1 56 (ix s3))]) (rest := []) oX12_isSmall lk_EvenFindersModel_117 (by decide +kernel) rfl (Nat.le_of_ble_eq_true rfl) rfl ⟨Nat.le_of_ble_eq_true rfl, Nat.le_of_ble_eq_true rfl⟩ t11 (fun v9 N9 h12 => ?_) (fun E9 N9 h12 => by cases h12)
        cases h12
        show G z mX12_word (d + 1) 0 0 31 [some (.ref 54), some (.int s1), some (.int s2), some (.int s3)] [.int (k_isSmall (M.1 56 (ix s3)))] M Q
        refine G.if_eq (off := (36)) (tgt := 67) (by decide +kernel) rfl (fun c13 => ?_) (fun c13 => ?_)
        · skip
          rw [if_pos c13] at hk
          refine G.loc (ls2 := [none, some (.int s1), some (.int s2), none]) (by simp [subL]) ?_
          simp only [k_word_14, if_neg c7, if_pos c13] at hX
          exact hX
        · skip
          rw [if_neg c13] at hk
          refine G.sl [(.iload_n 2, 1, 2, 0, 0, 0), (.bipush 6, 2, 0, 0, 0, nI 6)] [] (pc2 := 37) (ls2 := [some (.ref 54), some (.int s1), some (.int s2), some (.int s3)]) (st2 := [.int (nI 6), .int s2]) (M2 := M) (Ps := []) (by decide +kernel) rfl rfl trivial ?_
          refine G.ic_ge (off := (19)) (tgt := 56) (by decide +kernel) rfl (fun c14 => ?_) (fun c14 => ?_)
          · skip
            rw [if_pos c14] at hk
            refine G.sl [(.iconst 0, 1, 0, 0, 0, nI 0), (.istore_n 1, 1, 1, 0, 0, 0), (.iinc 2 1, 3, 2, 0, 0, nI 1), (.iinc 3 1, 3, 3, 0, 0, nI 1), (.goto (-50), 3, 14, 0, 0, 0)] [] (pc2 := 14) (ls2 := [some (.ref 54), some (.int (nI 0)), some (.int (s2 + nI 1)), some (.int (s3 + nI 1))]) (st2 := []) (M2 := M) (Ps := []) (by decide +kernel) rfl rfl trivial ?_
            simp only [k_word_14, if_neg c7, if_neg c13, if_pos c14] at hX
            exact ih (nI 0) (s2 + nI 1) (s3 + nI 1) hk hX
          · skip
            rw [if_neg c14] at hk
            refine G.sl [(.iload_n 1, 1, 1, 0, 0, 0), (.iconst 5, 1, 0, 0, 0, nI 5), (.ishl, 1, 0, 0, 0, 0), (.aload_n 0, 1, 0, 0, 0, 0), (.getfield 20, 3, 11, 9, 132, 0), (.iload_n 3, 1, 3, 0, 0, 0), (.iaload, 1, 0, 0, 0, 0), (.bipush 96, 2, 0, 0, 0, nI 96), (.isub, 1, 0, 0, 0, 0), (.ior, 1, 0, 0, 0, 0), (.goto 4, 3, 57, 0, 0, 0), (.istore_n 1, 1, 1, 0, 0, 0), (.iinc 2 1, 3, 2, 0, 0, nI 1), (.iinc 3 1, 3, 3, 0, 0, nI 1), (.goto (-50), 3, 14, 0, 0, 0)] [ix s3] (pc2 := 14) (ls2 := [some (.ref 54), some (.int ((s1 <<< ((nI 5) &&& 31)) ||| ((M.1 56 (ix s3)) - (nI 96)))), some (.int (s2 + nI 1)), some (.int (s3 + nI 1))]) (st2 := []) (M2 := M) (Ps := [s3 = nI (ix s3) ∧ (ix s3) < 600]) (by decide +kernel) rfl rfl ⟨⟨(ixE k8), k9⟩, trivial⟩ ?_
            simp only [k_word_14, if_neg c7, if_neg c13, if_neg c14] at hX
            exact ih ((s1 <<< ((nI 5) &&& 31)) ||| ((M.1 56 (ix s3)) - (nI 96))) (s2 + nI 1) (s3 + nI 1) hk hX
set_option maxHeartbeats 4000000 in
set_option maxRecDepth 3000 in
theorem c_k_word_54 (z : Zp) (d : Nat) (M : Mem) (hk : k_word_ok (M.1 54) (M.1 56)) : GM z mX12_word (d + 1) [.ref 54] M (fun rs => rs = .inl (some (.int ((k_word (M.1 54) (M.1 56)).1)), mrow M 54 ((k_word (M.1 54) (M.1 56)).2))) := by
  simp only [k_word_ok] at hk
  refine GM.of oX12_word.1 (Nat.le_of_ble_eq_true rfl) ?_
  show G z mX12_word (d + 1) 0 0 0 [some (.ref 54), none, none, none] [] M _
  obtain ⟨Q, hQ⟩ : ∃ Q : Rs → Prop, Q = (fun rs => rs = .inl (some (.int ((k_word (M.1 54) (M.1 56)).1)), mrow M 54 ((k_word (M.1 54) (M.1 56)).2))) := ⟨_, rfl⟩
  rw [← hQ]
  refine G.sl [(.aload_n 0, 1, 0, 0, 0, 0)] [] (pc2 := 1) (ls2 := [some (.ref 54), none, none, none]) (st2 := [.ref 54]) (M2 := M) (Ps := []) (by decide +kernel) rfl rfl trivial ?_
  obtain ⟨k1, hk⟩ := hk
  rcases g2 : k_here (M.1 54) (M.1 56) with ⟨v3, r4⟩
  try simp only [g2] at hk
  have t5 : GM z mX12_here (d) [.ref 54] M (fun rs => rs = .inl (some (.int v3), mrow M 54 r4)) := by
    have q9 := c_k_here_54 z d M k1
    try simp only [mput, mrow_same, mrow_hit, mrow_miss, mrow_sw, idr_eq, ne_eq, Nat.reduceEqDiff, not_false_eq_true, Nat.reduceLT, reduceCtorEq, g2] at q9
    exact q9
  refine G.callV (as := []) (rest := []) (a := 54) oX12_here lk_EvenFindersModel_113 (by decide +kernel) rfl rfl ⟨rfl, rfl⟩ (Nat.le_of_ble_eq_true rfl) rfl ⟨Nat.le_of_ble_eq_true rfl, Nat.le_of_ble_eq_true rfl⟩ t5 (fun v9 N9 h6 => ?_) (fun E9 N9 h6 => by cases h6)
  cases h6
  show G z mX12_word (d + 1) 0 0 4 [some (.ref 54), none, none, none] [.int v3] (mrow M 54 r4) Q
  refine G.sl [(.pop, 1, 0, 0, 0, 0), (.iconst 0, 1, 0, 0, 0, nI 0), (.istore_n 1, 1, 1, 0, 0, 0), (.iconst 0, 1, 0, 0, 0, nI 0), (.istore_n 2, 1, 2, 0, 0, 0), (.aload_n 0, 1, 0, 0, 0, 0), (.getfield 107, 3, 11, 4, 127, 0), (.istore_n 3, 1, 3, 0, 0, 0)] [] (pc2 := 14) (ls2 := [some (.ref 54), some (.int (nI 0)), some (.int (nI 0)), some (.int (r4 4))]) (st2 := []) (M2 := mrow M 54 r4) (Ps := []) (by decide +kernel) rfl rfl trivial ?_
  obtain ⟨k15, hk⟩ := hk
  refine lp_k_word_54_14 z d (mrow M 54 r4) Q FU (nI 0) (nI 0) (r4 4) (by first | (simp only [mput, mrow_same, mrow_hit, mrow_miss, mrow_sw, idr_eq, ne_eq, Nat.reduceEqDiff, not_false_eq_true, Nat.reduceLT, reduceCtorEq]; exact k15) | exact k15) ?_
  try simp only [mput, mrow_same, mrow_hit, mrow_miss, mrow_sw, idr_eq, ne_eq, Nat.reduceEqDiff, not_false_eq_true, Nat.reduceLT, reduceCtorEq]
  rcases g16 : k_word_14 r4 (M.1 56) FU (nI 0) (nI 0) (r4 4) with ⟨v17, v18, v19⟩
  show G z mX12_word (d + 1) 0 0 67 [none, some (.int v17), some (.int v18), none] [] (mrow M 54 r4) Q
  refine G.sl [(.iload_n 2, 1, 2, 0, 0, 0), (.bipush 6, 2, 0, 0, 0, nI 6)] [] (pc2 := 70) (ls2 := [none, some (.int v17), some (.int v18), none]) (st2 := [.int (nI 6), .int v18]) (M2 := mrow M 54 r4) (Ps := []) (by decide +kernel) rfl rfl trivial ?_
  refine G.ic_le (off := (7)) (tgt := 77) (by decide +kernel) rfl (fun c20 => ?_) (fun c20 => ?_)
  · skip
    refine G.sl [(.iload_n 1, 1, 1, 0, 0, 0)] [] (pc2 := 78) (ls2 := [none, some (.int v17), some (.int v18), none]) (st2 := [.int v17]) (M2 := mrow M 54 r4) (Ps := []) (by decide +kernel) rfl rfl trivial ?_
    exact G.reti (by decide +kernel) rfl rfl (Nat.le_of_ble_eq_true rfl) (Nat.le_of_ble_eq_true rfl) ((by rw [hQ]; simp only [k_word, g2, g16, if_pos c20, mrow_self]))
  · skip
    refine G.sl [(.iconst 0, 1, 0, 0, 0, nI 0), (.goto 4, 3, 78, 0, 0, 0)] [] (pc2 := 78) (ls2 := [none, some (.int v17), some (.int v18), none]) (st2 := [.int (nI 0)]) (M2 := mrow M 54 r4) (Ps := []) (by decide +kernel) rfl rfl trivial ?_
    exact G.reti (by decide +kernel) rfl rfl (Nat.le_of_ble_eq_true rfl) (Nat.le_of_ble_eq_true rfl) ((by rw [hQ]; simp only [k_word, g2, g16, if_neg c20, mrow_self]))
set_option maxHeartbeats 4000000 in
set_option maxRecDepth 3000 in
theorem lp_k_of_s5_4 (z : Zp) (d : Nat) (M : Mem) (Q : Rs → Prop) (nn : Nat) (hnn : nn = 6) (hX : G z mX12_of (d + 4) 0 0 31 [none, some (.int (k_of_s5_4  nn)), none] [] M Q) : G z mX12_of (d + 4) 0 0 4 [some (.ref 1005), some (.int (nI 0)), some (.int (nI 0))] [] M Q := by
  refine down (n := nn) (P := fun i2 => G z mX12_of (d + 4) 0 0 4 [some (.ref 1005), some (.int (k_of_s5_4  i2)), some (.int (nI i2))] [] M Q) ?_ ?_ 0 (Nat.zero_le _)
  · skip
    refine G.sl [(.iload_n 2, 1, 2, 0, 0, 0), (.aload_n 0, 1, 0, 0, 0, 0)] [] (pc2 := 6) (ls2 := [some (.ref 1005), some (.int (k_of_s5_4  nn)), some (.int (nI nn))]) (st2 := [.ref 1005, .int (nI nn)]) (M2 := M) (Ps := []) (by decide +kernel) rfl rfl trivial ?_
    have t1 : GM z mJ0_length_8abf5 (d + 3) [.ref 1005] M (fun rs => rs = .inl (some (.int (nI 6)), M)) := c_slen z _ _ 5 (by decide)
    refine G.callT (as := []) (rest := [.int (nI nn)]) (i := 5) oJ0_length_8abf5 lk_EvenFindersModel_121 (by decide +kernel) rfl (by decide) rfl (Nat.le_of_ble_eq_true rfl) rfl ⟨Nat.le_of_ble_eq_true rfl, Nat.le_of_ble_eq_true rfl⟩ t1 (fun v9 N9 h2 => ?_) (fun E9 N9 h2 => by cases h2)
    cases h2
    show G z mX12_of (d + 4) 0 0 9 [some (.ref 1005), some (.int (k_of_s5_4  nn)), some (.int (nI nn))] [.int (nI 6), .int (nI nn)] M Q
    refine G.ic_ge (off := (22)) (tgt := 31) (by decide +kernel) rfl (fun _ => ?_) (fun h9 => absurd (nI_le (by omega) (by omega)) h9)
    refine G.loc (ls2 := [none, some (.int (k_of_s5_4  nn)), none]) (by simp [subL]) ?_
    exact hX
  · skip
    intro i2 hi ih
    show G z mX12_of (d + 4) 0 0 4 [some (.ref 1005), some (.int (k_of_s5_4  i2)), some (.int (nI i2))] [] M Q
    refine G.sl [(.iload_n 2, 1, 2, 0, 0, 0), (.aload_n 0, 1, 0, 0, 0, 0)] [] (pc2 := 6) (ls2 := [some (.ref 1005), some (.int (k_of_s5_4  i2)), some (.int (nI i2))]) (st2 := [.ref 1005, .int (nI i2)]) (M2 := M) (Ps := []) (by decide +kernel) rfl rfl trivial ?_
    have t3 : GM z mJ0_length_8abf5 (d + 3) [.ref 1005] M (fun rs => rs = .inl (some (.int (nI 6)), M)) := c_slen z _ _ 5 (by decide)
    refine G.callT (as := []) (rest := [.int (nI i2)]) (i := 5) oJ0_length_8abf5 lk_EvenFindersModel_121 (by decide +kernel) rfl (by decide) rfl (Nat.le_of_ble_eq_true rfl) rfl ⟨Nat.le_of_ble_eq_true rfl, Nat.le_of_ble_eq_true rfl⟩ t3 (fun v9 N9 h4 => ?_) (fun E9 N9 h4 => by cases h4)
    cases h4
    show G z mX12_of (d + 4) 0 0 9 [some (.ref 1005), some (.int (k_of_s5_4  i2)), some (.int (nI i2))] [.int (nI 6), .int (nI i2)] M Q
    refine G.ic_ge (off := (22)) (tgt := 31) (by decide +kernel) rfl (fun h9 => absurd h9 (nI_ge (by omega) (by omega))) (fun _ => ?_)
    refine G.sl [(.iload_n 1, 1, 1, 0, 0, 0), (.iconst 5, 1, 0, 0, 0, nI 5), (.ishl, 1, 0, 0, 0, 0), (.aload_n 0, 1, 0, 0, 0, 0), (.iload_n 2, 1, 2, 0, 0, 0)] [] (pc2 := 17) (ls2 := [some (.ref 1005), some (.int (k_of_s5_4  i2)), some (.int (nI i2))]) (st2 := [.int (nI i2), .ref 1005, .int ((k_of_s5_4  i2) <<< ((nI 5) &&& 31))]) (M2 := M) (Ps := []) (by decide +kernel) rfl rfl trivial ?_
    have t5 : GM z mJ0_charAt_5068e (d + 3) [.ref 1005, .int (nI i2)] M (fun rs => rs = .inl (some (.int (sby 5 i2)), M)) := c_charAt z _ _ 5 i2 (by decide) (show i2 < 6 from (by omega))
    refine G.callT (as := [.int (nI i2)]) (rest := [.int ((k_of_s5_4  i2) <<< ((nI 5) &&& 31))]) (i := 5) oJ0_charAt_5068e lk_EvenFindersModel_126 (by decide +kernel) rfl (by decide) rfl (Nat.le_of_ble_eq_true rfl) rfl ⟨Nat.le_of_ble_eq_true rfl, Nat.le_of_ble_eq_true rfl⟩ t5 (fun v9 N9 h6 => ?_) (fun E9 N9 h6 => by cases h6)
    cases h6
    show G z mX12_of (d + 4) 0 0 20 [some (.ref 1005), some (.int (k_of_s5_4  i2)), some (.int (nI i2))] [.int (sby 5 i2), .int ((k_of_s5_4  i2) <<< ((nI 5) &&& 31))] M Q
    refine G.sl [(.bipush 96, 2, 0, 0, 0, nI 96), (.isub, 1, 0, 0, 0, 0), (.ior, 1, 0, 0, 0, 0), (.istore_n 1, 1, 1, 0, 0, 0), (.iinc 2 1, 3, 2, 0, 0, nI 1), (.goto (-24), 3, 4, 0, 0, 0)] [] (pc2 := 4) (ls2 := [some (.ref 1005), some (.int (((k_of_s5_4  i2) <<< ((nI 5) &&& 31)) ||| ((sby 5 i2) - (nI 96)))), some (.int ((nI i2) + nI 1))]) (st2 := []) (M2 := M) (Ps := []) (by decide +kernel) rfl rfl trivial ?_
    rw [nI_add i2 1]
    simp only [k_of_s5_4] at ih
    exact ih
set_option maxHeartbeats 4000000 in
set_option maxRecDepth 3000 in
theorem c_k_of_s5 (z : Zp) (d : Nat) (M : Mem) : GM z mX12_of (d + 4) [.ref 1005] M (fun rs => rs = .inl (some (.int (k_of_s5 )), M)) := by
  refine GM.of oX12_of.1 (Nat.le_of_ble_eq_true rfl) ?_
  show G z mX12_of (d + 4) 0 0 0 [some (.ref 1005), none, none] [] M _
  obtain ⟨Q, hQ⟩ : ∃ Q : Rs → Prop, Q = (fun rs => rs = .inl (some (.int (k_of_s5 )), M)) := ⟨_, rfl⟩
  rw [← hQ]
  refine G.sl [(.iconst 0, 1, 0, 0, 0, nI 0), (.istore_n 1, 1, 1, 0, 0, 0), (.iconst 0, 1, 0, 0, 0, nI 0), (.istore_n 2, 1, 2, 0, 0, 0)] [] (pc2 := 4) (ls2 := [some (.ref 1005), some (.int (nI 0)), some (.int (nI 0))]) (st2 := []) (M2 := M) (Ps := []) (by decide +kernel) rfl rfl trivial ?_
  refine lp_k_of_s5_4 z d M Q (cN 6) (cN_eq 6) ?_
  show G z mX12_of (d + 4) 0 0 31 [none, some (.int (k_of_s5_4 (cN 6))), none] [] M Q
  refine G.sl [(.iload_n 1, 1, 1, 0, 0, 0)] [] (pc2 := 32) (ls2 := [none, some (.int (k_of_s5_4 (cN 6))), none]) (st2 := [.int (k_of_s5_4 (cN 6))]) (M2 := M) (Ps := []) (by decide +kernel) rfl rfl trivial ?_
  exact G.reti (by decide +kernel) rfl rfl (Nat.le_of_ble_eq_true rfl) (Nat.le_of_ble_eq_true rfl) ((by rw [hQ]; simp only [k_of_s5, mrow_self]))
set_option maxHeartbeats 4000000 in
set_option maxRecDepth 3000 in
theorem lp_k_of_s6_4 (z : Zp) (d : Nat) (M : Mem) (Q : Rs → Prop) (nn : Nat) (hnn : nn = 4) (hX : G z mX12_of (d + 4) 0 0 31 [none, some (.int (k_of_s6_4  nn)), none] [] M Q) : G z mX12_of (d + 4) 0 0 4 [some (.ref 1006), some (.int (nI 0)), some (.int (nI 0))] [] M Q := by
  refine down (n := nn) (P := fun i2 => G z mX12_of (d + 4) 0 0 4 [some (.ref 1006), some (.int (k_of_s6_4  i2)), some (.int (nI i2))] [] M Q) ?_ ?_ 0 (Nat.zero_le _)
  · skip
    refine G.sl [(.iload_n 2, 1, 2, 0, 0, 0), (.aload_n 0, 1, 0, 0, 0, 0)] [] (pc2 := 6) (ls2 := [some (.ref 1006), some (.int (k_of_s6_4  nn)), some (.int (nI nn))]) (st2 := [.ref 1006, .int (nI nn)]) (M2 := M) (Ps := []) (by decide +kernel) rfl rfl trivial ?_
    have t1 : GM z mJ0_length_8abf5 (d + 3) [.ref 1006] M (fun rs => rs = .inl (some (.int (nI 4)), M)) := c_slen z _ _ 6 (by decide)
    refine G.callT (as := []) (rest := [.int (nI nn)]) (i := 6) oJ0_length_8abf5 lk_EvenFindersModel_121 (by decide +kernel) rfl (by decide) rfl (Nat.le_of_ble_eq_true rfl) rfl ⟨Nat.le_of_ble_eq_true rfl, Nat.le_of_ble_eq_true rfl⟩ t1 (fun v9 N9 h2 => ?_) (fun E9 N9 h2 => by cases h2)
    cases h2
    show G z mX12_of (d + 4) 0 0 9 [some (.ref 1006), some (.int (k_of_s6_4  nn)), some (.int (nI nn))] [.int (nI 4), .int (nI nn)] M Q
    refine G.ic_ge (off := (22)) (tgt := 31) (by decide +kernel) rfl (fun _ => ?_) (fun h9 => absurd (nI_le (by omega) (by omega)) h9)
    refine G.loc (ls2 := [none, some (.int (k_of_s6_4  nn)), none]) (by simp [subL]) ?_
    exact hX
  · skip
    intro i2 hi ih
    show G z mX12_of (d + 4) 0 0 4 [some (.ref 1006), some (.int (k_of_s6_4  i2)), some (.int (nI i2))] [] M Q
    refine G.sl [(.iload_n 2, 1, 2, 0, 0, 0), (.aload_n 0, 1, 0, 0, 0, 0)] [] (pc2 := 6) (ls2 := [some (.ref 1006), some (.int (k_of_s6_4  i2)), some (.int (nI i2))]) (st2 := [.ref 1006, .int (nI i2)]) (M2 := M) (Ps := []) (by decide +kernel) rfl rfl trivial ?_
    have t3 : GM z mJ0_length_8abf5 (d + 3) [.ref 1006] M (fun rs => rs = .inl (some (.int (nI 4)), M)) := c_slen z _ _ 6 (by decide)
    refine G.callT (as := []) (rest := [.int (nI i2)]) (i := 6) oJ0_length_8abf5 lk_EvenFindersModel_121 (by decide +kernel) rfl (by decide) rfl (Nat.le_of_ble_eq_true rfl) rfl ⟨Nat.le_of_ble_eq_true rfl, Nat.le_of_ble_eq_true rfl⟩ t3 (fun v9 N9 h4 => ?_) (fun E9 N9 h4 => by cases h4)
    cases h4
    show G z mX12_of (d + 4) 0 0 9 [some (.ref 1006), some (.int (k_of_s6_4  i2)), some (.int (nI i2))] [.int (nI 4), .int (nI i2)] M Q
    refine G.ic_ge (off := (22)) (tgt := 31) (by decide +kernel) rfl (fun h9 => absurd h9 (nI_ge (by omega) (by omega))) (fun _ => ?_)
    refine G.sl [(.iload_n 1, 1, 1, 0, 0, 0), (.iconst 5, 1, 0, 0, 0, nI 5), (.ishl, 1, 0, 0, 0, 0), (.aload_n 0, 1, 0, 0, 0, 0), (.iload_n 2, 1, 2, 0, 0, 0)] [] (pc2 := 17) (ls2 := [some (.ref 1006), some (.int (k_of_s6_4  i2)), some (.int (nI i2))]) (st2 := [.int (nI i2), .ref 1006, .int ((k_of_s6_4  i2) <<< ((nI 5) &&& 31))]) (M2 := M) (Ps := []) (by decide +kernel) rfl rfl trivial ?_
    have t5 : GM z mJ0_charAt_5068e (d + 3) [.ref 1006, .int (nI i2)] M (fun rs => rs = .inl (some (.int (sby 6 i2)), M)) := c_charAt z _ _ 6 i2 (by decide) (show i2 < 4 from (by omega))
    refine G.callT (as := [.int (nI i2)]) (rest := [.int ((k_of_s6_4  i2) <<< ((nI 5) &&& 31))]) (i := 6) oJ0_charAt_5068e lk_EvenFindersModel_126 (by decide +kernel) rfl (by decide) rfl (Nat.le_of_ble_eq_true rfl) rfl ⟨Nat.le_of_ble_eq_true rfl, Nat.le_of_ble_eq_true rfl⟩ t5 (fun v9 N9 h6 => ?_) (fun E9 N9 h6 => by cases h6)
    cases h6
    show G z mX12_of (d + 4) 0 0 20 [some (.ref 1006), some (.int (k_of_s6_4  i2)), some (.int (nI i2))] [.int (sby 6 i2), .int ((k_of_s6_4  i2) <<< ((nI 5) &&& 31))] M Q
    refine G.sl [(.bipush 96, 2, 0, 0, 0, nI 96), (.isub, 1, 0, 0, 0, 0), (.ior, 1, 0, 0, 0, 0), (.istore_n 1, 1, 1, 0, 0, 0), (.iinc 2 1, 3, 2, 0, 0, nI 1), (.goto (-24), 3, 4, 0, 0, 0)] [] (pc2 := 4) (ls2 := [some (.ref 1006), some (.int (((k_of_s6_4  i2) <<< ((nI 5) &&& 31)) ||| ((sby 6 i2) - (nI 96)))), some (.int ((nI i2) + nI 1))]) (st2 := []) (M2 := M) (Ps := []) (by decide +kernel) rfl rfl trivial ?_
    rw [nI_add i2 1]
    simp only [k_of_s6_4] at ih
    exact ih
set_option maxHeartbeats 4000000 in
set_option maxRecDepth 3000 in
theorem c_k_of_s6 (z : Zp) (d : Nat) (M : Mem) : GM z mX12_of (d + 4) [.ref 1006] M (fun rs => rs = .inl (some (.int (k_of_s6 )), M)) := by
  refine GM.of oX12_of.1 (Nat.le_of_ble_eq_true rfl) ?_
  show G z mX12_of (d + 4) 0 0 0 [some (.ref 1006), none, none] [] M _
  obtain ⟨Q, hQ⟩ : ∃ Q : Rs → Prop, Q = (fun rs => rs = .inl (some (.int (k_of_s6 )), M)) := ⟨_, rfl⟩
  rw [← hQ]
  refine G.sl [(.iconst 0, 1, 0, 0, 0, nI 0), (.istore_n 1, 1, 1, 0, 0, 0), (.iconst 0, 1, 0, 0, 0, nI 0), (.istore_n 2, 1, 2, 0, 0, 0)] [] (pc2 := 4) (ls2 := [some (.ref 1006), some (.int (nI 0)), some (.int (nI 0))]) (st2 := []) (M2 := M) (Ps := []) (by decide +kernel) rfl rfl trivial ?_
  refine lp_k_of_s6_4 z d M Q (cN 4) (cN_eq 4) ?_
  show G z mX12_of (d + 4) 0 0 31 [none, some (.int (k_of_s6_4 (cN 4))), none] [] M Q
  refine G.sl [(.iload_n 1, 1, 1, 0, 0, 0)] [] (pc2 := 32) (ls2 := [none, some (.int (k_of_s6_4 (cN 4))), none]) (st2 := [.int (k_of_s6_4 (cN 4))]) (M2 := M) (Ps := []) (by decide +kernel) rfl rfl trivial ?_
  exact G.reti (by decide +kernel) rfl rfl (Nat.le_of_ble_eq_true rfl) (Nat.le_of_ble_eq_true rfl) ((by rw [hQ]; simp only [k_of_s6, mrow_self]))
set_option maxHeartbeats 4000000 in
set_option maxRecDepth 3000 in
theorem lp_k_of_s7_4 (z : Zp) (d : Nat) (M : Mem) (Q : Rs → Prop) (nn : Nat) (hnn : nn = 5) (hX : G z mX12_of (d + 4) 0 0 31 [none, some (.int (k_of_s7_4  nn)), none] [] M Q) : G z mX12_of (d + 4) 0 0 4 [some (.ref 1007), some (.int (nI 0)), some (.int (nI 0))] [] M Q := by
  refine down (n := nn) (P := fun i2 => G z mX12_of (d + 4) 0 0 4 [some (.ref 1007), some (.int (k_of_s7_4  i2)), some (.int (nI i2))] [] M Q) ?_ ?_ 0 (Nat.zero_le _)
  · skip
    refine G.sl [(.iload_n 2, 1, 2, 0, 0, 0), (.aload_n 0, 1, 0, 0, 0, 0)] [] (pc2 := 6) (ls2 := [some (.ref 1007), some (.int (k_of_s7_4  nn)), some (.int (nI nn))]) (st2 := [.ref 1007, .int (nI nn)]) (M2 := M) (Ps := []) (by decide +kernel) rfl rfl trivial ?_
    have t1 : GM z mJ0_length_8abf5 (d + 3) [.ref 1007] M (fun rs => rs = .inl (some (.int (nI 5)), M)) := c_slen z _ _ 7 (by decide)
    refine G.callT (as := []) (rest := [.int (nI nn)]) (i := 7) oJ0_length_8abf5 lk_EvenFindersModel_121 (by decide +kernel) rfl (by decide) rfl (Nat.le_of_ble_eq_true rfl) rfl ⟨Nat.le_of_ble_eq_true rfl, Nat.le_of_ble_eq_true rfl⟩ t1 (fun v9 N9 h2 => ?_) (fun E9 N9 h2 => by cases h2)
    cases h2
    show G z mX12_of (d + 4) 0 0 9 [some (.ref 1007), some (.int (k_of_s7_4  nn)), some (.int (nI nn))] [.int (nI 5), .int (nI nn)] M Q
    refine G.ic_ge (off := (22)) (tgt := 31) (by decide +kernel) rfl (fun _ => ?_) (fun h9 => absurd (nI_le (by omega) (by omega)) h9)
    refine G.loc (ls2 := [none, some (.int (k_of_s7_4  nn)), none]) (by simp [subL]) ?_
    exact hX
  · skip
    intro i2 hi ih
    show G z mX12_of (d + 4) 0 0 4 [some (.ref 1007), some (.int (k_of_s7_4  i2)), some (.int (nI i2))] [] M Q
    refine G.sl [(.iload_n 2, 1, 2, 0, 0, 0), (.aload_n 0, 1, 0, 0, 0, 0)] [] (pc2 := 6) (ls2 := [some (.ref 1007), some (.int (k_of_s7_4  i2)), some (.int (nI i2))]) (st2 := [.ref 1007, .int (nI i2)]) (M2 := M) (Ps := []) (by decide +kernel) rfl rfl trivial ?_
    have t3 : GM z mJ0_length_8abf5 (d + 3) [.ref 1007] M (fun rs => rs = .inl (some (.int (nI 5)), M)) := c_slen z _ _ 7 (by decide)
    refine G.callT (as := []) (rest := [.int (nI i2)]) (i := 7) oJ0_length_8abf5 lk_EvenFindersModel_121 (by decide +kernel) rfl (by decide) rfl (Nat.le_of_ble_eq_true rfl) rfl ⟨Nat.le_of_ble_eq_true rfl, Nat.le_of_ble_eq_true rfl⟩ t3 (fun v9 N9 h4 => ?_) (fun E9 N9 h4 => by cases h4)
    cases h4
    show G z mX12_of (d + 4) 0 0 9 [some (.ref 1007), some (.int (k_of_s7_4  i2)), some (.int (nI i2))] [.int (nI 5), .int (nI i2)] M Q
    refine G.ic_ge (off := (22)) (tgt := 31) (by decide +kernel) rfl (fun h9 => absurd h9 (nI_ge (by omega) (by omega))) (fun _ => ?_)
    refine G.sl [(.iload_n 1, 1, 1, 0, 0, 0), (.iconst 5, 1, 0, 0, 0, nI 5), (.ishl, 1, 0, 0, 0, 0), (.aload_n 0, 1, 0, 0, 0, 0), (.iload_n 2, 1, 2, 0, 0, 0)] [] (pc2 := 17) (ls2 := [some (.ref 1007), some (.int (k_of_s7_4  i2)), some (.int (nI i2))]) (st2 := [.int (nI i2), .ref 1007, .int ((k_of_s7_4  i2) <<< ((nI 5) &&& 31))]) (M2 := M) (Ps := []) (by decide +kernel) rfl rfl trivial ?_
    have t5 : GM z mJ0_charAt_5068e (d + 3) [.ref 1007, .int (nI i2)] M (fun rs => rs = .inl (some (.int (sby 7 i2)), M)) := c_charAt z _ _ 7 i2 (by decide) (show i2 < 5 from (by omega))
    refine G.callT (as := [.int (nI i2)]) (rest := [.int ((k_of_s7_4  i2) <<< ((nI 5) &&& 31))]) (i := 7) oJ0_charAt_5068e lk_EvenFindersModel_126 (by decide +kernel) rfl (by decide) rfl (Nat.le_of_ble_eq_true rfl) rfl ⟨Nat.le_of_ble_eq_true rfl, Nat.le_of_ble_eq_true rfl⟩ t5 (fun v9 N9 h6 => ?_) (fun E9 N9 h6 => by cases h6)
    cases h6
    show G z mX12_of (d + 4) 0 0 20 [some (.ref 1007), some (.int (k_of_s7_4  i2)), some (.int (nI i2))] [.int (sby 7 i2), .int ((k_of_s7_4  i2) <<< ((nI 5) &&& 31))] M Q
    refine G.sl [(.bipush 96, 2, 0, 0, 0, nI 96), (.isub, 1, 0, 0, 0, 0), (.ior, 1, 0, 0, 0, 0), (.istore_n 1, 1, 1, 0, 0, 0), (.iinc 2 1, 3, 2, 0, 0, nI 1), (.goto (-24), 3, 4, 0, 0, 0)] [] (pc2 := 4) (ls2 := [some (.ref 1007), some (.int (((k_of_s7_4  i2) <<< ((nI 5) &&& 31)) ||| ((sby 7 i2) - (nI 96)))), some (.int ((nI i2) + nI 1))]) (st2 := []) (M2 := M) (Ps := []) (by decide +kernel) rfl rfl trivial ?_
    rw [nI_add i2 1]
    simp only [k_of_s7_4] at ih
    exact ih
set_option maxHeartbeats 4000000 in
set_option maxRecDepth 3000 in
theorem c_k_of_s7 (z : Zp) (d : Nat) (M : Mem) : GM z mX12_of (d + 4) [.ref 1007] M (fun rs => rs = .inl (some (.int (k_of_s7 )), M)) := by
  refine GM.of oX12_of.1 (Nat.le_of_ble_eq_true rfl) ?_
  show G z mX12_of (d + 4) 0 0 0 [some (.ref 1007), none, none] [] M _
  obtain ⟨Q, hQ⟩ : ∃ Q : Rs → Prop, Q = (fun rs => rs = .inl (some (.int (k_of_s7 )), M)) := ⟨_, rfl⟩
  rw [← hQ]
  refine G.sl [(.iconst 0, 1, 0, 0, 0, nI 0), (.istore_n 1, 1, 1, 0, 0, 0), (.iconst 0, 1, 0, 0, 0, nI 0), (.istore_n 2, 1, 2, 0, 0, 0)] [] (pc2 := 4) (ls2 := [some (.ref 1007), some (.int (nI 0)), some (.int (nI 0))]) (st2 := []) (M2 := M) (Ps := []) (by decide +kernel) rfl rfl trivial ?_
  refine lp_k_of_s7_4 z d M Q (cN 5) (cN_eq 5) ?_
  show G z mX12_of (d + 4) 0 0 31 [none, some (.int (k_of_s7_4 (cN 5))), none] [] M Q
  refine G.sl [(.iload_n 1, 1, 1, 0, 0, 0)] [] (pc2 := 32) (ls2 := [none, some (.int (k_of_s7_4 (cN 5))), none]) (st2 := [.int (k_of_s7_4 (cN 5))]) (M2 := M) (Ps := []) (by decide +kernel) rfl rfl trivial ?_
  exact G.reti (by decide +kernel) rfl rfl (Nat.le_of_ble_eq_true rfl) (Nat.le_of_ble_eq_true rfl) ((by rw [hQ]; simp only [k_of_s7, mrow_self]))
set_option maxHeartbeats 4000000 in
set_option maxRecDepth 3000 in
theorem lp_k_of_s8_4 (z : Zp) (d : Nat) (M : Mem) (Q : Rs → Prop) (nn : Nat) (hnn : nn = 6) (hX : G z mX12_of (d + 4) 0 0 31 [none, some (.int (k_of_s8_4  nn)), none] [] M Q) : G z mX12_of (d + 4) 0 0 4 [some (.ref 1008), some (.int (nI 0)), some (.int (nI 0))] [] M Q := by
  refine down (n := nn) (P := fun i2 => G z mX12_of (d + 4) 0 0 4 [some (.ref 1008), some (.int (k_of_s8_4  i2)), some (.int (nI i2))] [] M Q) ?_ ?_ 0 (Nat.zero_le _)
  · skip
    refine G.sl [(.iload_n 2, 1, 2, 0, 0, 0), (.aload_n 0, 1, 0, 0, 0, 0)] [] (pc2 := 6) (ls2 := [some (.ref 1008), some (.int (k_of_s8_4  nn)), some (.int (nI nn))]) (st2 := [.ref 1008, .int (nI nn)]) (M2 := M) (Ps := []) (by decide +kernel) rfl rfl trivial ?_
    have t1 : GM z mJ0_length_8abf5 (d + 3) [.ref 1008] M (fun rs => rs = .inl (some (.int (nI 6)), M)) := c_slen z _ _ 8 (by decide)
    refine G.callT (as := []) (rest := [.int (nI nn)]) (i := 8) oJ0_length_8abf5 lk_EvenFindersModel_121 (by decide +kernel) rfl (by decide) rfl (Nat.le_of_ble_eq_true rfl) rfl ⟨Nat.le_of_ble_eq_true rfl, Nat.le_of_ble_eq_true rfl⟩ t1 (fun v9 N9 h2 => ?_) (fun E9 N9 h2 => by cases h2)
    cases h2
    show G z mX12_of (d + 4) 0 0 9 [some (.ref 1008), some (.int (k_of_s8_4  nn)), some (.int (nI nn))] [.int (nI 6), .int (nI nn)] M Q
    refine G.ic_ge (off := (22)) (tgt := 31) (by decide +kernel) rfl (fun _ => ?_) (fun h9 => absurd (nI_le (by omega) (by omega)) h9)
    refine G.loc (ls2 := [none, some (.int (k_of_s8_4  nn)), none]) (by simp [subL]) ?_
    exact hX
  · skip
    intro i2 hi ih
    show G z mX12_of (d + 4) 0 0 4 [some (.ref 1008), some (.int (k_of_s8_4  i2)), some (.int (nI i2))] [] M Q
    refine G.sl [(.iload_n 2, 1, 2, 0, 0, 0), (.aload_n 0, 1, 0, 0, 0, 0)] [] (pc2 := 6) (ls2 := [some (.ref 1008), some (.int (k_of_s8_4  i2)), some (.int (nI i2))]) (st2 := [.ref 1008, .int (nI i2)]) (M2 := M) (Ps := []) (by decide +kernel) rfl rfl trivial ?_
    have t3 : GM z mJ0_length_8abf5 (d + 3) [.ref 1008] M (fun rs => rs = .inl (some (.int (nI 6)), M)) := c_slen z _ _ 8 (by decide)
    refine G.callT (as := []) (rest := [.int (nI i2)]) (i := 8) oJ0_length_8abf5 lk_EvenFindersModel_121 (by decide +kernel) rfl (by decide) rfl (Nat.le_of_ble_eq_true rfl) rfl ⟨Nat.le_of_ble_eq_true rfl, Nat.le_of_ble_eq_true rfl⟩ t3 (fun v9 N9 h4 => ?_) (fun E9 N9 h4 => by cases h4)
    cases h4
    show G z mX12_of (d + 4) 0 0 9 [some (.ref 1008), some (.int (k_of_s8_4  i2)), some (.int (nI i2))] [.int (nI 6), .int (nI i2)] M Q
    refine G.ic_ge (off := (22)) (tgt := 31) (by decide +kernel) rfl (fun h9 => absurd h9 (nI_ge (by omega) (by omega))) (fun _ => ?_)
    refine G.sl [(.iload_n 1, 1, 1, 0, 0, 0), (.iconst 5, 1, 0, 0, 0, nI 5), (.ishl, 1, 0, 0, 0, 0), (.aload_n 0, 1, 0, 0, 0, 0), (.iload_n 2, 1, 2, 0, 0, 0)] [] (pc2 := 17) (ls2 := [some (.ref 1008), some (.int (k_of_s8_4  i2)), some (.int (nI i2))]) (st2 := [.int (nI i2), .ref 1008, .int ((k_of_s8_4  i2) <<< ((nI 5) &&& 31))]) (M2 := M) (Ps := []) (by decide +kernel) rfl rfl trivial ?_
    have t5 : GM z mJ0_charAt_5068e (d + 3) [.ref 1008, .int (nI i2)] M (fun rs => rs = .inl (some (.int (sby 8 i2)), M)) := c_charAt z _ _ 8 i2 (by decide) (show i2 < 6 from (by omega))
    refine G.callT (as := [.int (nI i2)]) (rest := [.int ((k_of_s8_4  i2) <<< ((nI 5) &&& 31))]) (i := 8) oJ0_charAt_5068e lk_EvenFindersModel_126 (by decide +kernel) rfl (by decide) rfl (Nat.le_of_ble_eq_true rfl) rfl ⟨Nat.le_of_ble_eq_true rfl, Nat.le_of_ble_eq_true rfl⟩ t5 (fun v9 N9 h6 => ?_) (fun E9 N9 h6 => by cases h6)
    cases h6
    show G z mX12_of (d + 4) 0 0 20 [some (.ref 1008), some (.int (k_of_s8_4  i2)), some (.int (nI i2))] [.int (sby 8 i2), .int ((k_of_s8_4  i2) <<< ((nI 5) &&& 31))] M Q
    refine G.sl [(.bipush 96, 2, 0, 0, 0, nI 96), (.isub, 1, 0, 0, 0, 0), (.ior, 1, 0, 0, 0, 0), (.istore_n 1, 1, 1, 0, 0, 0), (.iinc 2 1, 3, 2, 0, 0, nI 1), (.goto (-24), 3, 4, 0, 0, 0)] [] (pc2 := 4) (ls2 := [some (.ref 1008), some (.int (((k_of_s8_4  i2) <<< ((nI 5) &&& 31)) ||| ((sby 8 i2) - (nI 96)))), some (.int ((nI i2) + nI 1))]) (st2 := []) (M2 := M) (Ps := []) (by decide +kernel) rfl rfl trivial ?_
    rw [nI_add i2 1]
    simp only [k_of_s8_4] at ih
    exact ih
set_option maxHeartbeats 4000000 in
set_option maxRecDepth 3000 in
theorem c_k_of_s8 (z : Zp) (d : Nat) (M : Mem) : GM z mX12_of (d + 4) [.ref 1008] M (fun rs => rs = .inl (some (.int (k_of_s8 )), M)) := by
  refine GM.of oX12_of.1 (Nat.le_of_ble_eq_true rfl) ?_
  show G z mX12_of (d + 4) 0 0 0 [some (.ref 1008), none, none] [] M _
  obtain ⟨Q, hQ⟩ : ∃ Q : Rs → Prop, Q = (fun rs => rs = .inl (some (.int (k_of_s8 )), M)) := ⟨_, rfl⟩
  rw [← hQ]
  refine G.sl [(.iconst 0, 1, 0, 0, 0, nI 0), (.istore_n 1, 1, 1, 0, 0, 0), (.iconst 0, 1, 0, 0, 0, nI 0), (.istore_n 2, 1, 2, 0, 0, 0)] [] (pc2 := 4) (ls2 := [some (.ref 1008), some (.int (nI 0)), some (.int (nI 0))]) (st2 := []) (M2 := M) (Ps := []) (by decide +kernel) rfl rfl trivial ?_
  refine lp_k_of_s8_4 z d M Q (cN 6) (cN_eq 6) ?_
  show G z mX12_of (d + 4) 0 0 31 [none, some (.int (k_of_s8_4 (cN 6))), none] [] M Q
  refine G.sl [(.iload_n 1, 1, 1, 0, 0, 0)] [] (pc2 := 32) (ls2 := [none, some (.int (k_of_s8_4 (cN 6))), none]) (st2 := [.int (k_of_s8_4 (cN 6))]) (M2 := M) (Ps := []) (by decide +kernel) rfl rfl trivial ?_
  exact G.reti (by decide +kernel) rfl rfl (Nat.le_of_ble_eq_true rfl) (Nat.le_of_ble_eq_true rfl) ((by rw [hQ]; simp only [k_of_s8, mrow_self]))
set_option maxHeartbeats 4000000 in
set_option maxRecDepth 3000 in
theorem lp_k_of_s9_4 (z : Zp) (d : Nat) (M : Mem) (Q : Rs → Prop) (nn : Nat) (hnn : nn = 3) (hX : G z mX12_of (d + 4) 0 0 31 [none, some (.int (k_of_s9_4  nn)), none] [] M Q) : G z mX12_of (d + 4) 0 0 4 [some (.ref 1009), some (.int (nI 0)), some (.int (nI 0))] [] M Q := by
  refine down (n := nn) (P := fun i2 => G z mX12_of (d + 4) 0 0 4 [some (.ref 1009), some (.int (k_of_s9_4  i2)), some (.int (nI i2))] [] M Q) ?_ ?_ 0 (Nat.zero_le _)
  · skip
    refine G.sl [(.iload_n 2, 1, 2, 0, 0, 0), (.aload_n 0, 1, 0, 0, 0, 0)] [] (pc2 := 6) (ls2 := [some (.ref 1009), some (.int (k_of_s9_4  nn)), some (.int (nI nn))]) (st2 := [.ref 1009, .int (nI nn)]) (M2 := M) (Ps := []) (by decide +kernel) rfl rfl trivial ?_
    have t1 : GM z mJ0_length_8abf5 (d + 3) [.ref 1009] M (fun rs => rs = .inl (some (.int (nI 3)), M)) := c_slen z _ _ 9 (by decide)
    refine G.callT (as := []) (rest := [.int (nI nn)]) (i := 9) oJ0_length_8abf5 lk_EvenFindersModel_121 (by decide +kernel) rfl (by decide) rfl (Nat.le_of_ble_eq_true rfl) rfl ⟨Nat.le_of_ble_eq_true rfl, Nat.le_of_ble_eq_true rfl⟩ t1 (fun v9 N9 h2 => ?_) (fun E9 N9 h2 => by cases h2)
    cases h2
    show G z mX12_of (d + 4) 0 0 9 [some (.ref 1009), some (.int (k_of_s9_4  nn)), some (.int (nI nn))] [.int (nI 3), .int (nI nn)] M Q
    refine G.ic_ge (off := (22)) (tgt := 31) (by decide +kernel) rfl (fun _ => ?_) (fun h9 => absurd (nI_le (by omega) (by omega)) h9)
    refine G.loc (ls2 := [none, some (.int (k_of_s9_4  nn)), none]) (by simp [subL]) ?_
    exact hX
  · skip
    intro i2 hi ih
    show G z mX12_of (d + 4) 0 0 4 [some (.ref 1009), some (.int (k_of_s9_4  i2)), some (.int (nI i2))] [] M Q
    refine G.sl [(.iload_n 2, 1, 2, 0, 0, 0), (.aload_n 0, 1, 0, 0, 0, 0)] [] (pc2 := 6) (ls2 := [some (.ref 1009), some (.int (k_of_s9_4  i2)), some (.int (nI i2))]) (st2 := [.ref 1009, .int (nI i2)]) (M2 := M) (Ps := []) (by decide +kernel) rfl rfl trivial ?_
    have t3 : GM z mJ0_length_8abf5 (d + 3) [.ref 1009] M (fun rs => rs = .inl (some (.int (nI 3)), M)) := c_slen z _ _ 9 (by decide)
    refine G.callT (as := []) (rest := [.int (nI i2)]) (i := 9) oJ0_length_8abf5 lk_EvenFindersModel_121 (by decide +kernel) rfl (by decide) rfl (Nat.le_of_ble_eq_true rfl) rfl ⟨Nat.le_of_ble_eq_true rfl, Nat.le_of_ble_eq_true rfl⟩ t3 (fun v9 N9 h4 => ?_) (fun E9 N9 h4 => by cases h4)
    cases h4
    show G z mX12_of (d + 4) 0 0 9 [some (.ref 1009), some (.int (k_of_s9_4  i2)), some (.int (nI i2))] [.int (nI 3), .int (nI i2)] M Q
    refine G.ic_ge (off := (22)) (tgt := 31) (by decide +kernel) rfl (fun h9 => absurd h9 (nI_ge (by omega) (by omega))) (fun _ => ?_)
    refine G.sl [(.iload_n 1, 1, 1, 0, 0, 0), (.iconst 5, 1, 0, 0, 0, nI 5), (.ishl, 1, 0, 0, 0, 0), (.aload_n 0, 1, 0, 0, 0, 0), (.iload_n 2, 1, 2, 0, 0, 0)] [] (pc2 := 17) (ls2 := [some (.ref 1009), some (.int (k_of_s9_4  i2)), some (.int (nI i2))]) (st2 := [.int (nI i2), .ref 1009, .int ((k_of_s9_4  i2) <<< ((nI 5) &&& 31))]) (M2 := M) (Ps := []) (by decide +kernel) rfl rfl trivial ?_
    have t5 : GM z mJ0_charAt_5068e (d + 3) [.ref 1009, .int (nI i2)] M (fun rs => rs = .inl (some (.int (sby 9 i2)), M)) := c_charAt z _ _ 9 i2 (by decide) (show i2 < 3 from (by omega))
    refine G.callT (as := [.int (nI i2)]) (rest := [.int ((k_of_s9_4  i2) <<< ((nI 5) &&& 31))]) (i := 9) oJ0_charAt_5068e lk_EvenFindersModel_126 (by decide +kernel) rfl (by decide) rfl (Nat.le_of_ble_eq_true rfl) rfl ⟨Nat.le_of_ble_eq_true rfl, Nat.le_of_ble_eq_true rfl⟩ t5 (fun v9 N9 h6 => ?_) (fun E9 N9 h6 => by cases h6)
    cases h6
    show G z mX12_of (d + 4) 0 0 20 [some (.ref 1009), some (.int (k_of_s9_4  i2)), some (.int (nI i2))] [.int (sby 9 i2), .int ((k_of_s9_4  i2) <<< ((nI 5) &&& 31))] M Q
    refine G.sl [(.bipush 96, 2, 0, 0, 0, nI 96), (.isub, 1, 0, 0, 0, 0), (.ior, 1, 0, 0, 0, 0), (.istore_n 1, 1, 1, 0, 0, 0), (.iinc 2 1, 3, 2, 0, 0, nI 1), (.goto (-24), 3, 4, 0, 0, 0)] [] (pc2 := 4) (ls2 := [some (.ref 1009), some (.int (((k_of_s9_4  i2) <<< ((nI 5) &&& 31)) ||| ((sby 9 i2) - (nI 96)))), some (.int ((nI i2) + nI 1))]) (st2 := []) (M2 := M) (Ps := []) (by decide +kernel) rfl rfl trivial ?_
    rw [nI_add i2 1]
    simp only [k_of_s9_4] at ih
    exact ih
set_option maxHeartbeats 4000000 in
set_option maxRecDepth 3000 in
theorem c_k_of_s9 (z : Zp) (d : Nat) (M : Mem) : GM z mX12_of (d + 4) [.ref 1009] M (fun rs => rs = .inl (some (.int (k_of_s9 )), M)) := by
  refine GM.of oX12_of.1 (Nat.le_of_ble_eq_true rfl) ?_
  show G z mX12_of (d + 4) 0 0 0 [some (.ref 1009), none, none] [] M _
  obtain ⟨Q, hQ⟩ : ∃ Q : Rs → Prop, Q = (fun rs => rs = .inl (some (.int (k_of_s9 )), M)) := ⟨_, rfl⟩
  rw [← hQ]
  refine G.sl [(.iconst 0, 1, 0, 0, 0, nI 0), (.istore_n 1, 1, 1, 0, 0, 0), (.iconst 0, 1, 0, 0, 0, nI 0), (.istore_n 2, 1, 2, 0, 0, 0)] [] (pc2 := 4) (ls2 := [some (.ref 1009), some (.int (nI 0)), some (.int (nI 0))]) (st2 := []) (M2 := M) (Ps := []) (by decide +kernel) rfl rfl trivial ?_
  refine lp_k_of_s9_4 z d M Q (cN 3) (cN_eq 3) ?_
  show G z mX12_of (d + 4) 0 0 31 [none, some (.int (k_of_s9_4 (cN 3))), none] [] M Q
  refine G.sl [(.iload_n 1, 1, 1, 0, 0, 0)] [] (pc2 := 32) (ls2 := [none, some (.int (k_of_s9_4 (cN 3))), none]) (st2 := [.int (k_of_s9_4 (cN 3))]) (M2 := M) (Ps := []) (by decide +kernel) rfl rfl trivial ?_
  exact G.reti (by decide +kernel) rfl rfl (Nat.le_of_ble_eq_true rfl) (Nat.le_of_ble_eq_true rfl) ((by rw [hQ]; simp only [k_of_s9, mrow_self]))
theorem k_isRow_01 (x0 : Int32) : k_isRow x0 = 0 ∨ k_isRow x0 = 1 := by
  unfold k_isRow
  repeat' split
  all_goals first | exact Or.inl rfl | exact Or.inr rfl
set_option maxHeartbeats 4000000 in
set_option maxRecDepth 3000 in
theorem c_k_isRow (z : Zp) (d : Nat) (M : Mem) (x0 : Int32) : GM z mX12_isRow (d + 5) [.int x0] M (fun rs => rs = .inl (some (.int (k_isRow x0)), M)) := by
  refine GM.of oX12_isRow.1 (Nat.le_of_ble_eq_true rfl) ?_
  show G z mX12_isRow (d + 5) 0 0 0 [some (.int x0)] [] M _
  obtain ⟨Q, hQ⟩ : ∃ Q : Rs → Prop, Q = (fun rs => rs = .inl (some (.int (k_isRow x0)), M)) := ⟨_, rfl⟩
  rw [← hQ]
  refine G.sl [(.iload_n 0, 1, 0, 0, 0, 0), (.ldc 197, 2, 1, 5, 0, 0)] [] (pc2 := 3) (ls2 := [some (.int x0)]) (st2 := [.ref 1005, .int x0]) (M2 := M) (Ps := []) (by decide +kernel) rfl rfl trivial ?_
  have t2 : GM z mX12_of (d + 4) [.ref 1005] M (fun rs => rs = .inl (some (.int k_of_s5), M)) := by
    have q9 := c_k_of_s5 z d M 
    try simp only [mput, mrow_same, mrow_hit, mrow_miss, mrow_sw, idr_eq, ne_eq, Nat.reduceEqDiff, not_false_eq_true, Nat.reduceLT, reduceCtorEq] at q9
    exact q9
  refine G.callS (as := [.ref 1005]) (rest := [.int x0]) oX12_of lk_EvenFindersModel_198 (by decide +kernel) rfl (Nat.le_of_ble_eq_true rfl) rfl ⟨Nat.le_of_ble_eq_true rfl, Nat.le_of_ble_eq_true rfl⟩ t2 (fun v9 N9 h3 => ?_) (fun E9 N9 h3 => by cases h3)
  cases h3
  show G z mX12_isRow (d + 5) 0 0 6 [some (.int x0)] [.int k_of_s5, .int x0] M Q
  refine G.ic_eq (off := (39)) (tgt := 45) (by decide +kernel) rfl (fun c4 => ?_) (fun c4 => ?_)
  · skip
    refine G.sl [(.iconst 1, 1, 0, 0, 0, nI 1), (.goto 4, 3, 50, 0, 0, 0)] [] (pc2 := 50) (ls2 := [some (.int x0)]) (st2 := [.int (nI 1)]) (M2 := M) (Ps := []) (by decide +kernel) rfl rfl trivial ?_
    exact G.reti (by decide +kernel) rfl rfl (Nat.le_of_ble_eq_true rfl) (Nat.le_of_ble_eq_true rfl) ((by rw [hQ]; simp only [k_isRow, if_pos c4, mrow_self]))
  · skip
    refine G.sl [(.iload_n 0, 1, 0, 0, 0, 0), (.ldc 202, 2, 1, 6, 0, 0)] [] (pc2 := 12) (ls2 := [some (.int x0)]) (st2 := [.ref 1006, .int x0]) (M2 := M) (Ps := []) (by decide +kernel) rfl rfl trivial ?_
    have t6 : GM z mX12_of (d + 4) [.ref 1006] M (fun rs => rs = .inl (some (.int k_of_s6), M)) := by
      have q9 := c_k_of_s6 z d M 
      try simp only [mput, mrow_same, mrow_hit, mrow_miss, mrow_sw, idr_eq, ne_eq, Nat.reduceEqDiff, not_false_eq_true, Nat.reduceLT, reduceCtorEq] at q9
      exact q9
    refine G.callS (as := [.ref 1006]) (rest := [.int x0]) oX12_of lk_EvenFindersModel_198 (by decide +kernel) rfl (Nat.le_of_ble_eq_true rfl) rfl ⟨Nat.le_of_ble_eq_true rfl, Nat.le_of_ble_eq_true rfl⟩ t6 (fun v9 N9 h7 => ?_) (fun E9 N9 h7 => by cases h7)
    cases h7
    show G z mX12_isRow (d + 5) 0 0 15 [some (.int x0)] [.int k_of_s6, .int x0] M Q
    refine G.ic_eq (off := (30)) (tgt := 45) (by decide +kernel) rfl (fun c8 => ?_) (fun c8 => ?_)
    · skip
      refine G.sl [(.iconst 1, 1, 0, 0, 0, nI 1), (.goto 4, 3, 50, 0, 0, 0)] [] (pc2 := 50) (ls2 := [some (.int x0)]) (st2 := [.int (nI 1)]) (M2 := M) (Ps := []) (by decide +kernel) rfl rfl trivial ?_
      exact G.reti (by decide +kernel) rfl rfl (Nat.le_of_ble_eq_true rfl) (Nat.le_of_ble_eq_true rfl) ((by rw [hQ]; simp only [k_isRow, if_neg c4, if_pos c8, mrow_self]))
    · skip
      refine G.sl [(.iload_n 0, 1, 0, 0, 0, 0), (.ldc 203, 2, 1, 7, 0, 0)] [] (pc2 := 21) (ls2 := [some (.int x0)]) (st2 := [.ref 1007, .int x0]) (M2 := M) (Ps := []) (by decide +kernel) rfl rfl trivial ?_
      have t10 : GM z mX12_of (d + 4) [.ref 1007] M (fun rs => rs = .inl (some (.int k_of_s7), M)) := by
        have q9 := c_k_of_s7 z d M 
        try simp only [mput, mrow_same, mrow_hit, mrow_miss, mrow_sw, idr_eq, ne_eq, Nat.reduceEqDiff, not_false_eq_true, Nat.reduceLT, reduceCtorEq] at q9
        exact q9
      refine G.callS (as := [.ref 1007]) (rest := [.int x0]) oX12_of lk_EvenFindersModel_198 (by decide +kernel) rfl (Nat.le_of_ble_eq_true rfl) rfl ⟨Nat.le_of_ble_eq_true rfl, Nat.le_of_ble_eq_true rfl⟩ t10 (fun v9 N9 h11 => ?_) (fun E9 N9 h11 => by cases h11)
      cases h11
      show G z mX12_isRow (d + 5) 0 0 24 [some (.int x0)] [.int k_of_s7, .int x0] M Q
      refine G.ic_eq (off := (21)) (tgt := 45) (by decide +kernel) rfl (fun c12 => ?_) (fun c12 => ?_)
      · skip
        refine G.sl [(.iconst 1, 1, 0, 0, 0, nI 1), (.goto 4, 3, 50, 0, 0, 0)] [] (pc2 := 50) (ls2 := [some (.int x0)]) (st2 := [.int (nI 1)]) (M2 := M) (Ps := []) (by decide +kernel) rfl rfl trivial ?_
        exact G.reti (by decide +kernel) rfl rfl (Nat.le_of_ble_eq_true rfl) (Nat.le_of_ble_eq_true rfl) ((by rw [hQ]; simp only [k_isRow, if_neg c4, if_neg c8, if_pos c12, mrow_self]))
      · skip
        refine G.sl [(.iload_n 0, 1, 0, 0, 0, 0), (.ldc 204, 2, 1, 8, 0, 0)] [] (pc2 := 30) (ls2 := [some (.int x0)]) (st2 := [.ref 1008, .int x0]) (M2 := M) (Ps := []) (by decide +kernel) rfl rfl trivial ?_
        have t14 : GM z mX12_of (d + 4) [.ref 1008] M (fun rs => rs = .inl (some (.int k_of_s8), M)) := by
          have q9 := c_k_of_s8 z d M 
          try simp only [mput, mrow_same, mrow_hit, mrow_miss, mrow_sw, idr_eq, ne_eq, Nat.reduceEqDiff, not_false_eq_true, Nat.reduceLT, reduceCtorEq] at q9
          exact q9
        refine G.callS (as := [.ref 1008]) (rest := [.int x0]) oX12_of lk_EvenFindersModel_198 (by decide +kernel) rfl (Nat.le_of_ble_eq_true rfl) rfl ⟨Nat.le_of_ble_eq_true rfl, Nat.le_of_ble_eq_true rfl⟩ t14 (fun v9 N9 h15 => ?_) (fun E9 N9 h15 => by cases h15)
        cases h15
        show G z mX12_isRow (d + 5) 0 0 33 [some (.int x0)] [.int k_of_s8, .int x0] M Q
        refine G.ic_eq (off := (12)) (tgt := 45) (by decide +kernel) rfl (fun c16 => ?_) (fun c16 => ?_)
        · skip
          refine G.sl [(.iconst 1, 1, 0, 0, 0, nI 1), (.goto 4, 3, 50, 0, 0, 0)] [] (pc2 := 50) (ls2 := [some (.int x0)]) (st2 := [.int (nI 1)]) (M2 := M) (Ps := []) (by decide +kernel) rfl rfl trivial ?_
          exact G.reti (by decide +kernel) rfl rfl (Nat.le_of_ble_eq_true rfl) (Nat.le_of_ble_eq_true rfl) ((by rw [hQ]; simp only [k_isRow, if_neg c4, if_neg c8, if_neg c12, if_pos c16, mrow_self]))
        · skip
          refine G.sl [(.iload_n 0, 1, 0, 0, 0, 0), (.ldc 205, 2, 1, 9, 0, 0)] [] (pc2 := 39) (ls2 := [some (.int x0)]) (st2 := [.ref 1009, .int x0]) (M2 := M) (Ps := []) (by decide +kernel) rfl rfl trivial ?_
          have t18 : GM z mX12_of (d + 4) [.ref 1009] M (fun rs => rs = .inl (some (.int k_of_s9), M)) := by
            have q9 := c_k_of_s9 z d M 
            try simp only [mput, mrow_same, mrow_hit, mrow_miss, mrow_sw, idr_eq, ne_eq, Nat.reduceEqDiff, not_false_eq_true, Nat.reduceLT, reduceCtorEq] at q9
            exact q9
          refine G.callS (as := [.ref 1009]) (rest := [.int x0]) oX12_of lk_EvenFindersModel_198 (by decide +kernel) rfl (Nat.le_of_ble_eq_true rfl) rfl ⟨Nat.le_of_ble_eq_true rfl, Nat.le_of_ble_eq_true rfl⟩ t18 (fun v9 N9 h19 => ?_) (fun E9 N9 h19 => by cases h19)
          cases h19
          show G z mX12_isRow (d + 5) 0 0 42 [some (.int x0)] [.int k_of_s9, .int x0] M Q
          refine G.ic_ne (off := (7)) (tgt := 49) (by decide +kernel) rfl (fun c20 => ?_) (fun c20 => ?_)
          · skip
            refine G.sl [(.iconst 0, 1, 0, 0, 0, nI 0)] [] (pc2 := 50) (ls2 := [some (.int x0)]) (st2 := [.int (nI 0)]) (M2 := M) (Ps := []) (by decide +kernel) rfl rfl trivial ?_
            exact G.reti (by decide +kernel) rfl rfl (Nat.le_of_ble_eq_true rfl) (Nat.le_of_ble_eq_true rfl) ((by rw [hQ]; simp only [k_isRow, if_neg c4, if_neg c8, if_neg c12, if_neg c16, if_neg c20, mrow_self]))
          · skip
            refine G.sl [(.iconst 1, 1, 0, 0, 0, nI 1), (.goto 4, 3, 50, 0, 0, 0)] [] (pc2 := 50) (ls2 := [some (.int x0)]) (st2 := [.int (nI 1)]) (M2 := M) (Ps := []) (by decide +kernel) rfl rfl trivial ?_
            exact G.reti (by decide +kernel) rfl rfl (Nat.le_of_ble_eq_true rfl) (Nat.le_of_ble_eq_true rfl) ((by rw [hQ]; simp only [k_isRow, if_neg c4, if_neg c8, if_neg c12, if_neg c16, if_pos c20, mrow_self]))
set_option maxHeartbeats 4000000 in
set_option maxRecDepth 3000 in
theorem lp_k_pass_54_0 (z : Zp) (d : Nat) (M : Mem) (Q : Rs → Prop) : ∀ (k0 : Nat) (q54 : (Nat → Int32)), k_pass_0_ok (M.1 56) k0 q54 → (match k_pass_0 (M.1 56) k0 q54 with | q54' => G z mX12_pass (d + 1) 0 0 39 [none] [] (mrow M 54 (q54')) Q) → G z mX12_pass (d + 1) 0 0 0 [some (.ref 54)] [] (mrow M 54 q54) Q := by
  intro k0
  induction k0 with
  | zero =>
      intro q54 hk hX
      exact (by simpa only [k_pass_0_ok] using hk : False).elim
  | succ k0 ih =>
      intro q54 hk hX
      simp only [k_pass_0_ok] at hk
      refine G.sl [(.aload_n 0, 1, 0, 0, 0, 0), (.getfield 107, 3, 11, 4, 127, 0), (.aload_n 0, 1, 0, 0, 0, 0), (.getfield 110, 3, 11, 3, 126, 0)] [] (pc2 := 8) (ls2 := [some (.ref 54)]) (st2 := [.int (q54 3), .int (q54 4)]) (M2 := mrow M 54 q54) (Ps := []) (by decide +kernel) rfl rfl trivial ?_
      refine G.ic_ge (off := (31)) (tgt := 39) (by decide +kernel) rfl (fun c1 => ?_) (fun c1 => ?_)
      · skip
        rw [if_pos c1] at hk
        refine G.loc (ls2 := [none]) (by simp [subL]) ?_
        simp only [k_pass_0, if_pos c1] at hX
        exact hX
      · skip
        rw [if_neg c1] at hk
        obtain ⟨k2, k3, hk⟩ := hk
        refine G.sl [(.aload_n 0, 1, 0, 0, 0, 0), (.getfield 20, 3, 11, 9, 132, 0), (.aload_n 0, 1, 0, 0, 0, 0), (.getfield 107, 3, 11, 4, 127, 0), (.iaload, 1, 0, 0, 0, 0)] [ix (q54 4)] (pc2 := 20) (ls2 := [some (.ref 54)]) (st2 := [.int (M.1 56 (ix (q54 4)))]) (M2 := mrow M 54 q54) (Ps := [(q54 4) = nI (ix (q54 4)) ∧ (ix (q54 4)) < 600]) (by decide +kernel) rfl rfl ⟨⟨(ixE k2), k3⟩, trivial⟩ ?_
        obtain ⟨k4, hk⟩ := hk
        have t5 : GM z mX12_isSmall (d) [.int (M.1 56 (ix (q54 4)))] (mrow M 54 q54) (fun rs => rs = .inl (some (.int (k_isSmall (M.1 56 (ix (q54 4))))), mrow M 54 q54)) := by
          have q9 := c_k_isSmall z d (mrow M 54 q54) (M.1 56 (ix (q54 4)))
          try simp only [mput, mrow_same, mrow_hit, mrow_miss, mrow_sw, idr_eq, ne_eq, Nat.reduceEqDiff, not_false_eq_true, Nat.reduceLT, reduceCtorEq] at q9
          exact q9
        refine G.callS (as := [.int (M.1 56 (ix (q54 4)))]) (rest := []) oX12_isSmall lk_EvenFindersModel_117 (by decide +kernel) rfl (Nat.le_of_ble_eq_true rfl) rfl ⟨Nat.le_of_ble_eq_true rfl, Nat.le_of_ble_eq_true rfl⟩ t5 (fun v9 N9 h6 => ?_) (fun E9 N9 h6 => by cases h6)
        cases h6
        show G z mX12_pass (d + 1) 0 0 23 [some (.ref 54)] [.int (k_isSmall (M.1 56 (ix (q54 4))))] (mrow M 54 q54) Q
        refine G.if_eq (off := (16)) (tgt := 39) (by decide +kernel) rfl (fun c7 => ?_) (fun c7 => ?_)
        · skip
          rw [if_pos c7] at hk
          refine G.loc (ls2 := [none]) (by simp [subL]) ?_
          simp only [k_pass_0, if_neg c1, if_pos c7] at hX
          exact hX
        · skip
          rw [if_neg c7] at hk
          refine G.sl [(.aload_n 0, 1, 0, 0, 0, 0), (.dup, 1, 0, 0, 0, 0), (.getfield 107, 3, 11, 4, 127, 0), (.iconst 1, 1, 0, 0, 0, nI 1), (.iadd, 1, 0, 0, 0, 0), (.putfield 107, 3, 11, 4, 127, 0), (.goto (-36), 3, 0, 0, 0, 0)] [] (pc2 := 0) (ls2 := [some (.ref 54)]) (st2 := []) (M2 := mput (mrow M 54 q54) 54 4 ((q54 4) + (nI 1))) (Ps := []) (by decide +kernel) rfl rfl trivial ?_
          refine G.mem (M' := mrow M 54 (upd q54 4 ((q54 4) + (nI 1)))) (by first | rfl | (simp only [mput, mrow_same, mrow_hit, mrow_miss, mrow_sw, idr_eq, ne_eq, Nat.reduceEqDiff, not_false_eq_true, Nat.reduceLT, reduceCtorEq]; done)) ?_
          simp only [k_pass_0, if_neg c1, if_neg c7] at hX
          exact ih (upd q54 4 ((q54 4) + (nI 1))) hk hX
set_option maxHeartbeats 4000000 in
set_option maxRecDepth 3000 in
theorem c_k_pass_54 (z : Zp) (d : Nat) (M : Mem) (hk : k_pass_ok (M.1 54) (M.1 56)) : GM z mX12_pass (d + 1) [.ref 54] M (fun rs => rs = .inl (none, mrow M 54 ((k_pass (M.1 54) (M.1 56)).2))) := by
  simp only [k_pass_ok] at hk
  refine GM.of oX12_pass.1 (Nat.le_of_ble_eq_true rfl) ?_
  show G z mX12_pass (d + 1) 0 0 0 [some (.ref 54)] [] M _
  obtain ⟨Q, hQ⟩ : ∃ Q : Rs → Prop, Q = (fun rs => rs = .inl (none, mrow M 54 ((k_pass (M.1 54) (M.1 56)).2))) := ⟨_, rfl⟩
  rw [← hQ]
  obtain ⟨k8, hk⟩ := hk
  refine G.mem (M' := mrow M 54 (M.1 54)) (by simp only [mrow_self]) ?_
  refine lp_k_pass_54_0 z d M Q FU (M.1 54) (by first | (simp only [mput, mrow_same, mrow_hit, mrow_miss, mrow_sw, idr_eq, ne_eq, Nat.reduceEqDiff, not_false_eq_true, Nat.reduceLT, reduceCtorEq]; exact k8) | exact k8) ?_
  try simp only [mput, mrow_same, mrow_hit, mrow_miss, mrow_sw, idr_eq, ne_eq, Nat.reduceEqDiff, not_false_eq_true, Nat.reduceLT, reduceCtorEq]
  show G z mX12_pass (d + 1) 0 0 39 [none] [] (mrow M 54 (k_pass_0 (M.1 56) FU (M.1 54))) Q
  exact G.retv (by decide +kernel) rfl (Nat.le_of_ble_eq_true rfl) (Nat.le_of_ble_eq_true rfl) ((by rw [hQ]; simp only [k_pass, mrow_self]))
set_option maxHeartbeats 4000000 in
set_option maxRecDepth 3000 in
theorem c_k_readPlace_54 (z : Zp) (d : Nat) (M : Mem) (hk : k_readPlace_ok (M.1 54) (M.1 56)) : GM z mX12_readPlace (d + 2) [.ref 54] M (fun rs => rs = .inl (some (.int ((k_readPlace (M.1 54) (M.1 56)).1)), mrow M 54 ((k_readPlace (M.1 54) (M.1 56)).2))) := by
  simp only [k_readPlace_ok] at hk
  refine GM.of oX12_readPlace.1 (Nat.le_of_ble_eq_true rfl) ?_
  show G z mX12_readPlace (d + 2) 0 0 0 [some (.ref 54)] [] M _
  obtain ⟨Q, hQ⟩ : ∃ Q : Rs → Prop, Q = (fun rs => rs = .inl (some (.int ((k_readPlace (M.1 54) (M.1 56)).1)), mrow M 54 ((k_readPlace (M.1 54) (M.1 56)).2))) := ⟨_, rfl⟩
  rw [← hQ]
  refine G.sl [(.aload_n 0, 1, 0, 0, 0, 0), (.iconst 0, 1, 0, 0, 0, nI 0), (.aload_n 0, 1, 0, 0, 0, 0), (.getfield 144, 3, 11, 16, 139, 0), (.iconst 1, 1, 0, 0, 0, nI 1), (.isub, 1, 0, 0, 0, 0)] [] (pc2 := 8) (ls2 := [some (.ref 54)]) (st2 := [.int ((M.1 54 16) - (nI 1)), .int (nI 0), .ref 54]) (M2 := M) (Ps := []) (by decide +kernel) rfl rfl trivial ?_
  obtain ⟨k1, hk⟩ := hk
  rcases g2 : k_readNumber (M.1 54) (M.1 56) (nI 0) ((M.1 54 16) - (nI 1)) with ⟨v3, r4⟩
  have t5 : GM z mX12_readNumber (d + 1) [.ref 54, .int (nI 0), .int ((M.1 54 16) - (nI 1))] M (fun rs => rs = .inl (some (.int v3), mrow M 54 r4)) := by
    have q9 := c_k_readNumber_54 z d M (nI 0) ((M.1 54 16) - (nI 1)) k1
    try simp only [mput, mrow_same, mrow_hit, mrow_miss, mrow_sw, idr_eq, ne_eq, Nat.reduceEqDiff, not_false_eq_true, Nat.reduceLT, reduceCtorEq, g2] at q9
    exact q9
  refine G.callV (as := [.int (nI 0), .int ((M.1 54 16) - (nI 1))]) (rest := []) (a := 54) oX12_readNumber lk_EvenFindersModel_190 (by decide +kernel) rfl rfl ⟨rfl, rfl⟩ (Nat.le_of_ble_eq_true rfl) rfl ⟨Nat.le_of_ble_eq_true rfl, Nat.le_of_ble_eq_true rfl⟩ t5 (fun v9 N9 h6 => ?_) (fun E9 N9 h6 => by cases h6)
  cases h6
  show G z mX12_readPlace (d + 2) 0 0 11 [some (.ref 54)] [.int v3] (mrow M 54 r4) Q
  exact G.reti (by decide +kernel) rfl rfl (Nat.le_of_ble_eq_true rfl) (Nat.le_of_ble_eq_true rfl) ((by rw [hQ]; simp only [k_readPlace, g2, mrow_self]))
set_option maxHeartbeats 4000000 in
set_option maxRecDepth 3000 in
theorem c_k_readRoad_54 (z : Zp) (d : Nat) (M : Mem) (hk : k_readRoad_ok (M.1 54) (M.1 56) (M.1 57)) : GM z mX12_readRoad (d + 3) [.ref 54] M (fun rs => rs = .inl (none, mrow (mrow M 54 ((k_readRoad (M.1 54) (M.1 56) (M.1 57)).2.1)) 57 ((k_readRoad (M.1 54) (M.1 56) (M.1 57)).2.2))) := by
  simp only [k_readRoad_ok] at hk
  refine GM.of oX12_readRoad.1 (Nat.le_of_ble_eq_true rfl) ?_
  show G z mX12_readRoad (d + 3) 0 0 0 [some (.ref 54), none, none, none] [] M _
  obtain ⟨Q, hQ⟩ : ∃ Q : Rs → Prop, Q = (fun rs => rs = .inl (none, mrow (mrow M 54 ((k_readRoad (M.1 54) (M.1 56) (M.1 57)).2.1)) 57 ((k_readRoad (M.1 54) (M.1 56) (M.1 57)).2.2))) := ⟨_, rfl⟩
  rw [← hQ]
  refine G.sl [(.aload_n 0, 1, 0, 0, 0, 0)] [] (pc2 := 1) (ls2 := [some (.ref 54), none, none, none]) (st2 := [.ref 54]) (M2 := M) (Ps := []) (by decide +kernel) rfl rfl trivial ?_
  obtain ⟨k1, hk⟩ := hk
  rcases g2 : k_readPlace (M.1 54) (M.1 56) with ⟨v3, r4⟩
  try simp only [g2] at hk
  have t5 : GM z mX12_readPlace (d + 2) [.ref 54] M (fun rs => rs = .inl (some (.int v3), mrow M 54 r4)) := by
    have q9 := c_k_readPlace_54 z d M k1
    try simp only [mput, mrow_same, mrow_hit, mrow_miss, mrow_sw, idr_eq, ne_eq, Nat.reduceEqDiff, not_false_eq_true, Nat.reduceLT, reduceCtorEq, g2] at q9
    exact q9
  refine G.callV (as := []) (rest := []) (a := 54) oX12_readPlace lk_EvenFindersModel_194 (by decide +kernel) rfl rfl ⟨rfl, rfl⟩ (Nat.le_of_ble_eq_true rfl) rfl ⟨Nat.le_of_ble_eq_true rfl, Nat.le_of_ble_eq_true rfl⟩ t5 (fun v9 N9 h6 => ?_) (fun E9 N9 h6 => by cases h6)
  cases h6
  show G z mX12_readRoad (d + 3) 0 0 4 [some (.ref 54), none, none, none] [.int v3] (mrow M 54 r4) Q
  refine G.sl [(.istore_n 1, 1, 1, 0, 0, 0), (.aload_n 0, 1, 0, 0, 0, 0)] [] (pc2 := 6) (ls2 := [some (.ref 54), some (.int v3), none, none]) (st2 := [.ref 54]) (M2 := mrow M 54 r4) (Ps := []) (by decide +kernel) rfl rfl trivial ?_
  obtain ⟨k7, hk⟩ := hk
  rcases g8 : k_here r4 (M.1 56) with ⟨v9, r10⟩
  try simp only [g8] at hk
  have t11 : GM z mX12_here (d + 2) [.ref 54] (mrow M 54 r4) (fun rs => rs = .inl (some (.int v9), mrow M 54 r10)) := by
    have q9 := c_k_here_54 z (d + 2) (mrow M 54 r4) k7
    try simp only [mput, mrow_same, mrow_hit, mrow_miss, mrow_sw, idr_eq, ne_eq, Nat.reduceEqDiff, not_false_eq_true, Nat.reduceLT, reduceCtorEq, g8] at q9
    exact q9
  refine G.callV (as := []) (rest := []) (a := 54) oX12_here lk_EvenFindersModel_113 (by decide +kernel) rfl rfl ⟨rfl, rfl⟩ (Nat.le_of_ble_eq_true rfl) rfl ⟨Nat.le_of_ble_eq_true rfl, Nat.le_of_ble_eq_true rfl⟩ t11 (fun v9 N9 h12 => ?_) (fun E9 N9 h12 => by cases h12)
  cases h12
  show G z mX12_readRoad (d + 3) 0 0 9 [some (.ref 54), some (.int v3), none, none] [.int v9] (mrow M 54 r10) Q
  refine G.sl [(.pop, 1, 0, 0, 0, 0), (.aload_n 0, 1, 0, 0, 0, 0), (.getfield 107, 3, 11, 4, 127, 0), (.istore_n 2, 1, 2, 0, 0, 0), (.aload_n 0, 1, 0, 0, 0, 0)] [] (pc2 := 16) (ls2 := [some (.ref 54), some (.int v3), some (.int (r10 4)), none]) (st2 := [.ref 54]) (M2 := mrow M 54 r10) (Ps := []) (by decide +kernel) rfl rfl trivial ?_
  obtain ⟨k13, hk⟩ := hk
  rcases g14 : k_readPlace r10 (M.1 56) with ⟨v15, r16⟩
  try simp only [g14] at hk
  have t17 : GM z mX12_readPlace (d + 2) [.ref 54] (mrow M 54 r10) (fun rs => rs = .inl (some (.int v15), mrow M 54 r16)) := by
    have q9 := c_k_readPlace_54 z d (mrow M 54 r10) k13
    try simp only [mput, mrow_same, mrow_hit, mrow_miss, mrow_sw, idr_eq, ne_eq, Nat.reduceEqDiff, not_false_eq_true, Nat.reduceLT, reduceCtorEq, g14] at q9
    exact q9
  refine G.callV (as := []) (rest := []) (a := 54) oX12_readPlace lk_EvenFindersModel_194 (by decide +kernel) rfl rfl ⟨rfl, rfl⟩ (Nat.le_of_ble_eq_true rfl) rfl ⟨Nat.le_of_ble_eq_true rfl, Nat.le_of_ble_eq_true rfl⟩ t17 (fun v9 N9 h18 => ?_) (fun E9 N9 h18 => by cases h18)
  cases h18
  show G z mX12_readRoad (d + 3) 0 0 19 [some (.ref 54), some (.int v3), some (.int (r10 4)), none] [.int v15] (mrow M 54 r16) Q
  refine G.sl [(.istore_n 3, 1, 3, 0, 0, 0), (.aload_n 0, 1, 0, 0, 0, 0)] [] (pc2 := 21) (ls2 := [some (.ref 54), some (.int v3), some (.int (r10 4)), some (.int v15)]) (st2 := [.ref 54]) (M2 := mrow M 54 r16) (Ps := []) (by decide +kernel) rfl rfl trivial ?_
  obtain ⟨k19, hk⟩ := hk
  have t20 : GM z mX12_fine (d + 2) [.ref 54] (mrow M 54 r16) (fun rs => rs = .inl (some (.int (k_fine r16)), mrow M 54 r16)) := by
    have q9 := c_k_fine_54 z (d + 2) (mrow M 54 r16) 
    try simp only [mput, mrow_same, mrow_hit, mrow_miss, mrow_sw, idr_eq, ne_eq, Nat.reduceEqDiff, not_false_eq_true, Nat.reduceLT, reduceCtorEq] at q9
    exact q9
  refine G.callV (as := []) (rest := []) (a := 54) oX12_fine lk_EvenFindersModel_130 (by decide +kernel) rfl rfl ⟨rfl, rfl⟩ (Nat.le_of_ble_eq_true rfl) rfl ⟨Nat.le_of_ble_eq_true rfl, Nat.le_of_ble_eq_true rfl⟩ t20 (fun v9 N9 h21 => ?_) (fun E9 N9 h21 => by cases h21)
  cases h21
  show G z mX12_readRoad (d + 3) 0 0 24 [some (.ref 54), some (.int v3), some (.int (r10 4)), some (.int v15)] [.int (k_fine r16)] (mrow M 54 r16) Q
  refine G.if_eq (off := (14)) (tgt := 38) (by decide +kernel) rfl (fun c22 => ?_) (fun c22 => ?_)
  · skip
    rw [if_pos c22] at hk
    obtain ⟨k23, k24, k25, hk⟩ := hk
    refine G.sl [(.aload_n 0, 1, 0, 0, 0, 0), (.getfield 23, 3, 11, 10, 133, 0), (.iconst 3, 1, 0, 0, 0, nI 3), (.aload_n 0, 1, 0, 0, 0, 0), (.getfield 147, 3, 11, 17, 140, 0), (.imul, 1, 0, 0, 0, 0), (.iload_n 1, 1, 1, 0, 0, 0), (.iastore, 1, 0, 0, 0, 0), (.aload_n 0, 1, 0, 0, 0, 0), (.getfield 23, 3, 11, 10, 133, 0), (.iconst 3, 1, 0, 0, 0, nI 3), (.aload_n 0, 1, 0, 0, 0, 0), (.getfield 147, 3, 11, 17, 140, 0), (.imul, 1, 0, 0, 0, 0), (.iconst 1, 1, 0, 0, 0, nI 1), (.iadd, 1, 0, 0, 0, 0), (.iload_n 3, 1, 3, 0, 0, 0), (.iastore, 1, 0, 0, 0, 0), (.aload_n 0, 1, 0, 0, 0, 0), (.getfield 23, 3, 11, 10, 133, 0), (.iconst 3, 1, 0, 0, 0, nI 3), (.aload_n 0, 1, 0, 0, 0, 0), (.getfield 147, 3, 11, 17, 140, 0), (.imul, 1, 0, 0, 0, 0), (.iconst 2, 1, 0, 0, 0, nI 2), (.iadd, 1, 0, 0, 0, 0), (.aload_n 0, 1, 0, 0, 0, 0), (.iconst 1, 1, 0, 0, 0, nI 1), (.bipush 9, 2, 0, 0, 0, nI 9)] [3 * (ix (r16 17)), (3 * (ix (r16 17))) + 1] (pc2 := 80) (ls2 := [some (.ref 54), some (.int v3), some (.int (r10 4)), some (.int v15)]) (st2 := [.int (nI 9), .int (nI 1), .ref 54, .int (((nI 3) * (r16 17)) + (nI 2)), .ref 57]) (M2 := mput (mput (mrow M 54 r16) 57 (3 * (ix (r16 17))) v3) 57 ((3 * (ix (r16 17))) + 1) v15) (Ps := [((nI 3) * (r16 17)) = nI (3 * (ix (r16 17))) ∧ (3 * (ix (r16 17))) < 36, (((nI 3) * (r16 17)) + (nI 1)) = nI ((3 * (ix (r16 17))) + 1) ∧ ((3 * (ix (r16 17))) + 1) < 36]) (by decide +kernel) rfl rfl ⟨⟨(nMul rfl (ixE k23)), k24⟩, ⟨(nAdd (nMul rfl (ixE k23)) rfl), k25⟩, trivial⟩ ?_
    refine G.mem (M' := mrow (mrow M 54 r16) 57 (upd (upd (M.1 57) (3 * (ix (r16 17))) v3) ((3 * (ix (r16 17))) + 1) v15)) (by first | rfl | (simp only [mput, mrow_same, mrow_hit, mrow_miss, mrow_sw, idr_eq, ne_eq, Nat.reduceEqDiff, not_false_eq_true, Nat.reduceLT, reduceCtorEq]; done)) ?_
    obtain ⟨k26, hk⟩ := hk
    rcases g27 : k_readNumber r16 (M.1 56) (nI 1) (nI 9) with ⟨v28, r29⟩
    try simp only [g27] at hk
    have t30 : GM z mX12_readNumber (d + 2) [.ref 54, .int (nI 1), .int (nI 9)] (mrow (mrow M 54 r16) 57 (upd (upd (M.1 57) (3 * (ix (r16 17))) v3) ((3 * (ix (r16 17))) + 1) v15)) (fun rs => rs = .inl (some (.int v28), mrow (mrow M 54 r29) 57 (upd (upd (M.1 57) (3 * (ix (r16 17))) v3) ((3 * (ix (r16 17))) + 1) v15))) := by
      have q9 := c_k_readNumber_54 z (d + 1) (mrow (mrow M 54 r16) 57 (upd (upd (M.1 57) (3 * (ix (r16 17))) v3) ((3 * (ix (r16 17))) + 1) v15)) (nI 1) (nI 9) k26
      try simp only [mput, mrow_same, mrow_hit, mrow_miss, mrow_sw, idr_eq, ne_eq, Nat.reduceEqDiff, not_false_eq_true, Nat.reduceLT, reduceCtorEq, g27] at q9
      exact q9
    refine G.callV (as := [.int (nI 1), .int (nI 9)]) (rest := [.int (((nI 3) * (r16 17)) + (nI 2)), .ref 57]) (a := 54) oX12_readNumber lk_EvenFindersModel_190 (by decide +kernel) rfl rfl ⟨rfl, rfl⟩ (Nat.le_of_ble_eq_true rfl) rfl ⟨Nat.le_of_ble_eq_true rfl, Nat.le_of_ble_eq_true rfl⟩ t30 (fun v9 N9 h31 => ?_) (fun E9 N9 h31 => by cases h31)
    cases h31
    show G z mX12_readRoad (d + 3) 0 0 83 [some (.ref 54), some (.int v3), some (.int (r10 4)), some (.int v15)] [.int v28, .int (((nI 3) * (r16 17)) + (nI 2)), .ref 57] (mrow (mrow M 54 r29) 57 (upd (upd (M.1 57) (3 * (ix (r16 17))) v3) ((3 * (ix (r16 17))) + 1) v15)) Q
    obtain ⟨k32, hk⟩ := hk
    refine G.sl [(.iastore, 1, 0, 0, 0, 0), (.aload_n 0, 1, 0, 0, 0, 0), (.dup, 1, 0, 0, 0, 0), (.getfield 147, 3, 11, 17, 140, 0), (.iconst 1, 1, 0, 0, 0, nI 1), (.iadd, 1, 0, 0, 0, 0), (.putfield 147, 3, 11, 17, 140, 0)] [(3 * (ix (r16 17))) + 2] (pc2 := 94) (ls2 := [some (.ref 54), some (.int v3), some (.int (r10 4)), some (.int v15)]) (st2 := []) (M2 := mput (mput (mrow (mrow M 54 r29) 57 (upd (upd (M.1 57) (3 * (ix (r16 17))) v3) ((3 * (ix (r16 17))) + 1) v15)) 57 ((3 * (ix (r16 17))) + 2) v28) 54 17 ((r29 17) + (nI 1))) (Ps := [(((nI 3) * (r16 17)) + (nI 2)) = nI ((3 * (ix (r16 17))) + 2) ∧ ((3 * (ix (r16 17))) + 2) < 36]) (by decide +kernel) rfl rfl ⟨⟨(nAdd (nMul rfl (ixE k23)) rfl), k32⟩, trivial⟩ ?_
    refine G.mem (M' := mrow (mrow M 54 (upd r29 17 ((r29 17) + (nI 1)))) 57 (upd (upd (upd (M.1 57) (3 * (ix (r16 17))) v3) ((3 * (ix (r16 17))) + 1) v15) ((3 * (ix (r16 17))) + 2) v28)) (by first | rfl | (simp only [mput, mrow_same, mrow_hit, mrow_miss, mrow_sw, idr_eq, ne_eq, Nat.reduceEqDiff, not_false_eq_true, Nat.reduceLT, reduceCtorEq]; done)) ?_
    exact G.retv (by decide +kernel) rfl (Nat.le_of_ble_eq_true rfl) (Nat.le_of_ble_eq_true rfl) ((by rw [hQ]; simp only [k_readRoad, g2, g8, g14, if_pos c22, g27, mrow_self]))
  · skip
    rw [if_neg c22] at hk
    refine G.sl [(.iload_n 1, 1, 1, 0, 0, 0), (.iload_n 3, 1, 3, 0, 0, 0)] [] (pc2 := 29) (ls2 := [some (.ref 54), some (.int v3), some (.int (r10 4)), some (.int v15)]) (st2 := [.int v15, .int v3]) (M2 := mrow M 54 r16) (Ps := []) (by decide +kernel) rfl rfl trivial ?_
    refine G.ic_ne (off := (9)) (tgt := 38) (by decide +kernel) rfl (fun c33 => ?_) (fun c33 => ?_)
    · skip
      rw [if_neg c33] at hk
      obtain ⟨k34, k35, k36, hk⟩ := hk
      refine G.sl [(.aload_n 0, 1, 0, 0, 0, 0), (.getfield 23, 3, 11, 10, 133, 0), (.iconst 3, 1, 0, 0, 0, nI 3), (.aload_n 0, 1, 0, 0, 0, 0), (.getfield 147, 3, 11, 17, 140, 0), (.imul, 1, 0, 0, 0, 0), (.iload_n 1, 1, 1, 0, 0, 0), (.iastore, 1, 0, 0, 0, 0), (.aload_n 0, 1, 0, 0, 0, 0), (.getfield 23, 3, 11, 10, 133, 0), (.iconst 3, 1, 0, 0, 0, nI 3), (.aload_n 0, 1, 0, 0, 0, 0), (.getfield 147, 3, 11, 17, 140, 0), (.imul, 1, 0, 0, 0, 0), (.iconst 1, 1, 0, 0, 0, nI 1), (.iadd, 1, 0, 0, 0, 0), (.iload_n 3, 1, 3, 0, 0, 0), (.iastore, 1, 0, 0, 0, 0), (.aload_n 0, 1, 0, 0, 0, 0), (.getfield 23, 3, 11, 10, 133, 0), (.iconst 3, 1, 0, 0, 0, nI 3), (.aload_n 0, 1, 0, 0, 0, 0), (.getfield 147, 3, 11, 17, 140, 0), (.imul, 1, 0, 0, 0, 0), (.iconst 2, 1, 0, 0, 0, nI 2), (.iadd, 1, 0, 0, 0, 0), (.aload_n 0, 1, 0, 0, 0, 0), (.iconst 1, 1, 0, 0, 0, nI 1), (.bipush 9, 2, 0, 0, 0, nI 9)] [3 * (ix (r16 17)), (3 * (ix (r16 17))) + 1] (pc2 := 80) (ls2 := [some (.ref 54), some (.int v3), some (.int (r10 4)), some (.int v15)]) (st2 := [.int (nI 9), .int (nI 1), .ref 54, .int (((nI 3) * (r16 17)) + (nI 2)), .ref 57]) (M2 := mput (mput (mrow M 54 r16) 57 (3 * (ix (r16 17))) v3) 57 ((3 * (ix (r16 17))) + 1) v15) (Ps := [((nI 3) * (r16 17)) = nI (3 * (ix (r16 17))) ∧ (3 * (ix (r16 17))) < 36, (((nI 3) * (r16 17)) + (nI 1)) = nI ((3 * (ix (r16 17))) + 1) ∧ ((3 * (ix (r16 17))) + 1) < 36]) (by decide +kernel) rfl rfl ⟨⟨(nMul rfl (ixE k34)), k35⟩, ⟨(nAdd (nMul rfl (ixE k34)) rfl), k36⟩, trivial⟩ ?_
      refine G.mem (M' := mrow (mrow M 54 r16) 57 (upd (upd (M.1 57) (3 * (ix (r16 17))) v3) ((3 * (ix (r16 17))) + 1) v15)) (by first | rfl | (simp only [mput, mrow_same, mrow_hit, mrow_miss, mrow_sw, idr_eq, ne_eq, Nat.reduceEqDiff, not_false_eq_true, Nat.reduceLT, reduceCtorEq]; done)) ?_
      obtain ⟨k37, hk⟩ := hk
      rcases g38 : k_readNumber r16 (M.1 56) (nI 1) (nI 9) with ⟨v39, r40⟩
      try simp only [g38] at hk
      have t41 : GM z mX12_readNumber (d + 2) [.ref 54, .int (nI 1), .int (nI 9)] (mrow (mrow M 54 r16) 57 (upd (upd (M.1 57) (3 * (ix (r16 17))) v3) ((3 * (ix (r16 17))) + 1) v15)) (fun rs => rs = .inl (some (.int v39), mrow (mrow M 54 r40) 57 (upd (upd (M.1 57) (3 * (ix (r16 17))) v3) ((3 * (ix (r16 17))) + 1) v15))) := by
        have q9 := c_k_readNumber_54 z (d + 1) (mrow (mrow M 54 r16) 57 (upd (upd (M.1 57) (3 * (ix (r16 17))) v3) ((3 * (ix (r16 17))) + 1) v15)) (nI 1) (nI 9) k37
        try simp only [mput, mrow_same, mrow_hit, mrow_miss, mrow_sw, idr_eq, ne_eq, Nat.reduceEqDiff, not_false_eq_true, Nat.reduceLT, reduceCtorEq, g38] at q9
        exact q9
      refine G.callV (as := [.int (nI 1), .int (nI 9)]) (rest := [.int (((nI 3) * (r16 17)) + (nI 2)), .ref 57]) (a := 54) oX12_readNumber lk_EvenFindersModel_190 (by decide +kernel) rfl rfl ⟨rfl, rfl⟩ (Nat.le_of_ble_eq_true rfl) rfl ⟨Nat.le_of_ble_eq_true rfl, Nat.le_of_ble_eq_true rfl⟩ t41 (fun v9 N9 h42 => ?_) (fun E9 N9 h42 => by cases h42)
      cases h42
      show G z mX12_readRoad (d + 3) 0 0 83 [some (.ref 54), some (.int v3), some (.int (r10 4)), some (.int v15)] [.int v39, .int (((nI 3) * (r16 17)) + (nI 2)), .ref 57] (mrow (mrow M 54 r40) 57 (upd (upd (M.1 57) (3 * (ix (r16 17))) v3) ((3 * (ix (r16 17))) + 1) v15)) Q
      obtain ⟨k43, hk⟩ := hk
      refine G.sl [(.iastore, 1, 0, 0, 0, 0), (.aload_n 0, 1, 0, 0, 0, 0), (.dup, 1, 0, 0, 0, 0), (.getfield 147, 3, 11, 17, 140, 0), (.iconst 1, 1, 0, 0, 0, nI 1), (.iadd, 1, 0, 0, 0, 0), (.putfield 147, 3, 11, 17, 140, 0)] [(3 * (ix (r16 17))) + 2] (pc2 := 94) (ls2 := [some (.ref 54), some (.int v3), some (.int (r10 4)), some (.int v15)]) (st2 := []) (M2 := mput (mput (mrow (mrow M 54 r40) 57 (upd (upd (M.1 57) (3 * (ix (r16 17))) v3) ((3 * (ix (r16 17))) + 1) v15)) 57 ((3 * (ix (r16 17))) + 2) v39) 54 17 ((r40 17) + (nI 1))) (Ps := [(((nI 3) * (r16 17)) + (nI 2)) = nI ((3 * (ix (r16 17))) + 2) ∧ ((3 * (ix (r16 17))) + 2) < 36]) (by decide +kernel) rfl rfl ⟨⟨(nAdd (nMul rfl (ixE k34)) rfl), k43⟩, trivial⟩ ?_
      refine G.mem (M' := mrow (mrow M 54 (upd r40 17 ((r40 17) + (nI 1)))) 57 (upd (upd (upd (M.1 57) (3 * (ix (r16 17))) v3) ((3 * (ix (r16 17))) + 1) v15) ((3 * (ix (r16 17))) + 2) v39)) (by first | rfl | (simp only [mput, mrow_same, mrow_hit, mrow_miss, mrow_sw, idr_eq, ne_eq, Nat.reduceEqDiff, not_false_eq_true, Nat.reduceLT, reduceCtorEq]; done)) ?_
      exact G.retv (by decide +kernel) rfl (Nat.le_of_ble_eq_true rfl) (Nat.le_of_ble_eq_true rfl) ((by rw [hQ]; simp only [k_readRoad, g2, g8, g14, if_neg c22, if_neg c33, g38, mrow_self]))
    · skip
      rw [if_pos c33] at hk
      refine G.sl [(.aload_n 0, 1, 0, 0, 0, 0), (.iconst 2, 1, 0, 0, 0, nI 2), (.iload_n 2, 1, 2, 0, 0, 0)] [] (pc2 := 35) (ls2 := [some (.ref 54), some (.int v3), some (.int (r10 4)), some (.int v15)]) (st2 := [.int (r10 4), .int (nI 2), .ref 54]) (M2 := mrow M 54 r16) (Ps := []) (by decide +kernel) rfl rfl trivial ?_
      obtain ⟨k44, hk⟩ := hk
      rcases g45 : k_wrong r16 (nI 2) (r10 4) with ⟨u46, r47⟩
      try simp only [g45] at hk
      have t48 : GM z mX12_wrong (d + 2) [.ref 54, .int (nI 2), .int (r10 4)] (mrow M 54 r16) (fun rs => rs = .inl (none, mrow M 54 r47)) := by
        have q9 := c_k_wrong_54 z (d + 2) (mrow M 54 r16) (nI 2) (r10 4)
        try simp only [mput, mrow_same, mrow_hit, mrow_miss, mrow_sw, idr_eq, ne_eq, Nat.reduceEqDiff, not_false_eq_true, Nat.reduceLT, reduceCtorEq, g45] at q9
        exact q9
      refine G.callV (as := [.int (nI 2), .int (r10 4)]) (rest := []) (a := 54) oX12_wrong lk_EvenFindersModel_137 (by decide +kernel) rfl rfl ⟨rfl, rfl⟩ (Nat.le_of_ble_eq_true rfl) rfl ⟨Nat.le_of_ble_eq_true rfl, Nat.le_of_ble_eq_true rfl⟩ t48 (fun v9 N9 h49 => ?_) (fun E9 N9 h49 => by cases h49)
      cases h49
      show G z mX12_readRoad (d + 3) 0 0 38 [some (.ref 54), some (.int v3), some (.int (r10 4)), some (.int v15)] [] (mrow M 54 r47) Q
      obtain ⟨k50, k51, k52, hk⟩ := hk
      refine G.sl [(.aload_n 0, 1, 0, 0, 0, 0), (.getfield 23, 3, 11, 10, 133, 0), (.iconst 3, 1, 0, 0, 0, nI 3), (.aload_n 0, 1, 0, 0, 0, 0), (.getfield 147, 3, 11, 17, 140, 0), (.imul, 1, 0, 0, 0, 0), (.iload_n 1, 1, 1, 0, 0, 0), (.iastore, 1, 0, 0, 0, 0), (.aload_n 0, 1, 0, 0, 0, 0), (.getfield 23, 3, 11, 10, 133, 0), (.iconst 3, 1, 0, 0, 0, nI 3), (.aload_n 0, 1, 0, 0, 0, 0), (.getfield 147, 3, 11, 17, 140, 0), (.imul, 1, 0, 0, 0, 0), (.iconst 1, 1, 0, 0, 0, nI 1), (.iadd, 1, 0, 0, 0, 0), (.iload_n 3, 1, 3, 0, 0, 0), (.iastore, 1, 0, 0, 0, 0), (.aload_n 0, 1, 0, 0, 0, 0), (.getfield 23, 3, 11, 10, 133, 0), (.iconst 3, 1, 0, 0, 0, nI 3), (.aload_n 0, 1, 0, 0, 0, 0), (.getfield 147, 3, 11, 17, 140, 0), (.imul, 1, 0, 0, 0, 0), (.iconst 2, 1, 0, 0, 0, nI 2), (.iadd, 1, 0, 0, 0, 0), (.aload_n 0, 1, 0, 0, 0, 0), (.iconst 1, 1, 0, 0, 0, nI 1), (.bipush 9, 2, 0, 0, 0, nI 9)] [3 * (ix (r47 17)), (3 * (ix (r47 17))) + 1] (pc2 := 80) (ls2 := [some (.ref 54), some (.int v3), some (.int (r10 4)), some (.int v15)]) (st2 := [.int (nI 9), .int (nI 1), .ref 54, .int (((nI 3) * (r47 17)) + (nI 2)), .ref 57]) (M2 := mput (mput (mrow M 54 r47) 57 (3 * (ix (r47 17))) v3) 57 ((3 * (ix (r47 17))) + 1) v15) (Ps := [((nI 3) * (r47 17)) = nI (3 * (ix (r47 17))) ∧ (3 * (ix (r47 17))) < 36, (((nI 3) * (r47 17)) + (nI 1)) = nI ((3 * (ix (r47 17))) + 1) ∧ ((3 * (ix (r47 17))) + 1) < 36]) (by decide +kernel) rfl rfl ⟨⟨(nMul rfl (ixE k50)), k51⟩, ⟨(nAdd (nMul rfl (ixE k50)) rfl), k52⟩, trivial⟩ ?_
      refine G.mem (M' := mrow (mrow M 54 r47) 57 (upd (upd (M.1 57) (3 * (ix (r47 17))) v3) ((3 * (ix (r47 17))) + 1) v15)) (by first | rfl | (simp only [mput, mrow_same, mrow_hit, mrow_miss, mrow_sw, idr_eq, ne_eq, Nat.reduceEqDiff, not_false_eq_true, Nat.reduceLT, reduceCtorEq]; done)) ?_
      obtain ⟨k53, hk⟩ := hk
      rcases g54 : k_readNumber r47 (M.1 56) (nI 1) (nI 9) with ⟨v55, r56⟩
      try simp only [g54] at hk
      have t57 : GM z mX12_readNumber (d + 2) [.ref 54, .int (nI 1), .int (nI 9)] (mrow (mrow M 54 r47) 57 (upd (upd (M.1 57) (3 * (ix (r47 17))) v3) ((3 * (ix (r47 17))) + 1) v15)) (fun rs => rs = .inl (some (.int v55), mrow (mrow M 54 r56) 57 (upd (upd (M.1 57) (3 * (ix (r47 17))) v3) ((3 * (ix (r47 17))) + 1) v15))) := by
        have q9 := c_k_readNumber_54 z (d + 1) (mrow (mrow M 54 r47) 57 (upd (upd (M.1 57) (3 * (ix (r47 17))) v3) ((3 * (ix (r47 17))) + 1) v15)) (nI 1) (nI 9) k53
        try simp only [mput, mrow_same, mrow_hit, mrow_miss, mrow_sw, idr_eq, ne_eq, Nat.reduceEqDiff, not_false_eq_true, Nat.reduceLT, reduceCtorEq, g54] at q9
        exact q9
      refine G.callV (as := [.int (nI 1), .int (nI 9)]) (rest := [.int (((nI 3) * (r47 17)) + (nI 2)), .ref 57]) (a := 54) oX12_readNumber lk_EvenFindersModel_190 (by decide +kernel) rfl rfl ⟨rfl, rfl⟩ (Nat.le_of_ble_eq_true rfl) rfl ⟨Nat.le_of_ble_eq_true rfl, Nat.le_of_ble_eq_true rfl⟩ t57 (fun v9 N9 h58 => ?_) (fun E9 N9 h58 => by cases h58)
      cases h58
      show G z mX12_readRoad (d + 3) 0 0 83 [some (.ref 54), some (.int v3), some (.int (r10 4)), some (.int v15)] [.int v55, .int (((nI 3) * (r47 17)) + (nI 2)), .ref 57] (mrow (mrow M 54 r56) 57 (upd (upd (M.1 57) (3 * (ix (r47 17))) v3) ((3 * (ix (r47 17))) + 1) v15)) Q
      obtain ⟨k59, hk⟩ := hk
      refine G.sl [(.iastore, 1, 0, 0, 0, 0), (.aload_n 0, 1, 0, 0, 0, 0), (.dup, 1, 0, 0, 0, 0), (.getfield 147, 3, 11, 17, 140, 0), (.iconst 1, 1, 0, 0, 0, nI 1), (.iadd, 1, 0, 0, 0, 0), (.putfield 147, 3, 11, 17, 140, 0)] [(3 * (ix (r47 17))) + 2] (pc2 := 94) (ls2 := [some (.ref 54), some (.int v3), some (.int (r10 4)), some (.int v15)]) (st2 := []) (M2 := mput (mput (mrow (mrow M 54 r56) 57 (upd (upd (M.1 57) (3 * (ix (r47 17))) v3) ((3 * (ix (r47 17))) + 1) v15)) 57 ((3 * (ix (r47 17))) + 2) v55) 54 17 ((r56 17) + (nI 1))) (Ps := [(((nI 3) * (r47 17)) + (nI 2)) = nI ((3 * (ix (r47 17))) + 2) ∧ ((3 * (ix (r47 17))) + 2) < 36]) (by decide +kernel) rfl rfl ⟨⟨(nAdd (nMul rfl (ixE k50)) rfl), k59⟩, trivial⟩ ?_
      refine G.mem (M' := mrow (mrow M 54 (upd r56 17 ((r56 17) + (nI 1)))) 57 (upd (upd (upd (M.1 57) (3 * (ix (r47 17))) v3) ((3 * (ix (r47 17))) + 1) v15) ((3 * (ix (r47 17))) + 2) v55)) (by first | rfl | (simp only [mput, mrow_same, mrow_hit, mrow_miss, mrow_sw, idr_eq, ne_eq, Nat.reduceEqDiff, not_false_eq_true, Nat.reduceLT, reduceCtorEq]; done)) ?_
      exact G.retv (by decide +kernel) rfl (Nat.le_of_ble_eq_true rfl) (Nat.le_of_ble_eq_true rfl) ((by rw [hQ]; simp only [k_readRoad, g2, g8, g14, if_neg c22, if_pos c33, g45, g54, mrow_self]))
set_option maxHeartbeats 4000000 in
set_option maxRecDepth 3000 in
theorem c_k_readPlaces_54 (z : Zp) (d : Nat) (M : Mem) (hk : k_readPlaces_ok (M.1 54) (M.1 56)) : GM z mX12_readPlaces (d + 2) [.ref 54] M (fun rs => rs = .inl (none, mrow M 54 ((k_readPlaces (M.1 54) (M.1 56)).2))) := by
  simp only [k_readPlaces_ok] at hk
  refine GM.of oX12_readPlaces.1 (Nat.le_of_ble_eq_true rfl) ?_
  show G z mX12_readPlaces (d + 2) 0 0 0 [some (.ref 54), none, none] [] M _
  obtain ⟨Q, hQ⟩ : ∃ Q : Rs → Prop, Q = (fun rs => rs = .inl (none, mrow M 54 ((k_readPlaces (M.1 54) (M.1 56)).2))) := ⟨_, rfl⟩
  rw [← hQ]
  refine G.sl [(.aload_n 0, 1, 0, 0, 0, 0)] [] (pc2 := 1) (ls2 := [some (.ref 54), none, none]) (st2 := [.ref 54]) (M2 := M) (Ps := []) (by decide +kernel) rfl rfl trivial ?_
  obtain ⟨k1, hk⟩ := hk
  rcases g2 : k_here (M.1 54) (M.1 56) with ⟨v3, r4⟩
  try simp only [g2] at hk
  have t5 : GM z mX12_here (d + 1) [.ref 54] M (fun rs => rs = .inl (some (.int v3), mrow M 54 r4)) := by
    have q9 := c_k_here_54 z (d + 1) M k1
    try simp only [mput, mrow_same, mrow_hit, mrow_miss, mrow_sw, idr_eq, ne_eq, Nat.reduceEqDiff, not_false_eq_true, Nat.reduceLT, reduceCtorEq, g2] at q9
    exact q9
  refine G.callV (as := []) (rest := []) (a := 54) oX12_here lk_EvenFindersModel_113 (by decide +kernel) rfl rfl ⟨rfl, rfl⟩ (Nat.le_of_ble_eq_true rfl) rfl ⟨Nat.le_of_ble_eq_true rfl, Nat.le_of_ble_eq_true rfl⟩ t5 (fun v9 N9 h6 => ?_) (fun E9 N9 h6 => by cases h6)
  cases h6
  show G z mX12_readPlaces (d + 2) 0 0 4 [some (.ref 54), none, none] [.int v3] (mrow M 54 r4) Q
  refine G.sl [(.pop, 1, 0, 0, 0, 0), (.aload_n 0, 1, 0, 0, 0, 0), (.getfield 107, 3, 11, 4, 127, 0), (.istore_n 1, 1, 1, 0, 0, 0), (.aload_n 0, 1, 0, 0, 0, 0), (.iconst 1, 1, 0, 0, 0, nI 1), (.bipush 8, 2, 0, 0, 0, nI 8)] [] (pc2 := 14) (ls2 := [some (.ref 54), some (.int (r4 4)), none]) (st2 := [.int (nI 8), .int (nI 1), .ref 54]) (M2 := mrow M 54 r4) (Ps := []) (by decide +kernel) rfl rfl trivial ?_
  obtain ⟨k7, hk⟩ := hk
  rcases g8 : k_readNumber r4 (M.1 56) (nI 1) (nI 8) with ⟨v9, r10⟩
  have t11 : GM z mX12_readNumber (d + 1) [.ref 54, .int (nI 1), .int (nI 8)] (mrow M 54 r4) (fun rs => rs = .inl (some (.int v9), mrow M 54 r10)) := by
    have q9 := c_k_readNumber_54 z d (mrow M 54 r4) (nI 1) (nI 8) k7
    try simp only [mput, mrow_same, mrow_hit, mrow_miss, mrow_sw, idr_eq, ne_eq, Nat.reduceEqDiff, not_false_eq_true, Nat.reduceLT, reduceCtorEq, g8] at q9
    exact q9
  refine G.callV (as := [.int (nI 1), .int (nI 8)]) (rest := []) (a := 54) oX12_readNumber lk_EvenFindersModel_190 (by decide +kernel) rfl rfl ⟨rfl, rfl⟩ (Nat.le_of_ble_eq_true rfl) rfl ⟨Nat.le_of_ble_eq_true rfl, Nat.le_of_ble_eq_true rfl⟩ t11 (fun v9 N9 h12 => ?_) (fun E9 N9 h12 => by cases h12)
  cases h12
  show G z mX12_readPlaces (d + 2) 0 0 17 [some (.ref 54), some (.int (r4 4)), none] [.int v9] (mrow M 54 r10) Q
  refine G.sl [(.istore_n 2, 1, 2, 0, 0, 0), (.aload_n 0, 1, 0, 0, 0, 0)] [] (pc2 := 19) (ls2 := [some (.ref 54), some (.int (r4 4)), some (.int v9)]) (st2 := [.ref 54]) (M2 := mrow M 54 r10) (Ps := []) (by decide +kernel) rfl rfl trivial ?_
  have t14 : GM z mX12_fine (d + 1) [.ref 54] (mrow M 54 r10) (fun rs => rs = .inl (some (.int (k_fine r10)), mrow M 54 r10)) := by
    have q9 := c_k_fine_54 z (d + 1) (mrow M 54 r10) 
    try simp only [mput, mrow_same, mrow_hit, mrow_miss, mrow_sw, idr_eq, ne_eq, Nat.reduceEqDiff, not_false_eq_true, Nat.reduceLT, reduceCtorEq] at q9
    exact q9
  refine G.callV (as := []) (rest := []) (a := 54) oX12_fine lk_EvenFindersModel_130 (by decide +kernel) rfl rfl ⟨rfl, rfl⟩ (Nat.le_of_ble_eq_true rfl) rfl ⟨Nat.le_of_ble_eq_true rfl, Nat.le_of_ble_eq_true rfl⟩ t14 (fun v9 N9 h15 => ?_) (fun E9 N9 h15 => by cases h15)
  cases h15
  show G z mX12_readPlaces (d + 2) 0 0 22 [some (.ref 54), some (.int (r4 4)), some (.int v9)] [.int (k_fine r10)] (mrow M 54 r10) Q
  refine G.if_eq (off := (20)) (tgt := 42) (by decide +kernel) rfl (fun c16 => ?_) (fun c16 => ?_)
  · skip
    refine G.sl [(.aload_n 0, 1, 0, 0, 0, 0)] [] (pc2 := 43) (ls2 := [some (.ref 54), some (.int (r4 4)), some (.int v9)]) (st2 := [.ref 54]) (M2 := mrow M 54 r10) (Ps := []) (by decide +kernel) rfl rfl trivial ?_
    have t18 : GM z mX12_fine (d + 1) [.ref 54] (mrow M 54 r10) (fun rs => rs = .inl (some (.int (k_fine r10)), mrow M 54 r10)) := by
      have q9 := c_k_fine_54 z (d + 1) (mrow M 54 r10) 
      try simp only [mput, mrow_same, mrow_hit, mrow_miss, mrow_sw, idr_eq, ne_eq, Nat.reduceEqDiff, not_false_eq_true, Nat.reduceLT, reduceCtorEq] at q9
      exact q9
    refine G.callV (as := []) (rest := []) (a := 54) oX12_fine lk_EvenFindersModel_130 (by decide +kernel) rfl rfl ⟨rfl, rfl⟩ (Nat.le_of_ble_eq_true rfl) rfl ⟨Nat.le_of_ble_eq_true rfl, Nat.le_of_ble_eq_true rfl⟩ t18 (fun v9 N9 h19 => ?_) (fun E9 N9 h19 => by cases h19)
    cases h19
    show G z mX12_readPlaces (d + 2) 0 0 46 [some (.ref 54), some (.int (r4 4)), some (.int v9)] [.int (k_fine r10)] (mrow M 54 r10) Q
    refine G.if_eq (off := (13)) (tgt := 59) (by decide +kernel) rfl (fun _ => ?_) (fun h9 => absurd c16 h9)
    exact G.retv (by decide +kernel) rfl (Nat.le_of_ble_eq_true rfl) (Nat.le_of_ble_eq_true rfl) ((by rw [hQ]; simp only [k_readPlaces, g2, g8, if_pos c16, mrow_self]))
  · skip
    refine G.sl [(.aload_n 0, 1, 0, 0, 0, 0), (.getfield 144, 3, 11, 16, 139, 0), (.iload_n 2, 1, 2, 0, 0, 0), (.iadd, 1, 0, 0, 0, 0), (.bipush 8, 2, 0, 0, 0, nI 8)] [] (pc2 := 33) (ls2 := [some (.ref 54), some (.int (r4 4)), some (.int v9)]) (st2 := [.int (nI 8), .int ((r10 16) + v9)]) (M2 := mrow M 54 r10) (Ps := []) (by decide +kernel) rfl rfl trivial ?_
    refine G.ic_le (off := (9)) (tgt := 42) (by decide +kernel) rfl (fun c20 => ?_) (fun c20 => ?_)
    · skip
      refine G.sl [(.aload_n 0, 1, 0, 0, 0, 0)] [] (pc2 := 43) (ls2 := [some (.ref 54), some (.int (r4 4)), some (.int v9)]) (st2 := [.ref 54]) (M2 := mrow M 54 r10) (Ps := []) (by decide +kernel) rfl rfl trivial ?_
      have t22 : GM z mX12_fine (d + 1) [.ref 54] (mrow M 54 r10) (fun rs => rs = .inl (some (.int (k_fine r10)), mrow M 54 r10)) := by
        have q9 := c_k_fine_54 z (d + 1) (mrow M 54 r10) 
        try simp only [mput, mrow_same, mrow_hit, mrow_miss, mrow_sw, idr_eq, ne_eq, Nat.reduceEqDiff, not_false_eq_true, Nat.reduceLT, reduceCtorEq] at q9
        exact q9
      refine G.callV (as := []) (rest := []) (a := 54) oX12_fine lk_EvenFindersModel_130 (by decide +kernel) rfl rfl ⟨rfl, rfl⟩ (Nat.le_of_ble_eq_true rfl) rfl ⟨Nat.le_of_ble_eq_true rfl, Nat.le_of_ble_eq_true rfl⟩ t22 (fun v9 N9 h23 => ?_) (fun E9 N9 h23 => by cases h23)
      cases h23
      show G z mX12_readPlaces (d + 2) 0 0 46 [some (.ref 54), some (.int (r4 4)), some (.int v9)] [.int (k_fine r10)] (mrow M 54 r10) Q
      refine G.if_eq (off := (13)) (tgt := 59) (by decide +kernel) rfl (fun h9 => absurd h9 c16) (fun _ => ?_)
      refine G.sl [(.aload_n 0, 1, 0, 0, 0, 0), (.dup, 1, 0, 0, 0, 0), (.getfield 144, 3, 11, 16, 139, 0), (.iload_n 2, 1, 2, 0, 0, 0), (.iadd, 1, 0, 0, 0, 0), (.putfield 144, 3, 11, 16, 139, 0)] [] (pc2 := 59) (ls2 := [some (.ref 54), some (.int (r4 4)), some (.int v9)]) (st2 := []) (M2 := mput (mrow M 54 r10) 54 16 ((r10 16) + v9)) (Ps := []) (by decide +kernel) rfl rfl trivial ?_
      refine G.mem (M' := mrow M 54 (upd r10 16 ((r10 16) + v9))) (by first | rfl | (simp only [mput, mrow_same, mrow_hit, mrow_miss, mrow_sw, idr_eq, ne_eq, Nat.reduceEqDiff, not_false_eq_true, Nat.reduceLT, reduceCtorEq]; done)) ?_
      exact G.retv (by decide +kernel) rfl (Nat.le_of_ble_eq_true rfl) (Nat.le_of_ble_eq_true rfl) ((by rw [hQ]; simp only [k_readPlaces, g2, g8, if_neg c16, if_pos c20, mrow_self]))
    · skip
      refine G.sl [(.aload_n 0, 1, 0, 0, 0, 0), (.iconst 2, 1, 0, 0, 0, nI 2), (.iload_n 1, 1, 1, 0, 0, 0)] [] (pc2 := 39) (ls2 := [some (.ref 54), some (.int (r4 4)), some (.int v9)]) (st2 := [.int (r4 4), .int (nI 2), .ref 54]) (M2 := mrow M 54 r10) (Ps := []) (by decide +kernel) rfl rfl trivial ?_
      rcases g25 : k_wrong r10 (nI 2) (r4 4) with ⟨u26, r27⟩
      have t28 : GM z mX12_wrong (d + 1) [.ref 54, .int (nI 2), .int (r4 4)] (mrow M 54 r10) (fun rs => rs = .inl (none, mrow M 54 r27)) := by
        have q9 := c_k_wrong_54 z (d + 1) (mrow M 54 r10) (nI 2) (r4 4)
        try simp only [mput, mrow_same, mrow_hit, mrow_miss, mrow_sw, idr_eq, ne_eq, Nat.reduceEqDiff, not_false_eq_true, Nat.reduceLT, reduceCtorEq, g25] at q9
        exact q9
      refine G.callV (as := [.int (nI 2), .int (r4 4)]) (rest := []) (a := 54) oX12_wrong lk_EvenFindersModel_137 (by decide +kernel) rfl rfl ⟨rfl, rfl⟩ (Nat.le_of_ble_eq_true rfl) rfl ⟨Nat.le_of_ble_eq_true rfl, Nat.le_of_ble_eq_true rfl⟩ t28 (fun v9 N9 h29 => ?_) (fun E9 N9 h29 => by cases h29)
      cases h29
      show G z mX12_readPlaces (d + 2) 0 0 42 [some (.ref 54), some (.int (r4 4)), some (.int v9)] [] (mrow M 54 r27) Q
      refine G.sl [(.aload_n 0, 1, 0, 0, 0, 0)] [] (pc2 := 43) (ls2 := [some (.ref 54), some (.int (r4 4)), some (.int v9)]) (st2 := [.ref 54]) (M2 := mrow M 54 r27) (Ps := []) (by decide +kernel) rfl rfl trivial ?_
      have t31 : GM z mX12_fine (d + 1) [.ref 54] (mrow M 54 r27) (fun rs => rs = .inl (some (.int (k_fine r27)), mrow M 54 r27)) := by
        have q9 := c_k_fine_54 z (d + 1) (mrow M 54 r27) 
        try simp only [mput, mrow_same, mrow_hit, mrow_miss, mrow_sw, idr_eq, ne_eq, Nat.reduceEqDiff, not_false_eq_true, Nat.reduceLT, reduceCtorEq] at q9
        exact q9
      refine G.callV (as := []) (rest := []) (a := 54) oX12_fine lk_EvenFindersModel_130 (by decide +kernel) rfl rfl ⟨rfl, rfl⟩ (Nat.le_of_ble_eq_true rfl) rfl ⟨Nat.le_of_ble_eq_true rfl, Nat.le_of_ble_eq_true rfl⟩ t31 (fun v9 N9 h32 => ?_) (fun E9 N9 h32 => by cases h32)
      cases h32
      show G z mX12_readPlaces (d + 2) 0 0 46 [some (.ref 54), some (.int (r4 4)), some (.int v9)] [.int (k_fine r27)] (mrow M 54 r27) Q
      refine G.if_eq (off := (13)) (tgt := 59) (by decide +kernel) rfl (fun c33 => ?_) (fun c33 => ?_)
      · skip
        exact G.retv (by decide +kernel) rfl (Nat.le_of_ble_eq_true rfl) (Nat.le_of_ble_eq_true rfl) ((by rw [hQ]; simp only [k_readPlaces, g2, g8, if_neg c16, if_neg c20, g25, if_pos c33, mrow_self]))
      · skip
        refine G.sl [(.aload_n 0, 1, 0, 0, 0, 0), (.dup, 1, 0, 0, 0, 0), (.getfield 144, 3, 11, 16, 139, 0), (.iload_n 2, 1, 2, 0, 0, 0), (.iadd, 1, 0, 0, 0, 0), (.putfield 144, 3, 11, 16, 139, 0)] [] (pc2 := 59) (ls2 := [some (.ref 54), some (.int (r4 4)), some (.int v9)]) (st2 := []) (M2 := mput (mrow M 54 r27) 54 16 ((r27 16) + v9)) (Ps := []) (by decide +kernel) rfl rfl trivial ?_
        refine G.mem (M' := mrow M 54 (upd r27 16 ((r27 16) + v9))) (by first | rfl | (simp only [mput, mrow_same, mrow_hit, mrow_miss, mrow_sw, idr_eq, ne_eq, Nat.reduceEqDiff, not_false_eq_true, Nat.reduceLT, reduceCtorEq]; done)) ?_
        exact G.retv (by decide +kernel) rfl (Nat.le_of_ble_eq_true rfl) (Nat.le_of_ble_eq_true rfl) ((by rw [hQ]; simp only [k_readPlaces, g2, g8, if_neg c16, if_neg c20, g25, if_neg c33, mrow_self]))
set_option maxHeartbeats 4000000 in
set_option maxRecDepth 3000 in
theorem c_k_readRow_54 (z : Zp) (d : Nat) (M : Mem) (x1 : Int32) (hk : k_readRow_ok (M.1 54) (M.1 56) (M.1 57) (M.1 58) (M.1 59) x1) : GM z mX12_readRow (d + 5) [.ref 54, .int x1] M (fun rs => rs = .inl (none, mrow (mrow (mrow (mrow M 54 ((k_readRow (M.1 54) (M.1 56) (M.1 57) (M.1 58) (M.1 59) x1).2.1)) 57 ((k_readRow (M.1 54) (M.1 56) (M.1 57) (M.1 58) (M.1 59) x1).2.2.1)) 58 ((k_readRow (M.1 54) (M.1 56) (M.1 57) (M.1 58) (M.1 59) x1).2.2.2.1)) 59 ((k_readRow (M.1 54) (M.1 56) (M.1 57) (M.1 58) (M.1 59) x1).2.2.2.2))) := by
  simp only [k_readRow_ok] at hk
  refine GM.of oX12_readRow.1 (Nat.le_of_ble_eq_true rfl) ?_
  show G z mX12_readRow (d + 5) 0 0 0 [some (.ref 54), some (.int x1), none, none] [] M _
  obtain ⟨Q, hQ⟩ : ∃ Q : Rs → Prop, Q = (fun rs => rs = .inl (none, mrow (mrow (mrow (mrow M 54 ((k_readRow (M.1 54) (M.1 56) (M.1 57) (M.1 58) (M.1 59) x1).2.1)) 57 ((k_readRow (M.1 54) (M.1 56) (M.1 57) (M.1 58) (M.1 59) x1).2.2.1)) 58 ((k_readRow (M.1 54) (M.1 56) (M.1 57) (M.1 58) (M.1 59) x1).2.2.2.1)) 59 ((k_readRow (M.1 54) (M.1 56) (M.1 57) (M.1 58) (M.1 59) x1).2.2.2.2))) := ⟨_, rfl⟩
  rw [← hQ]
  refine G.sl [(.iload_n 1, 1, 1, 0, 0, 0), (.ldc 197, 2, 1, 5, 0, 0)] [] (pc2 := 3) (ls2 := [some (.ref 54), some (.int x1), none, none]) (st2 := [.ref 1005, .int x1]) (M2 := M) (Ps := []) (by decide +kernel) rfl rfl trivial ?_
  obtain ⟨k1, hk⟩ := hk
  have t2 : GM z mX12_of (d + 4) [.ref 1005] M (fun rs => rs = .inl (some (.int k_of_s5), M)) := by
    have q9 := c_k_of_s5 z d M 
    try simp only [mput, mrow_same, mrow_hit, mrow_miss, mrow_sw, idr_eq, ne_eq, Nat.reduceEqDiff, not_false_eq_true, Nat.reduceLT, reduceCtorEq] at q9
    exact q9
  refine G.callS (as := [.ref 1005]) (rest := [.int x1]) oX12_of lk_EvenFindersModel_198 (by decide +kernel) rfl (Nat.le_of_ble_eq_true rfl) rfl ⟨Nat.le_of_ble_eq_true rfl, Nat.le_of_ble_eq_true rfl⟩ t2 (fun v9 N9 h3 => ?_) (fun E9 N9 h3 => by cases h3)
  cases h3
  show G z mX12_readRow (d + 5) 0 0 6 [some (.ref 54), some (.int x1), none, none] [.int k_of_s5, .int x1] M Q
  refine G.ic_ne (off := (10)) (tgt := 16) (by decide +kernel) rfl (fun c4 => ?_) (fun c4 => ?_)
  · skip
    rw [if_neg c4] at hk
    refine G.sl [(.iload_n 1, 1, 1, 0, 0, 0), (.ldc 202, 2, 1, 6, 0, 0)] [] (pc2 := 19) (ls2 := [some (.ref 54), some (.int x1), none, none]) (st2 := [.ref 1006, .int x1]) (M2 := M) (Ps := []) (by decide +kernel) rfl rfl trivial ?_
    obtain ⟨k5, hk⟩ := hk
    have t6 : GM z mX12_of (d + 4) [.ref 1006] M (fun rs => rs = .inl (some (.int k_of_s6), M)) := by
      have q9 := c_k_of_s6 z d M 
      try simp only [mput, mrow_same, mrow_hit, mrow_miss, mrow_sw, idr_eq, ne_eq, Nat.reduceEqDiff, not_false_eq_true, Nat.reduceLT, reduceCtorEq] at q9
      exact q9
    refine G.callS (as := [.ref 1006]) (rest := [.int x1]) oX12_of lk_EvenFindersModel_198 (by decide +kernel) rfl (Nat.le_of_ble_eq_true rfl) rfl ⟨Nat.le_of_ble_eq_true rfl, Nat.le_of_ble_eq_true rfl⟩ t6 (fun v9 N9 h7 => ?_) (fun E9 N9 h7 => by cases h7)
    cases h7
    show G z mX12_readRow (d + 5) 0 0 22 [some (.ref 54), some (.int x1), none, none] [.int k_of_s6, .int x1] M Q
    refine G.ic_ne (off := (10)) (tgt := 32) (by decide +kernel) rfl (fun c8 => ?_) (fun c8 => ?_)
    · skip
      rw [if_neg c8] at hk
      refine G.sl [(.iload_n 1, 1, 1, 0, 0, 0), (.ldc 204, 2, 1, 8, 0, 0)] [] (pc2 := 35) (ls2 := [some (.ref 54), some (.int x1), none, none]) (st2 := [.ref 1008, .int x1]) (M2 := M) (Ps := []) (by decide +kernel) rfl rfl trivial ?_
      obtain ⟨k9, hk⟩ := hk
      have t10 : GM z mX12_of (d + 4) [.ref 1008] M (fun rs => rs = .inl (some (.int k_of_s8), M)) := by
        have q9 := c_k_of_s8 z d M 
        try simp only [mput, mrow_same, mrow_hit, mrow_miss, mrow_sw, idr_eq, ne_eq, Nat.reduceEqDiff, not_false_eq_true, Nat.reduceLT, reduceCtorEq] at q9
        exact q9
      refine G.callS (as := [.ref 1008]) (rest := [.int x1]) oX12_of lk_EvenFindersModel_198 (by decide +kernel) rfl (Nat.le_of_ble_eq_true rfl) rfl ⟨Nat.le_of_ble_eq_true rfl, Nat.le_of_ble_eq_true rfl⟩ t10 (fun v9 N9 h11 => ?_) (fun E9 N9 h11 => by cases h11)
      cases h11
      show G z mX12_readRow (d + 5) 0 0 38 [some (.ref 54), some (.int x1), none, none] [.int k_of_s8, .int x1] M Q
      refine G.ic_ne (off := (29)) (tgt := 67) (by decide +kernel) rfl (fun c12 => ?_) (fun c12 => ?_)
      · skip
        rw [if_neg c12] at hk
        refine G.sl [(.iload_n 1, 1, 1, 0, 0, 0), (.ldc 203, 2, 1, 7, 0, 0)] [] (pc2 := 70) (ls2 := [some (.ref 54), some (.int x1), none, none]) (st2 := [.ref 1007, .int x1]) (M2 := M) (Ps := []) (by decide +kernel) rfl rfl trivial ?_
        obtain ⟨k13, hk⟩ := hk
        have t14 : GM z mX12_of (d + 4) [.ref 1007] M (fun rs => rs = .inl (some (.int k_of_s7), M)) := by
          have q9 := c_k_of_s7 z d M 
          try simp only [mput, mrow_same, mrow_hit, mrow_miss, mrow_sw, idr_eq, ne_eq, Nat.reduceEqDiff, not_false_eq_true, Nat.reduceLT, reduceCtorEq] at q9
          exact q9
        refine G.callS (as := [.ref 1007]) (rest := [.int x1]) oX12_of lk_EvenFindersModel_198 (by decide +kernel) rfl (Nat.le_of_ble_eq_true rfl) rfl ⟨Nat.le_of_ble_eq_true rfl, Nat.le_of_ble_eq_true rfl⟩ t14 (fun v9 N9 h15 => ?_) (fun E9 N9 h15 => by cases h15)
        cases h15
        show G z mX12_readRow (d + 5) 0 0 73 [some (.ref 54), some (.int x1), none, none] [.int k_of_s7, .int x1] M Q
        refine G.ic_ne (off := (7)) (tgt := 80) (by decide +kernel) rfl (fun c16 => ?_) (fun c16 => ?_)
        · skip
          rw [if_neg c16] at hk
          refine G.sl [(.iconst 0, 1, 0, 0, 0, nI 0), (.istore_n 2, 1, 2, 0, 0, 0), (.iload_n 2, 1, 2, 0, 0, 0)] [] (pc2 := 83) (ls2 := [some (.ref 54), some (.int x1), some (.int (nI 0)), none]) (st2 := [.int (nI 0)]) (M2 := M) (Ps := []) (by decide +kernel) rfl rfl trivial ?_
          refine G.if_eq (off := (10)) (tgt := 93) (by decide +kernel) rfl (fun _ => ?_) (fun h9 => absurd (by decide) h9)
          refine G.sl [(.aload_n 0, 1, 0, 0, 0, 0), (.iconst 0, 1, 0, 0, 0, nI 0), (.aload_n 0, 1, 0, 0, 0, 0), (.getfield 153, 3, 11, 19, 142, 0), (.iconst 1, 1, 0, 0, 0, nI 1), (.isub, 1, 0, 0, 0, 0)] [] (pc2 := 101) (ls2 := [some (.ref 54), some (.int x1), some (.int (nI 0)), none]) (st2 := [.int ((M.1 54 19) - (nI 1)), .int (nI 0), .ref 54]) (M2 := M) (Ps := []) (by decide +kernel) rfl rfl trivial ?_
          obtain ⟨k17, hk⟩ := hk
          rcases g18 : k_readNumber (M.1 54) (M.1 56) (nI 0) ((M.1 54 19) - (nI 1)) with ⟨v19, r20⟩
          try simp only [g18] at hk
          have t21 : GM z mX12_readNumber (d + 4) [.ref 54, .int (nI 0), .int ((M.1 54 19) - (nI 1))] M (fun rs => rs = .inl (some (.int v19), mrow M 54 r20)) := by
            have q9 := c_k_readNumber_54 z (d + 3) M (nI 0) ((M.1 54 19) - (nI 1)) k17
            try simp only [mput, mrow_same, mrow_hit, mrow_miss, mrow_sw, idr_eq, ne_eq, Nat.reduceEqDiff, not_false_eq_true, Nat.reduceLT, reduceCtorEq, g18] at q9
            exact q9
          refine G.callV (as := [.int (nI 0), .int ((M.1 54 19) - (nI 1))]) (rest := []) (a := 54) oX12_readNumber lk_EvenFindersModel_190 (by decide +kernel) rfl rfl ⟨rfl, rfl⟩ (Nat.le_of_ble_eq_true rfl) rfl ⟨Nat.le_of_ble_eq_true rfl, Nat.le_of_ble_eq_true rfl⟩ t21 (fun v9 N9 h22 => ?_) (fun E9 N9 h22 => by cases h22)
          cases h22
          show G z mX12_readRow (d + 5) 0 0 104 [some (.ref 54), some (.int x1), some (.int (nI 0)), none] [.int v19] (mrow M 54 r20) Q
          refine G.sl [(.istore_n 3, 1, 3, 0, 0, 0), (.aload_n 0, 1, 0, 0, 0, 0), (.getfield 26, 3, 11, 11, 134, 0), (.iconst 3, 1, 0, 0, 0, nI 3), (.aload_n 0, 1, 0, 0, 0, 0), (.getfield 150, 3, 11, 18, 141, 0), (.imul, 1, 0, 0, 0, 0), (.iload_n 2, 1, 2, 0, 0, 0)] [] (pc2 := 116) (ls2 := [some (.ref 54), some (.int x1), some (.int (nI 0)), some (.int v19)]) (st2 := [.int (nI 0), .int ((nI 3) * (r20 18)), .ref 58]) (M2 := mrow M 54 r20) (Ps := []) (by decide +kernel) rfl rfl trivial ?_
          refine G.if_eq (off := (7)) (tgt := 123) (by decide +kernel) rfl (fun _ => ?_) (fun h9 => absurd (by decide) h9)
          refine G.sl [(.aload_n 0, 1, 0, 0, 0, 0)] [] (pc2 := 124) (ls2 := [some (.ref 54), some (.int x1), some (.int (nI 0)), some (.int v19)]) (st2 := [.ref 54, .int ((nI 3) * (r20 18)), .ref 58]) (M2 := mrow M 54 r20) (Ps := []) (by decide +kernel) rfl rfl trivial ?_
          obtain ⟨k23, hk⟩ := hk
          have t24 : GM z mX12_fine (d + 4) [.ref 54] (mrow M 54 r20) (fun rs => rs = .inl (some (.int (k_fine r20)), mrow M 54 r20)) := by
            have q9 := c_k_fine_54 z (d + 4) (mrow M 54 r20) 
            try simp only [mput, mrow_same, mrow_hit, mrow_miss, mrow_sw, idr_eq, ne_eq, Nat.reduceEqDiff, not_false_eq_true, Nat.reduceLT, reduceCtorEq] at q9
            exact q9
          refine G.callV (as := []) (rest := [.int ((nI 3) * (r20 18)), .ref 58]) (a := 54) oX12_fine lk_EvenFindersModel_130 (by decide +kernel) rfl rfl ⟨rfl, rfl⟩ (Nat.le_of_ble_eq_true rfl) rfl ⟨Nat.le_of_ble_eq_true rfl, Nat.le_of_ble_eq_true rfl⟩ t24 (fun v9 N9 h25 => ?_) (fun E9 N9 h25 => by cases h25)
          cases h25
          show G z mX12_readRow (d + 5) 0 0 127 [some (.ref 54), some (.int x1), some (.int (nI 0)), some (.int v19)] [.int (k_fine r20), .int ((nI 3) * (r20 18)), .ref 58] (mrow M 54 r20) Q
          refine G.if_eq (off := (12)) (tgt := 139) (by decide +kernel) rfl (fun c26 => ?_) (fun c26 => ?_)
          · skip
            rw [if_pos c26] at hk
            obtain ⟨k27, k28, hk⟩ := hk
            refine G.sl [(.iconst 0, 1, 0, 0, 0, nI 0), (.iastore, 1, 0, 0, 0, 0), (.aload_n 0, 1, 0, 0, 0, 0), (.getfield 26, 3, 11, 11, 134, 0), (.iconst 3, 1, 0, 0, 0, nI 3), (.aload_n 0, 1, 0, 0, 0, 0), (.getfield 150, 3, 11, 18, 141, 0), (.imul, 1, 0, 0, 0, 0), (.iconst 1, 1, 0, 0, 0, nI 1), (.iadd, 1, 0, 0, 0, 0), (.iload_n 2, 1, 2, 0, 0, 0)] [3 * (ix (r20 18))] (pc2 := 154) (ls2 := [some (.ref 54), some (.int x1), some (.int (nI 0)), some (.int v19)]) (st2 := [.int (nI 0), .int (((nI 3) * (r20 18)) + (nI 1)), .ref 58]) (M2 := mput (mrow M 54 r20) 58 (3 * (ix (r20 18))) (nI 0)) (Ps := [((nI 3) * (r20 18)) = nI (3 * (ix (r20 18))) ∧ (3 * (ix (r20 18))) < 30]) (by decide +kernel) rfl rfl ⟨⟨(nMul rfl (ixE k27)), k28⟩, trivial⟩ ?_
            refine G.mem (M' := mrow (mrow M 54 r20) 58 (upd (M.1 58) (3 * (ix (r20 18))) (nI 0))) (by first | rfl | (simp only [mput, mrow_same, mrow_hit, mrow_miss, mrow_sw, idr_eq, ne_eq, Nat.reduceEqDiff, not_false_eq_true, Nat.reduceLT, reduceCtorEq]; done)) ?_
            refine G.if_eq (off := (7)) (tgt := 161) (by decide +kernel) rfl (fun _ => ?_) (fun h9 => absurd (by decide) h9)
            obtain ⟨k29, hk⟩ := hk
            refine G.sl [(.iload_n 3, 1, 3, 0, 0, 0), (.iastore, 1, 0, 0, 0, 0), (.aload_n 0, 1, 0, 0, 0, 0), (.getfield 26, 3, 11, 11, 134, 0), (.iconst 3, 1, 0, 0, 0, nI 3), (.aload_n 0, 1, 0, 0, 0, 0), (.getfield 150, 3, 11, 18, 141, 0), (.imul, 1, 0, 0, 0, 0), (.iconst 2, 1, 0, 0, 0, nI 2), (.iadd, 1, 0, 0, 0, 0), (.aload_n 0, 1, 0, 0, 0, 0), (.iconst 1, 1, 0, 0, 0, nI 1), (.bipush 60, 2, 0, 0, 0, nI 60)] [(3 * (ix (r20 18))) + 1] (pc2 := 179) (ls2 := [some (.ref 54), some (.int x1), some (.int (nI 0)), some (.int v19)]) (st2 := [.int (nI 60), .int (nI 1), .ref 54, .int (((nI 3) * (r20 18)) + (nI 2)), .ref 58]) (M2 := mput (mrow (mrow M 54 r20) 58 (upd (M.1 58) (3 * (ix (r20 18))) (nI 0))) 58 ((3 * (ix (r20 18))) + 1) v19) (Ps := [(((nI 3) * (r20 18)) + (nI 1)) = nI ((3 * (ix (r20 18))) + 1) ∧ ((3 * (ix (r20 18))) + 1) < 30]) (by decide +kernel) rfl rfl ⟨⟨(nAdd (nMul rfl (ixE k27)) rfl), k29⟩, trivial⟩ ?_
            refine G.mem (M' := mrow (mrow M 54 r20) 58 (upd (upd (M.1 58) (3 * (ix (r20 18))) (nI 0)) ((3 * (ix (r20 18))) + 1) v19)) (by first | rfl | (simp only [mput, mrow_same, mrow_hit, mrow_miss, mrow_sw, idr_eq, ne_eq, Nat.reduceEqDiff, not_false_eq_true, Nat.reduceLT, reduceCtorEq]; done)) ?_
            obtain ⟨k30, hk⟩ := hk
            rcases g31 : k_readNumber r20 (M.1 56) (nI 1) (nI 60) with ⟨v32, r33⟩
            try simp only [g31] at hk
            have t34 : GM z mX12_readNumber (d + 4) [.ref 54, .int (nI 1), .int (nI 60)] (mrow (mrow M 54 r20) 58 (upd (upd (M.1 58) (3 * (ix (r20 18))) (nI 0)) ((3 * (ix (r20 18))) + 1) v19)) (fun rs => rs = .inl (some (.int v32), mrow (mrow M 54 r33) 58 (upd (upd (M.1 58) (3 * (ix (r20 18))) (nI 0)) ((3 * (ix (r20 18))) + 1) v19))) := by
              have q9 := c_k_readNumber_54 z (d + 3) (mrow (mrow M 54 r20) 58 (upd (upd (M.1 58) (3 * (ix (r20 18))) (nI 0)) ((3 * (ix (r20 18))) + 1) v19)) (nI 1) (nI 60) k30
              try simp only [mput, mrow_same, mrow_hit, mrow_miss, mrow_sw, idr_eq, ne_eq, Nat.reduceEqDiff, not_false_eq_true, Nat.reduceLT, reduceCtorEq, g31] at q9
              exact q9
            refine G.callV (as := [.int (nI 1), .int (nI 60)]) (rest := [.int (((nI 3) * (r20 18)) + (nI 2)), .ref 58]) (a := 54) oX12_readNumber lk_EvenFindersModel_190 (by decide +kernel) rfl rfl ⟨rfl, rfl⟩ (Nat.le_of_ble_eq_true rfl) rfl ⟨Nat.le_of_ble_eq_true rfl, Nat.le_of_ble_eq_true rfl⟩ t34 (fun v9 N9 h35 => ?_) (fun E9 N9 h35 => by cases h35)
            cases h35
            show G z mX12_readRow (d + 5) 0 0 182 [some (.ref 54), some (.int x1), some (.int (nI 0)), some (.int v19)] [.int v32, .int (((nI 3) * (r20 18)) + (nI 2)), .ref 58] (mrow (mrow M 54 r33) 58 (upd (upd (M.1 58) (3 * (ix (r20 18))) (nI 0)) ((3 * (ix (r20 18))) + 1) v19)) Q
            obtain ⟨k36, hk⟩ := hk
            refine G.sl [(.iastore, 1, 0, 0, 0, 0), (.aload_n 0, 1, 0, 0, 0, 0), (.dup, 1, 0, 0, 0, 0), (.getfield 150, 3, 11, 18, 141, 0), (.iconst 1, 1, 0, 0, 0, nI 1), (.iadd, 1, 0, 0, 0, 0), (.putfield 150, 3, 11, 18, 141, 0)] [(3 * (ix (r20 18))) + 2] (pc2 := 193) (ls2 := [some (.ref 54), some (.int x1), some (.int (nI 0)), some (.int v19)]) (st2 := []) (M2 := mput (mput (mrow (mrow M 54 r33) 58 (upd (upd (M.1 58) (3 * (ix (r20 18))) (nI 0)) ((3 * (ix (r20 18))) + 1) v19)) 58 ((3 * (ix (r20 18))) + 2) v32) 54 18 ((r33 18) + (nI 1))) (Ps := [(((nI 3) * (r20 18)) + (nI 2)) = nI ((3 * (ix (r20 18))) + 2) ∧ ((3 * (ix (r20 18))) + 2) < 30]) (by decide +kernel) rfl rfl ⟨⟨(nAdd (nMul rfl (ixE k27)) rfl), k36⟩, trivial⟩ ?_
            refine G.mem (M' := mrow (mrow M 54 (upd r33 18 ((r33 18) + (nI 1)))) 58 (upd (upd (upd (M.1 58) (3 * (ix (r20 18))) (nI 0)) ((3 * (ix (r20 18))) + 1) v19) ((3 * (ix (r20 18))) + 2) v32)) (by first | rfl | (simp only [mput, mrow_same, mrow_hit, mrow_miss, mrow_sw, idr_eq, ne_eq, Nat.reduceEqDiff, not_false_eq_true, Nat.reduceLT, reduceCtorEq]; done)) ?_
            refine G.mem (M' := mrow (mrow (mrow (mrow M 54 (upd r33 18 ((r33 18) + (nI 1)))) 57 (M.1 57)) 58 (upd (upd (upd (M.1 58) (3 * (ix (r20 18))) (nI 0)) ((3 * (ix (r20 18))) + 1) v19) ((3 * (ix (r20 18))) + 2) v32)) 59 (M.1 59)) ((((mrow_id (N := mrow (mrow M 54 (upd r33 18 ((r33 18) + (nI 1)))) 58 (upd (upd (upd (M.1 58) (3 * (ix (r20 18))) (nI 0)) ((3 * (ix (r20 18))) + 1) v19) ((3 * (ix (r20 18))) + 2) v32)) (c := 57) (f := M.1 57) (by first | rfl | (simp only [mput, mrow_same, mrow_hit, mrow_miss, mrow_sw, idr_eq, ne_eq, Nat.reduceEqDiff, not_false_eq_true, Nat.reduceLT, reduceCtorEq]; done))).symm).trans (mrow_id (N := mrow (mrow (mrow M 54 (upd r33 18 ((r33 18) + (nI 1)))) 58 (upd (upd (upd (M.1 58) (3 * (ix (r20 18))) (nI 0)) ((3 * (ix (r20 18))) + 1) v19) ((3 * (ix (r20 18))) + 2) v32)) 57 (M.1 57)) (c := 59) (f := M.1 59) (by first | rfl | (simp only [mput, mrow_same, mrow_hit, mrow_miss, mrow_sw, idr_eq, ne_eq, Nat.reduceEqDiff, not_false_eq_true, Nat.reduceLT, reduceCtorEq]; done))).symm).trans (by first | rfl | (simp only [mput, mrow_same, mrow_hit, mrow_miss, mrow_sw, idr_eq, ne_eq, Nat.reduceEqDiff, not_false_eq_true, Nat.reduceLT, reduceCtorEq]; done))) ?_
            exact G.retv (by decide +kernel) rfl (Nat.le_of_ble_eq_true rfl) (Nat.le_of_ble_eq_true rfl) ((by rw [hQ]; simp only [k_readRow, if_neg c4, if_neg c8, if_neg c12, if_neg c16, g18, if_pos c26, g31, mrow_self]))
          · skip
            rw [if_neg c26] at hk
            obtain ⟨k37, k38, k39, k40, hk⟩ := hk
            refine G.sl [(.aload_n 0, 1, 0, 0, 0, 0), (.getfield 29, 3, 11, 12, 135, 0), (.iload_n 3, 1, 3, 0, 0, 0), (.iaload, 1, 0, 0, 0, 0), (.goto 4, 3, 140, 0, 0, 0), (.iastore, 1, 0, 0, 0, 0), (.aload_n 0, 1, 0, 0, 0, 0), (.getfield 26, 3, 11, 11, 134, 0), (.iconst 3, 1, 0, 0, 0, nI 3), (.aload_n 0, 1, 0, 0, 0, 0), (.getfield 150, 3, 11, 18, 141, 0), (.imul, 1, 0, 0, 0, 0), (.iconst 1, 1, 0, 0, 0, nI 1), (.iadd, 1, 0, 0, 0, 0), (.iload_n 2, 1, 2, 0, 0, 0)] [ix v19, 3 * (ix (r20 18))] (pc2 := 154) (ls2 := [some (.ref 54), some (.int x1), some (.int (nI 0)), some (.int v19)]) (st2 := [.int (nI 0), .int (((nI 3) * (r20 18)) + (nI 1)), .ref 58]) (M2 := mput (mrow M 54 r20) 58 (3 * (ix (r20 18))) (M.1 59 (ix v19))) (Ps := [v19 = nI (ix v19) ∧ (ix v19) < 6, ((nI 3) * (r20 18)) = nI (3 * (ix (r20 18))) ∧ (3 * (ix (r20 18))) < 30]) (by decide +kernel) rfl rfl ⟨⟨(ixE k37), k38⟩, ⟨(nMul rfl (ixE k39)), k40⟩, trivial⟩ ?_
            refine G.mem (M' := mrow (mrow M 54 r20) 58 (upd (M.1 58) (3 * (ix (r20 18))) (M.1 59 (ix v19)))) (by first | rfl | (simp only [mput, mrow_same, mrow_hit, mrow_miss, mrow_sw, idr_eq, ne_eq, Nat.reduceEqDiff, not_false_eq_true, Nat.reduceLT, reduceCtorEq]; done)) ?_
            refine G.if_eq (off := (7)) (tgt := 161) (by decide +kernel) rfl (fun _ => ?_) (fun h9 => absurd (by decide) h9)
            obtain ⟨k41, hk⟩ := hk
            refine G.sl [(.iload_n 3, 1, 3, 0, 0, 0), (.iastore, 1, 0, 0, 0, 0), (.aload_n 0, 1, 0, 0, 0, 0), (.getfield 26, 3, 11, 11, 134, 0), (.iconst 3, 1, 0, 0, 0, nI 3), (.aload_n 0, 1, 0, 0, 0, 0), (.getfield 150, 3, 11, 18, 141, 0), (.imul, 1, 0, 0, 0, 0), (.iconst 2, 1, 0, 0, 0, nI 2), (.iadd, 1, 0, 0, 0, 0), (.aload_n 0, 1, 0, 0, 0, 0), (.iconst 1, 1, 0, 0, 0, nI 1), (.bipush 60, 2, 0, 0, 0, nI 60)] [(3 * (ix (r20 18))) + 1] (pc2 := 179) (ls2 := [some (.ref 54), some (.int x1), some (.int (nI 0)), some (.int v19)]) (st2 := [.int (nI 60), .int (nI 1), .ref 54, .int (((nI 3) * (r20 18)) + (nI 2)), .ref 58]) (M2 := mput (mrow (mrow M 54 r20) 58 (upd (M.1 58) (3 * (ix (r20 18))) (M.1 59 (ix v19)))) 58 ((3 * (ix (r20 18))) + 1) v19) (Ps := [(((nI 3) * (r20 18)) + (nI 1)) = nI ((3 * (ix (r20 18))) + 1) ∧ ((3 * (ix (r20 18))) + 1) < 30]) (by decide +kernel) rfl rfl ⟨⟨(nAdd (nMul rfl (ixE k39)) rfl), k41⟩, trivial⟩ ?_
            refine G.mem (M' := mrow (mrow M 54 r20) 58 (upd (upd (M.1 58) (3 * (ix (r20 18))) (M.1 59 (ix v19))) ((3 * (ix (r20 18))) + 1) v19)) (by first | rfl | (simp only [mput, mrow_same, mrow_hit, mrow_miss, mrow_sw, idr_eq, ne_eq, Nat.reduceEqDiff, not_false_eq_true, Nat.reduceLT, reduceCtorEq]; done)) ?_
            obtain ⟨k42, hk⟩ := hk
            rcases g43 : k_readNumber r20 (M.1 56) (nI 1) (nI 60) with ⟨v44, r45⟩
            try simp only [g43] at hk
            have t46 : GM z mX12_readNumber (d + 4) [.ref 54, .int (nI 1), .int (nI 60)] (mrow (mrow M 54 r20) 58 (upd (upd (M.1 58) (3 * (ix (r20 18))) (M.1 59 (ix v19))) ((3 * (ix (r20 18))) + 1) v19)) (fun rs => rs = .inl (some (.int v44), mrow (mrow M 54 r45) 58 (upd (upd (M.1 58) (3 * (ix (r20 18))) (M.1 59 (ix v19))) ((3 * (ix (r20 18))) + 1) v19))) := by
              have q9 := c_k_readNumber_54 z (d + 3) (mrow (mrow M 54 r20) 58 (upd (upd (M.1 58) (3 * (ix (r20 18))) (M.1 59 (ix v19))) ((3 * (ix (r20 18))) + 1) v19)) (nI 1) (nI 60) k42
              try simp only [mput, mrow_same, mrow_hit, mrow_miss, mrow_sw, idr_eq, ne_eq, Nat.reduceEqDiff, not_false_eq_true, Nat.reduceLT, reduceCtorEq, g43] at q9
              exact q9
            refine G.callV (as := [.int (nI 1), .int (nI 60)]) (rest := [.int (((nI 3) * (r20 18)) + (nI 2)), .ref 58]) (a := 54) oX12_readNumber lk_EvenFindersModel_190 (by decide +kernel) rfl rfl ⟨rfl, rfl⟩ (Nat.le_of_ble_eq_true rfl) rfl ⟨Nat.le_of_ble_eq_true rfl, Nat.le_of_ble_eq_true rfl⟩ t46 (fun v9 N9 h47 => ?_) (fun E9 N9 h47 => by cases h47)
            cases h47
            show G z mX12_readRow (d + 5) 0 0 182 [some (.ref 54), some (.int x1), some (.int (nI 0)), some (.int v19)] [.int v44, .int (((nI 3) * (r20 18)) + (nI 2)), .ref 58] (mrow (mrow M 54 r45) 58 (upd (upd (M.1 58) (3 * (ix (r20 18))) (M.1 59 (ix v19))) ((3 * (ix (r20 18))) + 1) v19)) Q
            obtain ⟨k48, hk⟩ := hk
            refine G.sl [(.iastore, 1, 0, 0, 0, 0), (.aload_n 0, 1, 0, 0, 0, 0), (.dup, 1, 0, 0, 0, 0), (.getfield 150, 3, 11, 18, 141, 0), (.iconst 1, 1, 0, 0, 0, nI 1), (.iadd, 1, 0, 0, 0, 0), (.putfield 150, 3, 11, 18, 141, 0)] [(3 * (ix (r20 18))) + 2] (pc2 := 193) (ls2 := [some (.ref 54), some (.int x1), some (.int (nI 0)), some (.int v19)]) (st2 := []) (M2 := mput (mput (mrow (mrow M 54 r45) 58 (upd (upd (M.1 58) (3 * (ix (r20 18))) (M.1 59 (ix v19))) ((3 * (ix (r20 18))) + 1) v19)) 58 ((3 * (ix (r20 18))) + 2) v44) 54 18 ((r45 18) + (nI 1))) (Ps := [(((nI 3) * (r20 18)) + (nI 2)) = nI ((3 * (ix (r20 18))) + 2) ∧ ((3 * (ix (r20 18))) + 2) < 30]) (by decide +kernel) rfl rfl ⟨⟨(nAdd (nMul rfl (ixE k39)) rfl), k48⟩, trivial⟩ ?_
            refine G.mem (M' := mrow (mrow M 54 (upd r45 18 ((r45 18) + (nI 1)))) 58 (upd (upd (upd (M.1 58) (3 * (ix (r20 18))) (M.1 59 (ix v19))) ((3 * (ix (r20 18))) + 1) v19) ((3 * (ix (r20 18))) + 2) v44)) (by first | rfl | (simp only [mput, mrow_same, mrow_hit, mrow_miss, mrow_sw, idr_eq, ne_eq, Nat.reduceEqDiff, not_false_eq_true, Nat.reduceLT, reduceCtorEq]; done)) ?_
            refine G.mem (M' := mrow (mrow (mrow (mrow M 54 (upd r45 18 ((r45 18) + (nI 1)))) 57 (M.1 57)) 58 (upd (upd (upd (M.1 58) (3 * (ix (r20 18))) (M.1 59 (ix v19))) ((3 * (ix (r20 18))) + 1) v19) ((3 * (ix (r20 18))) + 2) v44)) 59 (M.1 59)) ((((mrow_id (N := mrow (mrow M 54 (upd r45 18 ((r45 18) + (nI 1)))) 58 (upd (upd (upd (M.1 58) (3 * (ix (r20 18))) (M.1 59 (ix v19))) ((3 * (ix (r20 18))) + 1) v19) ((3 * (ix (r20 18))) + 2) v44)) (c := 57) (f := M.1 57) (by first | rfl | (simp only [mput, mrow_same, mrow_hit, mrow_miss, mrow_sw, idr_eq, ne_eq, Nat.reduceEqDiff, not_false_eq_true, Nat.reduceLT, reduceCtorEq]; done))).symm).trans (mrow_id (N := mrow (mrow (mrow M 54 (upd r45 18 ((r45 18) + (nI 1)))) 58 (upd (upd (upd (M.1 58) (3 * (ix (r20 18))) (M.1 59 (ix v19))) ((3 * (ix (r20 18))) + 1) v19) ((3 * (ix (r20 18))) + 2) v44)) 57 (M.1 57)) (c := 59) (f := M.1 59) (by first | rfl | (simp only [mput, mrow_same, mrow_hit, mrow_miss, mrow_sw, idr_eq, ne_eq, Nat.reduceEqDiff, not_false_eq_true, Nat.reduceLT, reduceCtorEq]; done))).symm).trans (by first | rfl | (simp only [mput, mrow_same, mrow_hit, mrow_miss, mrow_sw, idr_eq, ne_eq, Nat.reduceEqDiff, not_false_eq_true, Nat.reduceLT, reduceCtorEq]; done))) ?_
            exact G.retv (by decide +kernel) rfl (Nat.le_of_ble_eq_true rfl) (Nat.le_of_ble_eq_true rfl) ((by rw [hQ]; simp only [k_readRow, if_neg c4, if_neg c8, if_neg c12, if_neg c16, g18, if_neg c26, g43, mrow_self]))
        · skip
          rw [if_pos c16] at hk
          refine G.sl [(.iconst 1, 1, 0, 0, 0, nI 1), (.goto 4, 3, 81, 0, 0, 0), (.istore_n 2, 1, 2, 0, 0, 0), (.iload_n 2, 1, 2, 0, 0, 0)] [] (pc2 := 83) (ls2 := [some (.ref 54), some (.int x1), some (.int (nI 1)), none]) (st2 := [.int (nI 1)]) (M2 := M) (Ps := []) (by decide +kernel) rfl rfl trivial ?_
          refine G.if_eq (off := (10)) (tgt := 93) (by decide +kernel) rfl (fun h9 => absurd h9 (by decide)) (fun _ => ?_)
          refine G.sl [(.aload_n 0, 1, 0, 0, 0, 0)] [] (pc2 := 87) (ls2 := [some (.ref 54), some (.int x1), some (.int (nI 1)), none]) (st2 := [.ref 54]) (M2 := M) (Ps := []) (by decide +kernel) rfl rfl trivial ?_
          obtain ⟨k49, hk⟩ := hk
          rcases g50 : k_readPlace (M.1 54) (M.1 56) with ⟨v51, r52⟩
          try simp only [g50] at hk
          have t53 : GM z mX12_readPlace (d + 4) [.ref 54] M (fun rs => rs = .inl (some (.int v51), mrow M 54 r52)) := by
            have q9 := c_k_readPlace_54 z (d + 2) M k49
            try simp only [mput, mrow_same, mrow_hit, mrow_miss, mrow_sw, idr_eq, ne_eq, Nat.reduceEqDiff, not_false_eq_true, Nat.reduceLT, reduceCtorEq, g50] at q9
            exact q9
          refine G.callV (as := []) (rest := []) (a := 54) oX12_readPlace lk_EvenFindersModel_194 (by decide +kernel) rfl rfl ⟨rfl, rfl⟩ (Nat.le_of_ble_eq_true rfl) rfl ⟨Nat.le_of_ble_eq_true rfl, Nat.le_of_ble_eq_true rfl⟩ t53 (fun v9 N9 h54 => ?_) (fun E9 N9 h54 => by cases h54)
          cases h54
          show G z mX12_readRow (d + 5) 0 0 90 [some (.ref 54), some (.int x1), some (.int (nI 1)), none] [.int v51] (mrow M 54 r52) Q
          refine G.sl [(.goto 14, 3, 104, 0, 0, 0), (.istore_n 3, 1, 3, 0, 0, 0), (.aload_n 0, 1, 0, 0, 0, 0), (.getfield 26, 3, 11, 11, 134, 0), (.iconst 3, 1, 0, 0, 0, nI 3), (.aload_n 0, 1, 0, 0, 0, 0), (.getfield 150, 3, 11, 18, 141, 0), (.imul, 1, 0, 0, 0, 0), (.iload_n 2, 1, 2, 0, 0, 0)] [] (pc2 := 116) (ls2 := [some (.ref 54), some (.int x1), some (.int (nI 1)), some (.int v51)]) (st2 := [.int (nI 1), .int ((nI 3) * (r52 18)), .ref 58]) (M2 := mrow M 54 r52) (Ps := []) (by decide +kernel) rfl rfl trivial ?_
          refine G.if_eq (off := (7)) (tgt := 123) (by decide +kernel) rfl (fun h9 => absurd h9 (by decide)) (fun _ => ?_)
          obtain ⟨k55, k56, hk⟩ := hk
          refine G.sl [(.iload_n 3, 1, 3, 0, 0, 0), (.goto 20, 3, 140, 0, 0, 0), (.iastore, 1, 0, 0, 0, 0), (.aload_n 0, 1, 0, 0, 0, 0), (.getfield 26, 3, 11, 11, 134, 0), (.iconst 3, 1, 0, 0, 0, nI 3), (.aload_n 0, 1, 0, 0, 0, 0), (.getfield 150, 3, 11, 18, 141, 0), (.imul, 1, 0, 0, 0, 0), (.iconst 1, 1, 0, 0, 0, nI 1), (.iadd, 1, 0, 0, 0, 0), (.iload_n 2, 1, 2, 0, 0, 0)] [3 * (ix (r52 18))] (pc2 := 154) (ls2 := [some (.ref 54), some (.int x1), some (.int (nI 1)), some (.int v51)]) (st2 := [.int (nI 1), .int (((nI 3) * (r52 18)) + (nI 1)), .ref 58]) (M2 := mput (mrow M 54 r52) 58 (3 * (ix (r52 18))) v51) (Ps := [((nI 3) * (r52 18)) = nI (3 * (ix (r52 18))) ∧ (3 * (ix (r52 18))) < 30]) (by decide +kernel) rfl rfl ⟨⟨(nMul rfl (ixE k55)), k56⟩, trivial⟩ ?_
          refine G.mem (M' := mrow (mrow M 54 r52) 58 (upd (M.1 58) (3 * (ix (r52 18))) v51)) (by first | rfl | (simp only [mput, mrow_same, mrow_hit, mrow_miss, mrow_sw, idr_eq, ne_eq, Nat.reduceEqDiff, not_false_eq_true, Nat.reduceLT, reduceCtorEq]; done)) ?_
          refine G.if_eq (off := (7)) (tgt := 161) (by decide +kernel) rfl (fun h9 => absurd h9 (by decide)) (fun _ => ?_)
          obtain ⟨k57, hk⟩ := hk
          refine G.sl [(.iconst (-1), 1, 0, 0, 0, (-1)), (.goto 4, 3, 162, 0, 0, 0), (.iastore, 1, 0, 0, 0, 0), (.aload_n 0, 1, 0, 0, 0, 0), (.getfield 26, 3, 11, 11, 134, 0), (.iconst 3, 1, 0, 0, 0, nI 3), (.aload_n 0, 1, 0, 0, 0, 0), (.getfield 150, 3, 11, 18, 141, 0), (.imul, 1, 0, 0, 0, 0), (.iconst 2, 1, 0, 0, 0, nI 2), (.iadd, 1, 0, 0, 0, 0), (.aload_n 0, 1, 0, 0, 0, 0), (.iconst 1, 1, 0, 0, 0, nI 1), (.bipush 60, 2, 0, 0, 0, nI 60)] [(3 * (ix (r52 18))) + 1] (pc2 := 179) (ls2 := [some (.ref 54), some (.int x1), some (.int (nI 1)), some (.int v51)]) (st2 := [.int (nI 60), .int (nI 1), .ref 54, .int (((nI 3) * (r52 18)) + (nI 2)), .ref 58]) (M2 := mput (mrow (mrow M 54 r52) 58 (upd (M.1 58) (3 * (ix (r52 18))) v51)) 58 ((3 * (ix (r52 18))) + 1) ((-1))) (Ps := [(((nI 3) * (r52 18)) + (nI 1)) = nI ((3 * (ix (r52 18))) + 1) ∧ ((3 * (ix (r52 18))) + 1) < 30]) (by decide +kernel) rfl rfl ⟨⟨(nAdd (nMul rfl (ixE k55)) rfl), k57⟩, trivial⟩ ?_
          refine G.mem (M' := mrow (mrow M 54 r52) 58 (upd (upd (M.1 58) (3 * (ix (r52 18))) v51) ((3 * (ix (r52 18))) + 1) ((-1)))) (by first | rfl | (simp only [mput, mrow_same, mrow_hit, mrow_miss, mrow_sw, idr_eq, ne_eq, Nat.reduceEqDiff, not_false_eq_true, Nat.reduceLT, reduceCtorEq]; done)) ?_
          obtain ⟨k58, hk⟩ := hk
          rcases g59 : k_readNumber r52 (M.1 56) (nI 1) (nI 60) with ⟨v60, r61⟩
          try simp only [g59] at hk
          have t62 : GM z mX12_readNumber (d + 4) [.ref 54, .int (nI 1), .int (nI 60)] (mrow (mrow M 54 r52) 58 (upd (upd (M.1 58) (3 * (ix (r52 18))) v51) ((3 * (ix (r52 18))) + 1) ((-1)))) (fun rs => rs = .inl (some (.int v60), mrow (mrow M 54 r61) 58 (upd (upd (M.1 58) (3 * (ix (r52 18))) v51) ((3 * (ix (r52 18))) + 1) ((-1))))) := by
            have q9 := c_k_readNumber_54 z (d + 3) (mrow (mrow M 54 r52) 58 (upd (upd (M.1 58) (3 * (ix (r52 18))) v51) ((3 * (ix (r52 18))) + 1) ((-1)))) (nI 1) (nI 60) k58
            try simp only [mput, mrow_same, mrow_hit, mrow_miss, mrow_sw, idr_eq, ne_eq, Nat.reduceEqDiff, not_false_eq_true, Nat.reduceLT, reduceCtorEq, g59] at q9
            exact q9
          refine G.callV (as := [.int (nI 1), .int (nI 60)]) (rest := [.int (((nI 3) * (r52 18)) + (nI 2)), .ref 58]) (a := 54) oX12_readNumber lk_EvenFindersModel_190 (by decide +kernel) rfl rfl ⟨rfl, rfl⟩ (Nat.le_of_ble_eq_true rfl) rfl ⟨Nat.le_of_ble_eq_true rfl, Nat.le_of_ble_eq_true rfl⟩ t62 (fun v9 N9 h63 => ?_) (fun E9 N9 h63 => by cases h63)
          cases h63
          show G z mX12_readRow (d + 5) 0 0 182 [some (.ref 54), some (.int x1), some (.int (nI 1)), some (.int v51)] [.int v60, .int (((nI 3) * (r52 18)) + (nI 2)), .ref 58] (mrow (mrow M 54 r61) 58 (upd (upd (M.1 58) (3 * (ix (r52 18))) v51) ((3 * (ix (r52 18))) + 1) ((-1)))) Q
          obtain ⟨k64, hk⟩ := hk
          refine G.sl [(.iastore, 1, 0, 0, 0, 0), (.aload_n 0, 1, 0, 0, 0, 0), (.dup, 1, 0, 0, 0, 0), (.getfield 150, 3, 11, 18, 141, 0), (.iconst 1, 1, 0, 0, 0, nI 1), (.iadd, 1, 0, 0, 0, 0), (.putfield 150, 3, 11, 18, 141, 0)] [(3 * (ix (r52 18))) + 2] (pc2 := 193) (ls2 := [some (.ref 54), some (.int x1), some (.int (nI 1)), some (.int v51)]) (st2 := []) (M2 := mput (mput (mrow (mrow M 54 r61) 58 (upd (upd (M.1 58) (3 * (ix (r52 18))) v51) ((3 * (ix (r52 18))) + 1) ((-1)))) 58 ((3 * (ix (r52 18))) + 2) v60) 54 18 ((r61 18) + (nI 1))) (Ps := [(((nI 3) * (r52 18)) + (nI 2)) = nI ((3 * (ix (r52 18))) + 2) ∧ ((3 * (ix (r52 18))) + 2) < 30]) (by decide +kernel) rfl rfl ⟨⟨(nAdd (nMul rfl (ixE k55)) rfl), k64⟩, trivial⟩ ?_
          refine G.mem (M' := mrow (mrow M 54 (upd r61 18 ((r61 18) + (nI 1)))) 58 (upd (upd (upd (M.1 58) (3 * (ix (r52 18))) v51) ((3 * (ix (r52 18))) + 1) ((-1))) ((3 * (ix (r52 18))) + 2) v60)) (by first | rfl | (simp only [mput, mrow_same, mrow_hit, mrow_miss, mrow_sw, idr_eq, ne_eq, Nat.reduceEqDiff, not_false_eq_true, Nat.reduceLT, reduceCtorEq]; done)) ?_
          refine G.mem (M' := mrow (mrow (mrow (mrow M 54 (upd r61 18 ((r61 18) + (nI 1)))) 57 (M.1 57)) 58 (upd (upd (upd (M.1 58) (3 * (ix (r52 18))) v51) ((3 * (ix (r52 18))) + 1) ((-1))) ((3 * (ix (r52 18))) + 2) v60)) 59 (M.1 59)) ((((mrow_id (N := mrow (mrow M 54 (upd r61 18 ((r61 18) + (nI 1)))) 58 (upd (upd (upd (M.1 58) (3 * (ix (r52 18))) v51) ((3 * (ix (r52 18))) + 1) ((-1))) ((3 * (ix (r52 18))) + 2) v60)) (c := 57) (f := M.1 57) (by first | rfl | (simp only [mput, mrow_same, mrow_hit, mrow_miss, mrow_sw, idr_eq, ne_eq, Nat.reduceEqDiff, not_false_eq_true, Nat.reduceLT, reduceCtorEq]; done))).symm).trans (mrow_id (N := mrow (mrow (mrow M 54 (upd r61 18 ((r61 18) + (nI 1)))) 58 (upd (upd (upd (M.1 58) (3 * (ix (r52 18))) v51) ((3 * (ix (r52 18))) + 1) ((-1))) ((3 * (ix (r52 18))) + 2) v60)) 57 (M.1 57)) (c := 59) (f := M.1 59) (by first | rfl | (simp only [mput, mrow_same, mrow_hit, mrow_miss, mrow_sw, idr_eq, ne_eq, Nat.reduceEqDiff, not_false_eq_true, Nat.reduceLT, reduceCtorEq]; done))).symm).trans (by first | rfl | (simp only [mput, mrow_same, mrow_hit, mrow_miss, mrow_sw, idr_eq, ne_eq, Nat.reduceEqDiff, not_false_eq_true, Nat.reduceLT, reduceCtorEq]; done))) ?_
          exact G.retv (by decide +kernel) rfl (Nat.le_of_ble_eq_true rfl) (Nat.le_of_ble_eq_true rfl) ((by rw [hQ]; simp only [k_readRow, if_neg c4, if_neg c8, if_neg c12, if_pos c16, g50, g59, mrow_self]))
      · skip
        rw [if_pos c12] at hk
        refine G.sl [(.aload_n 0, 1, 0, 0, 0, 0), (.getfield 29, 3, 11, 12, 135, 0), (.aload_n 0, 1, 0, 0, 0, 0), (.getfield 153, 3, 11, 19, 142, 0), (.aload_n 0, 1, 0, 0, 0, 0)] [] (pc2 := 50) (ls2 := [some (.ref 54), some (.int x1), none, none]) (st2 := [.ref 54, .int (M.1 54 19), .ref 59]) (M2 := M) (Ps := []) (by decide +kernel) rfl rfl trivial ?_
        obtain ⟨k65, hk⟩ := hk
        rcases g66 : k_readPlace (M.1 54) (M.1 56) with ⟨v67, r68⟩
        try simp only [g66] at hk
        have t69 : GM z mX12_readPlace (d + 4) [.ref 54] M (fun rs => rs = .inl (some (.int v67), mrow M 54 r68)) := by
          have q9 := c_k_readPlace_54 z (d + 2) M k65
          try simp only [mput, mrow_same, mrow_hit, mrow_miss, mrow_sw, idr_eq, ne_eq, Nat.reduceEqDiff, not_false_eq_true, Nat.reduceLT, reduceCtorEq, g66] at q9
          exact q9
        refine G.callV (as := []) (rest := [.int (M.1 54 19), .ref 59]) (a := 54) oX12_readPlace lk_EvenFindersModel_194 (by decide +kernel) rfl rfl ⟨rfl, rfl⟩ (Nat.le_of_ble_eq_true rfl) rfl ⟨Nat.le_of_ble_eq_true rfl, Nat.le_of_ble_eq_true rfl⟩ t69 (fun v9 N9 h70 => ?_) (fun E9 N9 h70 => by cases h70)
        cases h70
        show G z mX12_readRow (d + 5) 0 0 53 [some (.ref 54), some (.int x1), none, none] [.int v67, .int (M.1 54 19), .ref 59] (mrow M 54 r68) Q
        obtain ⟨k71, k72, hk⟩ := hk
        refine G.sl [(.iastore, 1, 0, 0, 0, 0), (.aload_n 0, 1, 0, 0, 0, 0), (.dup, 1, 0, 0, 0, 0), (.getfield 153, 3, 11, 19, 142, 0), (.iconst 1, 1, 0, 0, 0, nI 1), (.iadd, 1, 0, 0, 0, 0), (.putfield 153, 3, 11, 19, 142, 0), (.goto 129, 3, 193, 0, 0, 0)] [ix (M.1 54 19)] (pc2 := 193) (ls2 := [some (.ref 54), some (.int x1), none, none]) (st2 := []) (M2 := mput (mput (mrow M 54 r68) 59 (ix (M.1 54 19)) v67) 54 19 ((r68 19) + (nI 1))) (Ps := [(M.1 54 19) = nI (ix (M.1 54 19)) ∧ (ix (M.1 54 19)) < 6]) (by decide +kernel) rfl rfl ⟨⟨(ixE k71), k72⟩, trivial⟩ ?_
        refine G.mem (M' := mrow (mrow M 54 (upd r68 19 ((r68 19) + (nI 1)))) 59 (upd (M.1 59) (ix (M.1 54 19)) v67)) (by first | rfl | (simp only [mput, mrow_same, mrow_hit, mrow_miss, mrow_sw, idr_eq, ne_eq, Nat.reduceEqDiff, not_false_eq_true, Nat.reduceLT, reduceCtorEq]; done)) ?_
        refine G.mem (M' := mrow (mrow (mrow (mrow M 54 (upd r68 19 ((r68 19) + (nI 1)))) 57 (M.1 57)) 58 (M.1 58)) 59 (upd (M.1 59) (ix (M.1 54 19)) v67)) ((((mrow_id (N := mrow (mrow M 54 (upd r68 19 ((r68 19) + (nI 1)))) 59 (upd (M.1 59) (ix (M.1 54 19)) v67)) (c := 57) (f := M.1 57) (by first | rfl | (simp only [mput, mrow_same, mrow_hit, mrow_miss, mrow_sw, idr_eq, ne_eq, Nat.reduceEqDiff, not_false_eq_true, Nat.reduceLT, reduceCtorEq]; done))).symm).trans (mrow_id (N := mrow (mrow (mrow M 54 (upd r68 19 ((r68 19) + (nI 1)))) 59 (upd (M.1 59) (ix (M.1 54 19)) v67)) 57 (M.1 57)) (c := 58) (f := M.1 58) (by first | rfl | (simp only [mput, mrow_same, mrow_hit, mrow_miss, mrow_sw, idr_eq, ne_eq, Nat.reduceEqDiff, not_false_eq_true, Nat.reduceLT, reduceCtorEq]; done))).symm).trans (by first | rfl | (simp only [mput, mrow_same, mrow_hit, mrow_miss, mrow_sw, idr_eq, ne_eq, Nat.reduceEqDiff, not_false_eq_true, Nat.reduceLT, reduceCtorEq]; done))) ?_
        exact G.retv (by decide +kernel) rfl (Nat.le_of_ble_eq_true rfl) (Nat.le_of_ble_eq_true rfl) ((by rw [hQ]; simp only [k_readRow, if_neg c4, if_neg c8, if_pos c12, g66, mrow_self]))
    · skip
      rw [if_pos c8] at hk
      refine G.sl [(.aload_n 0, 1, 0, 0, 0, 0)] [] (pc2 := 26) (ls2 := [some (.ref 54), some (.int x1), none, none]) (st2 := [.ref 54]) (M2 := M) (Ps := []) (by decide +kernel) rfl rfl trivial ?_
      obtain ⟨k73, hk⟩ := hk
      rcases g74 : k_readRoad (M.1 54) (M.1 56) (M.1 57) with ⟨u75, r76, r77⟩
      have t78 : GM z mX12_readRoad (d + 4) [.ref 54] M (fun rs => rs = .inl (none, mrow (mrow M 54 r76) 57 r77)) := by
        have q9 := c_k_readRoad_54 z (d + 1) M k73
        try simp only [mput, mrow_same, mrow_hit, mrow_miss, mrow_sw, idr_eq, ne_eq, Nat.reduceEqDiff, not_false_eq_true, Nat.reduceLT, reduceCtorEq, g74] at q9
        exact q9
      refine G.callV (as := []) (rest := []) (a := 54) oX12_readRoad lk_EvenFindersModel_210 (by decide +kernel) rfl rfl ⟨rfl, rfl⟩ (Nat.le_of_ble_eq_true rfl) rfl ⟨Nat.le_of_ble_eq_true rfl, Nat.le_of_ble_eq_true rfl⟩ t78 (fun v9 N9 h79 => ?_) (fun E9 N9 h79 => by cases h79)
      cases h79
      show G z mX12_readRow (d + 5) 0 0 29 [some (.ref 54), some (.int x1), none, none] [] (mrow (mrow M 54 r76) 57 r77) Q
      refine G.sl [(.goto 164, 3, 193, 0, 0, 0)] [] (pc2 := 193) (ls2 := [some (.ref 54), some (.int x1), none, none]) (st2 := []) (M2 := mrow (mrow M 54 r76) 57 r77) (Ps := []) (by decide +kernel) rfl rfl trivial ?_
      refine G.mem (M' := mrow (mrow (mrow (mrow M 54 r76) 57 r77) 58 (M.1 58)) 59 (M.1 59)) ((((mrow_id (N := mrow (mrow M 54 r76) 57 r77) (c := 58) (f := M.1 58) (by first | rfl | (simp only [mput, mrow_same, mrow_hit, mrow_miss, mrow_sw, idr_eq, ne_eq, Nat.reduceEqDiff, not_false_eq_true, Nat.reduceLT, reduceCtorEq]; done))).symm).trans (mrow_id (N := mrow (mrow (mrow M 54 r76) 57 r77) 58 (M.1 58)) (c := 59) (f := M.1 59) (by first | rfl | (simp only [mput, mrow_same, mrow_hit, mrow_miss, mrow_sw, idr_eq, ne_eq, Nat.reduceEqDiff, not_false_eq_true, Nat.reduceLT, reduceCtorEq]; done))).symm).trans (by first | rfl | (simp only [mput, mrow_same, mrow_hit, mrow_miss, mrow_sw, idr_eq, ne_eq, Nat.reduceEqDiff, not_false_eq_true, Nat.reduceLT, reduceCtorEq]; done))) ?_
      exact G.retv (by decide +kernel) rfl (Nat.le_of_ble_eq_true rfl) (Nat.le_of_ble_eq_true rfl) ((by rw [hQ]; simp only [k_readRow, if_neg c4, if_pos c8, g74, mrow_self]))
  · skip
    rw [if_pos c4] at hk
    refine G.sl [(.aload_n 0, 1, 0, 0, 0, 0)] [] (pc2 := 10) (ls2 := [some (.ref 54), some (.int x1), none, none]) (st2 := [.ref 54]) (M2 := M) (Ps := []) (by decide +kernel) rfl rfl trivial ?_
    obtain ⟨k80, hk⟩ := hk
    rcases g81 : k_readPlaces (M.1 54) (M.1 56) with ⟨u82, r83⟩
    have t84 : GM z mX12_readPlaces (d + 4) [.ref 54] M (fun rs => rs = .inl (none, mrow M 54 r83)) := by
      have q9 := c_k_readPlaces_54 z (d + 2) M k80
      try simp only [mput, mrow_same, mrow_hit, mrow_miss, mrow_sw, idr_eq, ne_eq, Nat.reduceEqDiff, not_false_eq_true, Nat.reduceLT, reduceCtorEq, g81] at q9
      exact q9
    refine G.callV (as := []) (rest := []) (a := 54) oX12_readPlaces lk_EvenFindersModel_207 (by decide +kernel) rfl rfl ⟨rfl, rfl⟩ (Nat.le_of_ble_eq_true rfl) rfl ⟨Nat.le_of_ble_eq_true rfl, Nat.le_of_ble_eq_true rfl⟩ t84 (fun v9 N9 h85 => ?_) (fun E9 N9 h85 => by cases h85)
    cases h85
    show G z mX12_readRow (d + 5) 0 0 13 [some (.ref 54), some (.int x1), none, none] [] (mrow M 54 r83) Q
    refine G.sl [(.goto 180, 3, 193, 0, 0, 0)] [] (pc2 := 193) (ls2 := [some (.ref 54), some (.int x1), none, none]) (st2 := []) (M2 := mrow M 54 r83) (Ps := []) (by decide +kernel) rfl rfl trivial ?_
    refine G.mem (M' := mrow (mrow (mrow (mrow M 54 r83) 57 (M.1 57)) 58 (M.1 58)) 59 (M.1 59)) (((((mrow_id (N := mrow M 54 r83) (c := 57) (f := M.1 57) (by first | rfl | (simp only [mput, mrow_same, mrow_hit, mrow_miss, mrow_sw, idr_eq, ne_eq, Nat.reduceEqDiff, not_false_eq_true, Nat.reduceLT, reduceCtorEq]; done))).symm).trans (mrow_id (N := mrow (mrow M 54 r83) 57 (M.1 57)) (c := 58) (f := M.1 58) (by first | rfl | (simp only [mput, mrow_same, mrow_hit, mrow_miss, mrow_sw, idr_eq, ne_eq, Nat.reduceEqDiff, not_false_eq_true, Nat.reduceLT, reduceCtorEq]; done))).symm).trans (mrow_id (N := mrow (mrow (mrow M 54 r83) 57 (M.1 57)) 58 (M.1 58)) (c := 59) (f := M.1 59) (by first | rfl | (simp only [mput, mrow_same, mrow_hit, mrow_miss, mrow_sw, idr_eq, ne_eq, Nat.reduceEqDiff, not_false_eq_true, Nat.reduceLT, reduceCtorEq]; done))).symm).trans (by first | rfl | (simp only [mput, mrow_same, mrow_hit, mrow_miss, mrow_sw, idr_eq, ne_eq, Nat.reduceEqDiff, not_false_eq_true, Nat.reduceLT, reduceCtorEq]; done))) ?_
    exact G.retv (by decide +kernel) rfl (Nat.le_of_ble_eq_true rfl) (Nat.le_of_ble_eq_true rfl) ((by rw [hQ]; simp only [k_readRow, if_pos c4, g81, mrow_self]))
theorem k_isFull_01 (Rmd : Nat → Int32) (x1 : Int32) : k_isFull Rmd x1 = 0 ∨ k_isFull Rmd x1 = 1 := by
  unfold k_isFull
  repeat' split
  all_goals first | exact Or.inl rfl | exact Or.inr rfl
set_option maxHeartbeats 4000000 in
set_option maxRecDepth 3000 in
theorem c_k_isFull_54 (z : Zp) (d : Nat) (M : Mem) (x1 : Int32) : GM z mX12_isFull (d + 5) [.ref 54, .int x1] M (fun rs => rs = .inl (some (.int (k_isFull (M.1 54) x1)), M)) := by
  refine GM.of oX12_isFull.1 (Nat.le_of_ble_eq_true rfl) ?_
  show G z mX12_isFull (d + 5) 0 0 0 [some (.ref 54), some (.int x1)] [] M _
  obtain ⟨Q, hQ⟩ : ∃ Q : Rs → Prop, Q = (fun rs => rs = .inl (some (.int (k_isFull (M.1 54) x1)), M)) := ⟨_, rfl⟩
  rw [← hQ]
  refine G.sl [(.iload_n 1, 1, 1, 0, 0, 0), (.ldc 202, 2, 1, 6, 0, 0)] [] (pc2 := 3) (ls2 := [some (.ref 54), some (.int x1)]) (st2 := [.ref 1006, .int x1]) (M2 := M) (Ps := []) (by decide +kernel) rfl rfl trivial ?_
  have t2 : GM z mX12_of (d + 4) [.ref 1006] M (fun rs => rs = .inl (some (.int k_of_s6), M)) := by
    have q9 := c_k_of_s6 z d M 
    try simp only [mput, mrow_same, mrow_hit, mrow_miss, mrow_sw, idr_eq, ne_eq, Nat.reduceEqDiff, not_false_eq_true, Nat.reduceLT, reduceCtorEq] at q9
    exact q9
  refine G.callS (as := [.ref 1006]) (rest := [.int x1]) oX12_of lk_EvenFindersModel_198 (by decide +kernel) rfl (Nat.le_of_ble_eq_true rfl) rfl ⟨Nat.le_of_ble_eq_true rfl, Nat.le_of_ble_eq_true rfl⟩ t2 (fun v9 N9 h3 => ?_) (fun E9 N9 h3 => by cases h3)
  cases h3
  show G z mX12_isFull (d + 5) 0 0 6 [some (.ref 54), some (.int x1)] [.int k_of_s6, .int x1] M Q
  refine G.ic_ne (off := (20)) (tgt := 26) (by decide +kernel) rfl (fun c4 => ?_) (fun c4 => ?_)
  · skip
    refine G.sl [(.iload_n 1, 1, 1, 0, 0, 0), (.ldc 204, 2, 1, 8, 0, 0)] [] (pc2 := 29) (ls2 := [some (.ref 54), some (.int x1)]) (st2 := [.ref 1008, .int x1]) (M2 := M) (Ps := []) (by decide +kernel) rfl rfl trivial ?_
    have t6 : GM z mX12_of (d + 4) [.ref 1008] M (fun rs => rs = .inl (some (.int k_of_s8), M)) := by
      have q9 := c_k_of_s8 z d M 
      try simp only [mput, mrow_same, mrow_hit, mrow_miss, mrow_sw, idr_eq, ne_eq, Nat.reduceEqDiff, not_false_eq_true, Nat.reduceLT, reduceCtorEq] at q9
      exact q9
    refine G.callS (as := [.ref 1008]) (rest := [.int x1]) oX12_of lk_EvenFindersModel_198 (by decide +kernel) rfl (Nat.le_of_ble_eq_true rfl) rfl ⟨Nat.le_of_ble_eq_true rfl, Nat.le_of_ble_eq_true rfl⟩ t6 (fun v9 N9 h7 => ?_) (fun E9 N9 h7 => by cases h7)
    cases h7
    show G z mX12_isFull (d + 5) 0 0 32 [some (.ref 54), some (.int x1)] [.int k_of_s8, .int x1] M Q
    refine G.ic_ne (off := (20)) (tgt := 52) (by decide +kernel) rfl (fun c8 => ?_) (fun c8 => ?_)
    · skip
      refine G.sl [(.iload_n 1, 1, 1, 0, 0, 0), (.ldc 197, 2, 1, 5, 0, 0)] [] (pc2 := 55) (ls2 := [some (.ref 54), some (.int x1)]) (st2 := [.ref 1005, .int x1]) (M2 := M) (Ps := []) (by decide +kernel) rfl rfl trivial ?_
      have t10 : GM z mX12_of (d + 4) [.ref 1005] M (fun rs => rs = .inl (some (.int k_of_s5), M)) := by
        have q9 := c_k_of_s5 z d M 
        try simp only [mput, mrow_same, mrow_hit, mrow_miss, mrow_sw, idr_eq, ne_eq, Nat.reduceEqDiff, not_false_eq_true, Nat.reduceLT, reduceCtorEq] at q9
        exact q9
      refine G.callS (as := [.ref 1005]) (rest := [.int x1]) oX12_of lk_EvenFindersModel_198 (by decide +kernel) rfl (Nat.le_of_ble_eq_true rfl) rfl ⟨Nat.le_of_ble_eq_true rfl, Nat.le_of_ble_eq_true rfl⟩ t10 (fun v9 N9 h11 => ?_) (fun E9 N9 h11 => by cases h11)
      cases h11
      show G z mX12_isFull (d + 5) 0 0 58 [some (.ref 54), some (.int x1)] [.int k_of_s5, .int x1] M Q
      refine G.ic_eq (off := (16)) (tgt := 74) (by decide +kernel) rfl (fun c12 => ?_) (fun c12 => ?_)
      · skip
        refine G.sl [(.iconst 0, 1, 0, 0, 0, nI 0)] [] (pc2 := 75) (ls2 := [some (.ref 54), some (.int x1)]) (st2 := [.int (nI 0)]) (M2 := M) (Ps := []) (by decide +kernel) rfl rfl trivial ?_
        exact G.reti (by decide +kernel) rfl rfl (Nat.le_of_ble_eq_true rfl) (Nat.le_of_ble_eq_true rfl) ((by rw [hQ]; simp only [k_isFull, if_neg c4, if_neg c8, if_pos c12, mrow_self]))
      · skip
        refine G.sl [(.aload_n 0, 1, 0, 0, 0, 0), (.getfield 150, 3, 11, 18, 141, 0), (.bipush 10, 2, 0, 0, 0, nI 10)] [] (pc2 := 67) (ls2 := [some (.ref 54), some (.int x1)]) (st2 := [.int (nI 10), .int (M.1 54 18)]) (M2 := M) (Ps := []) (by decide +kernel) rfl rfl trivial ?_
        refine G.ic_ne (off := (7)) (tgt := 74) (by decide +kernel) rfl (fun c13 => ?_) (fun c13 => ?_)
        · skip
          refine G.sl [(.iconst 0, 1, 0, 0, 0, nI 0)] [] (pc2 := 75) (ls2 := [some (.ref 54), some (.int x1)]) (st2 := [.int (nI 0)]) (M2 := M) (Ps := []) (by decide +kernel) rfl rfl trivial ?_
          exact G.reti (by decide +kernel) rfl rfl (Nat.le_of_ble_eq_true rfl) (Nat.le_of_ble_eq_true rfl) ((by rw [hQ]; simp only [k_isFull, if_neg c4, if_neg c8, if_neg c12, if_neg c13, mrow_self]))
        · skip
          refine G.sl [(.iconst 1, 1, 0, 0, 0, nI 1), (.goto 4, 3, 75, 0, 0, 0)] [] (pc2 := 75) (ls2 := [some (.ref 54), some (.int x1)]) (st2 := [.int (nI 1)]) (M2 := M) (Ps := []) (by decide +kernel) rfl rfl trivial ?_
          exact G.reti (by decide +kernel) rfl rfl (Nat.le_of_ble_eq_true rfl) (Nat.le_of_ble_eq_true rfl) ((by rw [hQ]; simp only [k_isFull, if_neg c4, if_neg c8, if_neg c12, if_pos c13, mrow_self]))
    · skip
      refine G.sl [(.aload_n 0, 1, 0, 0, 0, 0), (.getfield 153, 3, 11, 19, 142, 0), (.bipush 6, 2, 0, 0, 0, nI 6)] [] (pc2 := 41) (ls2 := [some (.ref 54), some (.int x1)]) (st2 := [.int (nI 6), .int (M.1 54 19)]) (M2 := M) (Ps := []) (by decide +kernel) rfl rfl trivial ?_
      refine G.ic_ne (off := (7)) (tgt := 48) (by decide +kernel) rfl (fun c14 => ?_) (fun c14 => ?_)
      · skip
        refine G.sl [(.iconst 0, 1, 0, 0, 0, nI 0), (.goto 26, 3, 75, 0, 0, 0)] [] (pc2 := 75) (ls2 := [some (.ref 54), some (.int x1)]) (st2 := [.int (nI 0)]) (M2 := M) (Ps := []) (by decide +kernel) rfl rfl trivial ?_
        exact G.reti (by decide +kernel) rfl rfl (Nat.le_of_ble_eq_true rfl) (Nat.le_of_ble_eq_true rfl) ((by rw [hQ]; simp only [k_isFull, if_neg c4, if_pos c8, if_neg c14, mrow_self]))
      · skip
        refine G.sl [(.iconst 1, 1, 0, 0, 0, nI 1), (.goto 30, 3, 75, 0, 0, 0)] [] (pc2 := 75) (ls2 := [some (.ref 54), some (.int x1)]) (st2 := [.int (nI 1)]) (M2 := M) (Ps := []) (by decide +kernel) rfl rfl trivial ?_
        exact G.reti (by decide +kernel) rfl rfl (Nat.le_of_ble_eq_true rfl) (Nat.le_of_ble_eq_true rfl) ((by rw [hQ]; simp only [k_isFull, if_neg c4, if_pos c8, if_pos c14, mrow_self]))
  · skip
    refine G.sl [(.aload_n 0, 1, 0, 0, 0, 0), (.getfield 147, 3, 11, 17, 140, 0), (.bipush 12, 2, 0, 0, 0, nI 12)] [] (pc2 := 15) (ls2 := [some (.ref 54), some (.int x1)]) (st2 := [.int (nI 12), .int (M.1 54 17)]) (M2 := M) (Ps := []) (by decide +kernel) rfl rfl trivial ?_
    refine G.ic_ne (off := (7)) (tgt := 22) (by decide +kernel) rfl (fun c15 => ?_) (fun c15 => ?_)
    · skip
      refine G.sl [(.iconst 0, 1, 0, 0, 0, nI 0), (.goto 52, 3, 75, 0, 0, 0)] [] (pc2 := 75) (ls2 := [some (.ref 54), some (.int x1)]) (st2 := [.int (nI 0)]) (M2 := M) (Ps := []) (by decide +kernel) rfl rfl trivial ?_
      exact G.reti (by decide +kernel) rfl rfl (Nat.le_of_ble_eq_true rfl) (Nat.le_of_ble_eq_true rfl) ((by rw [hQ]; simp only [k_isFull, if_pos c4, if_neg c15, mrow_self]))
    · skip
      refine G.sl [(.iconst 1, 1, 0, 0, 0, nI 1), (.goto 56, 3, 75, 0, 0, 0)] [] (pc2 := 75) (ls2 := [some (.ref 54), some (.int x1)]) (st2 := [.int (nI 1)]) (M2 := M) (Ps := []) (by decide +kernel) rfl rfl trivial ?_
      exact G.reti (by decide +kernel) rfl rfl (Nat.le_of_ble_eq_true rfl) (Nat.le_of_ble_eq_true rfl) ((by rw [hQ]; simp only [k_isFull, if_pos c4, if_pos c15, mrow_self]))
set_option maxHeartbeats 4000000 in
set_option maxRecDepth 3000 in
theorem lp_k_town_54_44 (z : Zp) (d : Nat) (M : Mem) (Q : Rs → Prop) : ∀ (k0 : Nat) (s2 : Int32) (q54 : (Nat → Int32)) (q57 : (Nat → Int32)) (q58 : (Nat → Int32)) (q59 : (Nat → Int32)), k_town_44_ok (M.1 56) k0 s2 q54 q57 q58 q59 → (match k_town_44 (M.1 56) k0 s2 q54 q57 q58 q59 with | (s2', q54', q57', q58', q59') => G z mX12_town (d + 6) 0 0 136 [some (.ref 54), none, none, none] [] (mrow (mrow (mrow (mrow M 54 (q54')) 57 (q57')) 58 (q58')) 59 (q59')) Q) → G z mX12_town (d + 6) 0 0 44 [some (.ref 54), none, some (.int s2), none] [] (mrow (mrow (mrow (mrow M 54 q54) 57 q57) 58 q58) 59 q59) Q := by
  intro k0
  induction k0 with
  | zero =>
      intro s2 q54 q57 q58 q59 hk hX
      exact (by simpa only [k_town_44_ok] using hk : False).elim
  | succ k0 ih =>
      intro s2 q54 q57 q58 q59 hk hX
      simp only [k_town_44_ok] at hk
      refine G.sl [(.aload_n 0, 1, 0, 0, 0, 0)] [] (pc2 := 45) (ls2 := [some (.ref 54), none, some (.int s2), none]) (st2 := [.ref 54]) (M2 := mrow (mrow (mrow (mrow M 54 q54) 57 q57) 58 q58) 59 q59) (Ps := []) (by decide +kernel) rfl rfl trivial ?_
      obtain ⟨k22, hk⟩ := hk
      have t23 : GM z mX12_fine (d + 5) [.ref 54] (mrow (mrow (mrow (mrow M 54 q54) 57 q57) 58 q58) 59 q59) (fun rs => rs = .inl (some (.int (k_fine q54)), mrow (mrow (mrow (mrow M 54 q54) 57 q57) 58 q58) 59 q59)) := by
        have q9 := c_k_fine_54 z (d + 5) (mrow (mrow (mrow (mrow M 54 q54) 57 q57) 58 q58) 59 q59) 
        try simp only [mput, mrow_same, mrow_hit, mrow_miss, mrow_sw, idr_eq, ne_eq, Nat.reduceEqDiff, not_false_eq_true, Nat.reduceLT, reduceCtorEq] at q9
        exact q9
      refine G.callV (as := []) (rest := []) (a := 54) oX12_fine lk_EvenFindersModel_130 (by decide +kernel) rfl rfl ⟨rfl, rfl⟩ (Nat.le_of_ble_eq_true rfl) rfl ⟨Nat.le_of_ble_eq_true rfl, Nat.le_of_ble_eq_true rfl⟩ t23 (fun v9 N9 h24 => ?_) (fun E9 N9 h24 => by cases h24)
      cases h24
      show G z mX12_town (d + 6) 0 0 48 [some (.ref 54), none, some (.int s2), none] [.int (k_fine q54)] (mrow (mrow (mrow (mrow M 54 q54) 57 q57) 58 q58) 59 q59) Q
      refine G.if_eq (off := (88)) (tgt := 136) (by decide +kernel) rfl (fun c25 => ?_) (fun c25 => ?_)
      · skip
        rw [if_pos c25] at hk
        refine G.loc (ls2 := [some (.ref 54), none, none, none]) (by simp [subL]) ?_
        simp only [k_town_44, if_pos c25] at hX
        exact hX
      · skip
        rw [if_neg c25] at hk
        refine G.sl [(.aload_n 0, 1, 0, 0, 0, 0)] [] (pc2 := 52) (ls2 := [some (.ref 54), none, some (.int s2), none]) (st2 := [.ref 54]) (M2 := mrow (mrow (mrow (mrow M 54 q54) 57 q57) 58 q58) 59 q59) (Ps := []) (by decide +kernel) rfl rfl trivial ?_
        obtain ⟨k26, hk⟩ := hk
        rcases g27 : k_isMore q54 (M.1 56) with ⟨v28, r29⟩
        try simp only [g27] at hk
        have ev28 : v28 = 0 ∨ v28 = 1 := by
          have q9 := k_isMore_01 q54 (M.1 56)
          rw [g27] at q9
          exact q9
        have t30 : GM z mX12_isMore (d + 5) [.ref 54] (mrow (mrow (mrow (mrow M 54 q54) 57 q57) 58 q58) 59 q59) (fun rs => rs = .inl (some (.int v28), mrow (mrow (mrow (mrow M 54 r29) 57 q57) 58 q58) 59 q59)) := by
          have q9 := c_k_isMore_54 z (d + 4) (mrow (mrow (mrow (mrow M 54 q54) 57 q57) 58 q58) 59 q59) k26
          try simp only [mput, mrow_same, mrow_hit, mrow_miss, mrow_sw, idr_eq, ne_eq, Nat.reduceEqDiff, not_false_eq_true, Nat.reduceLT, reduceCtorEq, g27] at q9
          exact q9
        refine G.callV (as := []) (rest := []) (a := 54) oX12_isMore lk_EvenFindersModel_221 (by decide +kernel) rfl rfl ⟨rfl, rfl⟩ (Nat.le_of_ble_eq_true rfl) rfl ⟨Nat.le_of_ble_eq_true rfl, Nat.le_of_ble_eq_true rfl⟩ t30 (fun v9 N9 h31 => ?_) (fun E9 N9 h31 => by cases h31)
        cases h31
        show G z mX12_town (d + 6) 0 0 55 [some (.ref 54), none, some (.int s2), none] [.int v28] (mrow (mrow (mrow (mrow M 54 r29) 57 q57) 58 q58) 59 q59) Q
        refine G.if_eq (off := (81)) (tgt := 136) (by decide +kernel) rfl (fun c32 => ?_) (fun c32 => ?_)
        · skip
          rw [if_pos c32] at hk
          refine G.loc (ls2 := [some (.ref 54), none, none, none]) (by simp [subL]) ?_
          simp only [k_town_44, if_neg c25, g27, if_pos c32] at hX
          exact hX
        · skip
          rw [if_neg c32] at hk
          refine G.sl [(.aload_n 0, 1, 0, 0, 0, 0)] [] (pc2 := 59) (ls2 := [some (.ref 54), none, some (.int s2), none]) (st2 := [.ref 54]) (M2 := mrow (mrow (mrow (mrow M 54 r29) 57 q57) 58 q58) 59 q59) (Ps := []) (by decide +kernel) rfl rfl trivial ?_
          obtain ⟨k33, hk⟩ := hk
          rcases g34 : k_word r29 (M.1 56) with ⟨v35, r36⟩
          try simp only [g34] at hk
          have t37 : GM z mX12_word (d + 5) [.ref 54] (mrow (mrow (mrow (mrow M 54 r29) 57 q57) 58 q58) 59 q59) (fun rs => rs = .inl (some (.int v35), mrow (mrow (mrow (mrow M 54 r36) 57 q57) 58 q58) 59 q59)) := by
            have q9 := c_k_word_54 z (d + 4) (mrow (mrow (mrow (mrow M 54 r29) 57 q57) 58 q58) 59 q59) k33
            try simp only [mput, mrow_same, mrow_hit, mrow_miss, mrow_sw, idr_eq, ne_eq, Nat.reduceEqDiff, not_false_eq_true, Nat.reduceLT, reduceCtorEq, g34] at q9
            exact q9
          refine G.callV (as := []) (rest := []) (a := 54) oX12_word lk_EvenFindersModel_224 (by decide +kernel) rfl rfl ⟨rfl, rfl⟩ (Nat.le_of_ble_eq_true rfl) rfl ⟨Nat.le_of_ble_eq_true rfl, Nat.le_of_ble_eq_true rfl⟩ t37 (fun v9 N9 h38 => ?_) (fun E9 N9 h38 => by cases h38)
          cases h38
          show G z mX12_town (d + 6) 0 0 62 [some (.ref 54), none, some (.int s2), none] [.int v35] (mrow (mrow (mrow (mrow M 54 r36) 57 q57) 58 q58) 59 q59) Q
          refine G.sl [(.istore_n 3, 1, 3, 0, 0, 0), (.iload_n 3, 1, 3, 0, 0, 0)] [] (pc2 := 64) (ls2 := [some (.ref 54), none, some (.int s2), some (.int v35)]) (st2 := [.int v35]) (M2 := mrow (mrow (mrow (mrow M 54 r36) 57 q57) 58 q58) 59 q59) (Ps := []) (by decide +kernel) rfl rfl trivial ?_
          obtain ⟨k39, hk⟩ := hk
          have t40 : GM z mX12_isRow (d + 5) [.int v35] (mrow (mrow (mrow (mrow M 54 r36) 57 q57) 58 q58) 59 q59) (fun rs => rs = .inl (some (.int (k_isRow v35)), mrow (mrow (mrow (mrow M 54 r36) 57 q57) 58 q58) 59 q59)) := by
            have q9 := c_k_isRow z d (mrow (mrow (mrow (mrow M 54 r36) 57 q57) 58 q58) 59 q59) v35
            try simp only [mput, mrow_same, mrow_hit, mrow_miss, mrow_sw, idr_eq, ne_eq, Nat.reduceEqDiff, not_false_eq_true, Nat.reduceLT, reduceCtorEq] at q9
            exact q9
          refine G.callS (as := [.int v35]) (rest := []) oX12_isRow lk_EvenFindersModel_227 (by decide +kernel) rfl (Nat.le_of_ble_eq_true rfl) rfl ⟨Nat.le_of_ble_eq_true rfl, Nat.le_of_ble_eq_true rfl⟩ t40 (fun v9 N9 h41 => ?_) (fun E9 N9 h41 => by cases h41)
          cases h41
          show G z mX12_town (d + 6) 0 0 67 [some (.ref 54), none, some (.int s2), some (.int v35)] [.int (k_isRow v35)] (mrow (mrow (mrow (mrow M 54 r36) 57 q57) 58 q58) 59 q59) Q
          refine G.if_ne (off := (15)) (tgt := 82) (by decide +kernel) rfl (fun c42 => ?_) (fun c42 => ?_)
          · skip
            rw [if_neg c42] at hk
            refine G.sl [(.iload_n 2, 1, 2, 0, 0, 0), (.bipush 60, 2, 0, 0, 0, nI 60)] [] (pc2 := 85) (ls2 := [some (.ref 54), none, some (.int s2), some (.int v35)]) (st2 := [.int (nI 60), .int s2]) (M2 := mrow (mrow (mrow (mrow M 54 r36) 57 q57) 58 q58) 59 q59) (Ps := []) (by decide +kernel) rfl rfl trivial ?_
            refine G.ic_eq (off := (11)) (tgt := 96) (by decide +kernel) rfl (fun c43 => ?_) (fun c43 => ?_)
            · skip
              rw [if_pos c43] at hk
              refine G.sl [(.aload_n 0, 1, 0, 0, 0, 0), (.iconst 3, 1, 0, 0, 0, nI 3), (.aload_n 0, 1, 0, 0, 0, 0), (.getfield 107, 3, 11, 4, 127, 0)] [] (pc2 := 102) (ls2 := [some (.ref 54), none, some (.int s2), some (.int v35)]) (st2 := [.int (r36 4), .int (nI 3), .ref 54]) (M2 := mrow (mrow (mrow (mrow M 54 r36) 57 q57) 58 q58) 59 q59) (Ps := []) (by decide +kernel) rfl rfl trivial ?_
              obtain ⟨k44, hk⟩ := hk
              rcases g45 : k_wrong r36 (nI 3) (r36 4) with ⟨u46, r47⟩
              try simp only [g45] at hk
              have t48 : GM z mX12_wrong (d + 5) [.ref 54, .int (nI 3), .int (r36 4)] (mrow (mrow (mrow (mrow M 54 r36) 57 q57) 58 q58) 59 q59) (fun rs => rs = .inl (none, mrow (mrow (mrow (mrow M 54 r47) 57 q57) 58 q58) 59 q59)) := by
                have q9 := c_k_wrong_54 z (d + 5) (mrow (mrow (mrow (mrow M 54 r36) 57 q57) 58 q58) 59 q59) (nI 3) (r36 4)
                try simp only [mput, mrow_same, mrow_hit, mrow_miss, mrow_sw, idr_eq, ne_eq, Nat.reduceEqDiff, not_false_eq_true, Nat.reduceLT, reduceCtorEq, g45] at q9
                exact q9
              refine G.callV (as := [.int (nI 3), .int (r36 4)]) (rest := []) (a := 54) oX12_wrong lk_EvenFindersModel_137 (by decide +kernel) rfl rfl ⟨rfl, rfl⟩ (Nat.le_of_ble_eq_true rfl) rfl ⟨Nat.le_of_ble_eq_true rfl, Nat.le_of_ble_eq_true rfl⟩ t48 (fun v9 N9 h49 => ?_) (fun E9 N9 h49 => by cases h49)
              cases h49
              show G z mX12_town (d + 6) 0 0 105 [some (.ref 54), none, some (.int s2), some (.int v35)] [] (mrow (mrow (mrow (mrow M 54 r47) 57 q57) 58 q58) 59 q59) Q
              refine G.sl [(.aload_n 0, 1, 0, 0, 0, 0)] [] (pc2 := 106) (ls2 := [some (.ref 54), none, some (.int s2), some (.int v35)]) (st2 := [.ref 54]) (M2 := mrow (mrow (mrow (mrow M 54 r47) 57 q57) 58 q58) 59 q59) (Ps := []) (by decide +kernel) rfl rfl trivial ?_
              obtain ⟨k50, hk⟩ := hk
              have t51 : GM z mX12_fine (d + 5) [.ref 54] (mrow (mrow (mrow (mrow M 54 r47) 57 q57) 58 q58) 59 q59) (fun rs => rs = .inl (some (.int (k_fine r47)), mrow (mrow (mrow (mrow M 54 r47) 57 q57) 58 q58) 59 q59)) := by
                have q9 := c_k_fine_54 z (d + 5) (mrow (mrow (mrow (mrow M 54 r47) 57 q57) 58 q58) 59 q59) 
                try simp only [mput, mrow_same, mrow_hit, mrow_miss, mrow_sw, idr_eq, ne_eq, Nat.reduceEqDiff, not_false_eq_true, Nat.reduceLT, reduceCtorEq] at q9
                exact q9
              refine G.callV (as := []) (rest := []) (a := 54) oX12_fine lk_EvenFindersModel_130 (by decide +kernel) rfl rfl ⟨rfl, rfl⟩ (Nat.le_of_ble_eq_true rfl) rfl ⟨Nat.le_of_ble_eq_true rfl, Nat.le_of_ble_eq_true rfl⟩ t51 (fun v9 N9 h52 => ?_) (fun E9 N9 h52 => by cases h52)
              cases h52
              show G z mX12_town (d + 6) 0 0 109 [some (.ref 54), none, some (.int s2), some (.int v35)] [.int (k_fine r47)] (mrow (mrow (mrow (mrow M 54 r47) 57 q57) 58 q58) 59 q59) Q
              refine G.if_ne (off := (6)) (tgt := 115) (by decide +kernel) rfl (fun c53 => ?_) (fun c53 => ?_)
              · skip
                rw [if_neg c53] at hk
                refine G.sl [(.aload_n 0, 1, 0, 0, 0, 0)] [] (pc2 := 116) (ls2 := [some (.ref 54), none, some (.int s2), some (.int v35)]) (st2 := [.ref 54]) (M2 := mrow (mrow (mrow (mrow M 54 r47) 57 q57) 58 q58) 59 q59) (Ps := []) (by decide +kernel) rfl rfl trivial ?_
                obtain ⟨k54, hk⟩ := hk
                rcases g55 : k_pass r47 (M.1 56) with ⟨u56, r57⟩
                try simp only [g55] at hk
                have t58 : GM z mX12_pass (d + 5) [.ref 54] (mrow (mrow (mrow (mrow M 54 r47) 57 q57) 58 q58) 59 q59) (fun rs => rs = .inl (none, mrow (mrow (mrow (mrow M 54 r57) 57 q57) 58 q58) 59 q59)) := by
                  have q9 := c_k_pass_54 z (d + 4) (mrow (mrow (mrow (mrow M 54 r47) 57 q57) 58 q58) 59 q59) k54
                  try simp only [mput, mrow_same, mrow_hit, mrow_miss, mrow_sw, idr_eq, ne_eq, Nat.reduceEqDiff, not_false_eq_true, Nat.reduceLT, reduceCtorEq, g55] at q9
                  exact q9
                refine G.callV (as := []) (rest := []) (a := 54) oX12_pass lk_EvenFindersModel_233 (by decide +kernel) rfl rfl ⟨rfl, rfl⟩ (Nat.le_of_ble_eq_true rfl) rfl ⟨Nat.le_of_ble_eq_true rfl, Nat.le_of_ble_eq_true rfl⟩ t58 (fun v9 N9 h59 => ?_) (fun E9 N9 h59 => by cases h59)
                cases h59
                show G z mX12_town (d + 6) 0 0 119 [some (.ref 54), none, some (.int s2), some (.int v35)] [] (mrow (mrow (mrow (mrow M 54 r57) 57 q57) 58 q58) 59 q59) Q
                refine G.sl [(.aload_n 0, 1, 0, 0, 0, 0), (.iload_n 3, 1, 3, 0, 0, 0)] [] (pc2 := 121) (ls2 := [some (.ref 54), none, some (.int s2), some (.int v35)]) (st2 := [.int v35, .ref 54]) (M2 := mrow (mrow (mrow (mrow M 54 r57) 57 q57) 58 q58) 59 q59) (Ps := []) (by decide +kernel) rfl rfl trivial ?_
                obtain ⟨k60, hk⟩ := hk
                rcases g61 : k_readRow r57 (M.1 56) q57 q58 q59 v35 with ⟨u62, r63, r64, r65, r66⟩
                try simp only [g61] at hk
                have t67 : GM z mX12_readRow (d + 5) [.ref 54, .int v35] (mrow (mrow (mrow (mrow M 54 r57) 57 q57) 58 q58) 59 q59) (fun rs => rs = .inl (none, mrow (mrow (mrow (mrow M 54 r63) 57 r64) 58 r65) 59 r66)) := by
                  have q9 := c_k_readRow_54 z d (mrow (mrow (mrow (mrow M 54 r57) 57 q57) 58 q58) 59 q59) v35 k60
                  try simp only [mput, mrow_same, mrow_hit, mrow_miss, mrow_sw, idr_eq, ne_eq, Nat.reduceEqDiff, not_false_eq_true, Nat.reduceLT, reduceCtorEq, g61] at q9
                  exact q9
                refine G.callV (as := [.int v35]) (rest := []) (a := 54) oX12_readRow lk_EvenFindersModel_236 (by decide +kernel) rfl rfl ⟨rfl, rfl⟩ (Nat.le_of_ble_eq_true rfl) rfl ⟨Nat.le_of_ble_eq_true rfl, Nat.le_of_ble_eq_true rfl⟩ t67 (fun v9 N9 h68 => ?_) (fun E9 N9 h68 => by cases h68)
                cases h68
                show G z mX12_town (d + 6) 0 0 124 [some (.ref 54), none, some (.int s2), some (.int v35)] [] (mrow (mrow (mrow (mrow M 54 r63) 57 r64) 58 r65) 59 r66) Q
                refine G.sl [(.aload_n 0, 1, 0, 0, 0, 0), (.bipush 59, 2, 0, 0, 0, nI 59)] [] (pc2 := 127) (ls2 := [some (.ref 54), none, some (.int s2), some (.int v35)]) (st2 := [.int (nI 59), .ref 54]) (M2 := mrow (mrow (mrow (mrow M 54 r63) 57 r64) 58 r65) 59 r66) (Ps := []) (by decide +kernel) rfl rfl trivial ?_
                obtain ⟨k69, hk⟩ := hk
                rcases g70 : k_sign r63 (M.1 56) (nI 59) with ⟨u71, r72⟩
                try simp only [g70] at hk
                have t73 : GM z mX12_sign (d + 5) [.ref 54, .int (nI 59)] (mrow (mrow (mrow (mrow M 54 r63) 57 r64) 58 r65) 59 r66) (fun rs => rs = .inl (none, mrow (mrow (mrow (mrow M 54 r72) 57 r64) 58 r65) 59 r66)) := by
                  have q9 := c_k_sign_54 z (d + 4) (mrow (mrow (mrow (mrow M 54 r63) 57 r64) 58 r65) 59 r66) (nI 59) k69
                  try simp only [mput, mrow_same, mrow_hit, mrow_miss, mrow_sw, idr_eq, ne_eq, Nat.reduceEqDiff, not_false_eq_true, Nat.reduceLT, reduceCtorEq, g70] at q9
                  exact q9
                refine G.callV (as := [.int (nI 59)]) (rest := []) (a := 54) oX12_sign lk_EvenFindersModel_239 (by decide +kernel) rfl rfl ⟨rfl, rfl⟩ (Nat.le_of_ble_eq_true rfl) rfl ⟨Nat.le_of_ble_eq_true rfl, Nat.le_of_ble_eq_true rfl⟩ t73 (fun v9 N9 h74 => ?_) (fun E9 N9 h74 => by cases h74)
                cases h74
                show G z mX12_town (d + 6) 0 0 130 [some (.ref 54), none, some (.int s2), some (.int v35)] [] (mrow (mrow (mrow (mrow M 54 r72) 57 r64) 58 r65) 59 r66) Q
                refine G.sl [(.iinc 2 1, 3, 2, 0, 0, nI 1), (.goto (-89), 3, 44, 0, 0, 0)] [] (pc2 := 44) (ls2 := [some (.ref 54), none, some (.int (s2 + nI 1)), some (.int v35)]) (st2 := []) (M2 := mrow (mrow (mrow (mrow M 54 r72) 57 r64) 58 r65) 59 r66) (Ps := []) (by decide +kernel) rfl rfl trivial ?_
                refine G.loc (ls2 := [some (.ref 54), none, some (.int (s2 + nI 1)), none]) (by simp [subL]) ?_
                simp only [k_town_44, if_neg c25, g27, if_neg c32, g34, if_neg c42, if_pos c43, g45, if_neg c53, g55, g61, g70] at hX
                exact ih (s2 + nI 1) r72 r64 r65 r66 hk hX
              · skip
                rw [if_pos c53] at hk
                refine G.sl [(.goto 24, 3, 136, 0, 0, 0)] [] (pc2 := 136) (ls2 := [some (.ref 54), none, some (.int s2), some (.int v35)]) (st2 := []) (M2 := mrow (mrow (mrow (mrow M 54 r47) 57 q57) 58 q58) 59 q59) (Ps := []) (by decide +kernel) rfl rfl trivial ?_
                refine G.loc (ls2 := [some (.ref 54), none, none, none]) (by simp [subL]) ?_
                simp only [k_town_44, if_neg c25, g27, if_neg c32, g34, if_neg c42, if_pos c43, g45, if_pos c53] at hX
                exact hX
            · skip
              rw [if_neg c43] at hk
              refine G.sl [(.aload_n 0, 1, 0, 0, 0, 0), (.iload_n 3, 1, 3, 0, 0, 0)] [] (pc2 := 90) (ls2 := [some (.ref 54), none, some (.int s2), some (.int v35)]) (st2 := [.int v35, .ref 54]) (M2 := mrow (mrow (mrow (mrow M 54 r36) 57 q57) 58 q58) 59 q59) (Ps := []) (by decide +kernel) rfl rfl trivial ?_
              obtain ⟨k75, hk⟩ := hk
              have t76 : GM z mX12_isFull (d + 5) [.ref 54, .int v35] (mrow (mrow (mrow (mrow M 54 r36) 57 q57) 58 q58) 59 q59) (fun rs => rs = .inl (some (.int (k_isFull r36 v35)), mrow (mrow (mrow (mrow M 54 r36) 57 q57) 58 q58) 59 q59)) := by
                have q9 := c_k_isFull_54 z d (mrow (mrow (mrow (mrow M 54 r36) 57 q57) 58 q58) 59 q59) v35
                try simp only [mput, mrow_same, mrow_hit, mrow_miss, mrow_sw, idr_eq, ne_eq, Nat.reduceEqDiff, not_false_eq_true, Nat.reduceLT, reduceCtorEq] at q9
                exact q9
              refine G.callV (as := [.int v35]) (rest := []) (a := 54) oX12_isFull lk_EvenFindersModel_230 (by decide +kernel) rfl rfl ⟨rfl, rfl⟩ (Nat.le_of_ble_eq_true rfl) rfl ⟨Nat.le_of_ble_eq_true rfl, Nat.le_of_ble_eq_true rfl⟩ t76 (fun v9 N9 h77 => ?_) (fun E9 N9 h77 => by cases h77)
              cases h77
              show G z mX12_town (d + 6) 0 0 93 [some (.ref 54), none, some (.int s2), some (.int v35)] [.int (k_isFull r36 v35)] (mrow (mrow (mrow (mrow M 54 r36) 57 q57) 58 q58) 59 q59) Q
              refine G.if_eq (off := (12)) (tgt := 105) (by decide +kernel) rfl (fun c78 => ?_) (fun c78 => ?_)
              · skip
                rw [if_pos c78] at hk
                refine G.sl [(.aload_n 0, 1, 0, 0, 0, 0)] [] (pc2 := 106) (ls2 := [some (.ref 54), none, some (.int s2), some (.int v35)]) (st2 := [.ref 54]) (M2 := mrow (mrow (mrow (mrow M 54 r36) 57 q57) 58 q58) 59 q59) (Ps := []) (by decide +kernel) rfl rfl trivial ?_
                obtain ⟨k79, hk⟩ := hk
                have t80 : GM z mX12_fine (d + 5) [.ref 54] (mrow (mrow (mrow (mrow M 54 r36) 57 q57) 58 q58) 59 q59) (fun rs => rs = .inl (some (.int (k_fine r36)), mrow (mrow (mrow (mrow M 54 r36) 57 q57) 58 q58) 59 q59)) := by
                  have q9 := c_k_fine_54 z (d + 5) (mrow (mrow (mrow (mrow M 54 r36) 57 q57) 58 q58) 59 q59) 
                  try simp only [mput, mrow_same, mrow_hit, mrow_miss, mrow_sw, idr_eq, ne_eq, Nat.reduceEqDiff, not_false_eq_true, Nat.reduceLT, reduceCtorEq] at q9
                  exact q9
                refine G.callV (as := []) (rest := []) (a := 54) oX12_fine lk_EvenFindersModel_130 (by decide +kernel) rfl rfl ⟨rfl, rfl⟩ (Nat.le_of_ble_eq_true rfl) rfl ⟨Nat.le_of_ble_eq_true rfl, Nat.le_of_ble_eq_true rfl⟩ t80 (fun v9 N9 h81 => ?_) (fun E9 N9 h81 => by cases h81)
                cases h81
                show G z mX12_town (d + 6) 0 0 109 [some (.ref 54), none, some (.int s2), some (.int v35)] [.int (k_fine r36)] (mrow (mrow (mrow (mrow M 54 r36) 57 q57) 58 q58) 59 q59) Q
                refine G.if_ne (off := (6)) (tgt := 115) (by decide +kernel) rfl (fun c82 => ?_) (fun c82 => ?_)
                · skip
                  rw [if_neg c82] at hk
                  refine G.sl [(.aload_n 0, 1, 0, 0, 0, 0)] [] (pc2 := 116) (ls2 := [some (.ref 54), none, some (.int s2), some (.int v35)]) (st2 := [.ref 54]) (M2 := mrow (mrow (mrow (mrow M 54 r36) 57 q57) 58 q58) 59 q59) (Ps := []) (by decide +kernel) rfl rfl trivial ?_
                  obtain ⟨k83, hk⟩ := hk
                  rcases g84 : k_pass r36 (M.1 56) with ⟨u85, r86⟩
                  try simp only [g84] at hk
                  have t87 : GM z mX12_pass (d + 5) [.ref 54] (mrow (mrow (mrow (mrow M 54 r36) 57 q57) 58 q58) 59 q59) (fun rs => rs = .inl (none, mrow (mrow (mrow (mrow M 54 r86) 57 q57) 58 q58) 59 q59)) := by
                    have q9 := c_k_pass_54 z (d + 4) (mrow (mrow (mrow (mrow M 54 r36) 57 q57) 58 q58) 59 q59) k83
                    try simp only [mput, mrow_same, mrow_hit, mrow_miss, mrow_sw, idr_eq, ne_eq, Nat.reduceEqDiff, not_false_eq_true, Nat.reduceLT, reduceCtorEq, g84] at q9
                    exact q9
                  refine G.callV (as := []) (rest := []) (a := 54) oX12_pass lk_EvenFindersModel_233 (by decide +kernel) rfl rfl ⟨rfl, rfl⟩ (Nat.le_of_ble_eq_true rfl) rfl ⟨Nat.le_of_ble_eq_true rfl, Nat.le_of_ble_eq_true rfl⟩ t87 (fun v9 N9 h88 => ?_) (fun E9 N9 h88 => by cases h88)
                  cases h88
                  show G z mX12_town (d + 6) 0 0 119 [some (.ref 54), none, some (.int s2), some (.int v35)] [] (mrow (mrow (mrow (mrow M 54 r86) 57 q57) 58 q58) 59 q59) Q
                  refine G.sl [(.aload_n 0, 1, 0, 0, 0, 0), (.iload_n 3, 1, 3, 0, 0, 0)] [] (pc2 := 121) (ls2 := [some (.ref 54), none, some (.int s2), some (.int v35)]) (st2 := [.int v35, .ref 54]) (M2 := mrow (mrow (mrow (mrow M 54 r86) 57 q57) 58 q58) 59 q59) (Ps := []) (by decide +kernel) rfl rfl trivial ?_
                  obtain ⟨k89, hk⟩ := hk
                  rcases g90 : k_readRow r86 (M.1 56) q57 q58 q59 v35 with ⟨u91, r92, r93, r94, r95⟩
                  try simp only [g90] at hk
                  have t96 : GM z mX12_readRow (d + 5) [.ref 54, .int v35] (mrow (mrow (mrow (mrow M 54 r86) 57 q57) 58 q58) 59 q59) (fun rs => rs = .inl (none, mrow (mrow (mrow (mrow M 54 r92) 57 r93) 58 r94) 59 r95)) := by
                    have q9 := c_k_readRow_54 z d (mrow (mrow (mrow (mrow M 54 r86) 57 q57) 58 q58) 59 q59) v35 k89
                    try simp only [mput, mrow_same, mrow_hit, mrow_miss, mrow_sw, idr_eq, ne_eq, Nat.reduceEqDiff, not_false_eq_true, Nat.reduceLT, reduceCtorEq, g90] at q9
                    exact q9
                  refine G.callV (as := [.int v35]) (rest := []) (a := 54) oX12_readRow lk_EvenFindersModel_236 (by decide +kernel) rfl rfl ⟨rfl, rfl⟩ (Nat.le_of_ble_eq_true rfl) rfl ⟨Nat.le_of_ble_eq_true rfl, Nat.le_of_ble_eq_true rfl⟩ t96 (fun v9 N9 h97 => ?_) (fun E9 N9 h97 => by cases h97)
                  cases h97
                  show G z mX12_town (d + 6) 0 0 124 [some (.ref 54), none, some (.int s2), some (.int v35)] [] (mrow (mrow (mrow (mrow M 54 r92) 57 r93) 58 r94) 59 r95) Q
                  refine G.sl [(.aload_n 0, 1, 0, 0, 0, 0), (.bipush 59, 2, 0, 0, 0, nI 59)] [] (pc2 := 127) (ls2 := [some (.ref 54), none, some (.int s2), some (.int v35)]) (st2 := [.int (nI 59), .ref 54]) (M2 := mrow (mrow (mrow (mrow M 54 r92) 57 r93) 58 r94) 59 r95) (Ps := []) (by decide +kernel) rfl rfl trivial ?_
                  obtain ⟨k98, hk⟩ := hk
                  rcases g99 : k_sign r92 (M.1 56) (nI 59) with ⟨u100, r101⟩
                  try simp only [g99] at hk
                  have t102 : GM z mX12_sign (d + 5) [.ref 54, .int (nI 59)] (mrow (mrow (mrow (mrow M 54 r92) 57 r93) 58 r94) 59 r95) (fun rs => rs = .inl (none, mrow (mrow (mrow (mrow M 54 r101) 57 r93) 58 r94) 59 r95)) := by
                    have q9 := c_k_sign_54 z (d + 4) (mrow (mrow (mrow (mrow M 54 r92) 57 r93) 58 r94) 59 r95) (nI 59) k98
                    try simp only [mput, mrow_same, mrow_hit, mrow_miss, mrow_sw, idr_eq, ne_eq, Nat.reduceEqDiff, not_false_eq_true, Nat.reduceLT, reduceCtorEq, g99] at q9
                    exact q9
                  refine G.callV (as := [.int (nI 59)]) (rest := []) (a := 54) oX12_sign lk_EvenFindersModel_239 (by decide +kernel) rfl rfl ⟨rfl, rfl⟩ (Nat.le_of_ble_eq_true rfl) rfl ⟨Nat.le_of_ble_eq_true rfl, Nat.le_of_ble_eq_true rfl⟩ t102 (fun v9 N9 h103 => ?_) (fun E9 N9 h103 => by cases h103)
                  cases h103
                  show G z mX12_town (d + 6) 0 0 130 [some (.ref 54), none, some (.int s2), some (.int v35)] [] (mrow (mrow (mrow (mrow M 54 r101) 57 r93) 58 r94) 59 r95) Q
                  refine G.sl [(.iinc 2 1, 3, 2, 0, 0, nI 1), (.goto (-89), 3, 44, 0, 0, 0)] [] (pc2 := 44) (ls2 := [some (.ref 54), none, some (.int (s2 + nI 1)), some (.int v35)]) (st2 := []) (M2 := mrow (mrow (mrow (mrow M 54 r101) 57 r93) 58 r94) 59 r95) (Ps := []) (by decide +kernel) rfl rfl trivial ?_
                  refine G.loc (ls2 := [some (.ref 54), none, some (.int (s2 + nI 1)), none]) (by simp [subL]) ?_
                  simp only [k_town_44, if_neg c25, g27, if_neg c32, g34, if_neg c42, if_neg c43, if_pos c78, if_neg c82, g84, g90, g99] at hX
                  exact ih (s2 + nI 1) r101 r93 r94 r95 hk hX
                · skip
                  rw [if_pos c82] at hk
                  refine G.sl [(.goto 24, 3, 136, 0, 0, 0)] [] (pc2 := 136) (ls2 := [some (.ref 54), none, some (.int s2), some (.int v35)]) (st2 := []) (M2 := mrow (mrow (mrow (mrow M 54 r36) 57 q57) 58 q58) 59 q59) (Ps := []) (by decide +kernel) rfl rfl trivial ?_
                  refine G.loc (ls2 := [some (.ref 54), none, none, none]) (by simp [subL]) ?_
                  simp only [k_town_44, if_neg c25, g27, if_neg c32, g34, if_neg c42, if_neg c43, if_pos c78, if_pos c82] at hX
                  exact hX
              · skip
                rw [if_neg c78] at hk
                refine G.sl [(.aload_n 0, 1, 0, 0, 0, 0), (.iconst 3, 1, 0, 0, 0, nI 3), (.aload_n 0, 1, 0, 0, 0, 0), (.getfield 107, 3, 11, 4, 127, 0)] [] (pc2 := 102) (ls2 := [some (.ref 54), none, some (.int s2), some (.int v35)]) (st2 := [.int (r36 4), .int (nI 3), .ref 54]) (M2 := mrow (mrow (mrow (mrow M 54 r36) 57 q57) 58 q58) 59 q59) (Ps := []) (by decide +kernel) rfl rfl trivial ?_
                obtain ⟨k104, hk⟩ := hk
                rcases g105 : k_wrong r36 (nI 3) (r36 4) with ⟨u106, r107⟩
                try simp only [g105] at hk
                have t108 : GM z mX12_wrong (d + 5) [.ref 54, .int (nI 3), .int (r36 4)] (mrow (mrow (mrow (mrow M 54 r36) 57 q57) 58 q58) 59 q59) (fun rs => rs = .inl (none, mrow (mrow (mrow (mrow M 54 r107) 57 q57) 58 q58) 59 q59)) := by
                  have q9 := c_k_wrong_54 z (d + 5) (mrow (mrow (mrow (mrow M 54 r36) 57 q57) 58 q58) 59 q59) (nI 3) (r36 4)
                  try simp only [mput, mrow_same, mrow_hit, mrow_miss, mrow_sw, idr_eq, ne_eq, Nat.reduceEqDiff, not_false_eq_true, Nat.reduceLT, reduceCtorEq, g105] at q9
                  exact q9
                refine G.callV (as := [.int (nI 3), .int (r36 4)]) (rest := []) (a := 54) oX12_wrong lk_EvenFindersModel_137 (by decide +kernel) rfl rfl ⟨rfl, rfl⟩ (Nat.le_of_ble_eq_true rfl) rfl ⟨Nat.le_of_ble_eq_true rfl, Nat.le_of_ble_eq_true rfl⟩ t108 (fun v9 N9 h109 => ?_) (fun E9 N9 h109 => by cases h109)
                cases h109
                show G z mX12_town (d + 6) 0 0 105 [some (.ref 54), none, some (.int s2), some (.int v35)] [] (mrow (mrow (mrow (mrow M 54 r107) 57 q57) 58 q58) 59 q59) Q
                refine G.sl [(.aload_n 0, 1, 0, 0, 0, 0)] [] (pc2 := 106) (ls2 := [some (.ref 54), none, some (.int s2), some (.int v35)]) (st2 := [.ref 54]) (M2 := mrow (mrow (mrow (mrow M 54 r107) 57 q57) 58 q58) 59 q59) (Ps := []) (by decide +kernel) rfl rfl trivial ?_
                obtain ⟨k110, hk⟩ := hk
                have t111 : GM z mX12_fine (d + 5) [.ref 54] (mrow (mrow (mrow (mrow M 54 r107) 57 q57) 58 q58) 59 q59) (fun rs => rs = .inl (some (.int (k_fine r107)), mrow (mrow (mrow (mrow M 54 r107) 57 q57) 58 q58) 59 q59)) := by
                  have q9 := c_k_fine_54 z (d + 5) (mrow (mrow (mrow (mrow M 54 r107) 57 q57) 58 q58) 59 q59) 
                  try simp only [mput, mrow_same, mrow_hit, mrow_miss, mrow_sw, idr_eq, ne_eq, Nat.reduceEqDiff, not_false_eq_true, Nat.reduceLT, reduceCtorEq] at q9
                  exact q9
                refine G.callV (as := []) (rest := []) (a := 54) oX12_fine lk_EvenFindersModel_130 (by decide +kernel) rfl rfl ⟨rfl, rfl⟩ (Nat.le_of_ble_eq_true rfl) rfl ⟨Nat.le_of_ble_eq_true rfl, Nat.le_of_ble_eq_true rfl⟩ t111 (fun v9 N9 h112 => ?_) (fun E9 N9 h112 => by cases h112)
                cases h112
                show G z mX12_town (d + 6) 0 0 109 [some (.ref 54), none, some (.int s2), some (.int v35)] [.int (k_fine r107)] (mrow (mrow (mrow (mrow M 54 r107) 57 q57) 58 q58) 59 q59) Q
                refine G.if_ne (off := (6)) (tgt := 115) (by decide +kernel) rfl (fun c113 => ?_) (fun c113 => ?_)
                · skip
                  rw [if_neg c113] at hk
                  refine G.sl [(.aload_n 0, 1, 0, 0, 0, 0)] [] (pc2 := 116) (ls2 := [some (.ref 54), none, some (.int s2), some (.int v35)]) (st2 := [.ref 54]) (M2 := mrow (mrow (mrow (mrow M 54 r107) 57 q57) 58 q58) 59 q59) (Ps := []) (by decide +kernel) rfl rfl trivial ?_
                  obtain ⟨k114, hk⟩ := hk
                  rcases g115 : k_pass r107 (M.1 56) with ⟨u116, r117⟩
                  try simp only [g115] at hk
                  have t118 : GM z mX12_pass (d + 5) [.ref 54] (mrow (mrow (mrow (mrow M 54 r107) 57 q57) 58 q58) 59 q59) (fun rs => rs = .inl (none, mrow (mrow (mrow (mrow M 54 r117) 57 q57) 58 q58) 59 q59)) := by
                    have q9 := c_k_pass_54 z (d + 4) (mrow (mrow (mrow (mrow M 54 r107) 57 q57) 58 q58) 59 q59) k114
                    try simp only [mput, mrow_same, mrow_hit, mrow_miss, mrow_sw, idr_eq, ne_eq, Nat.reduceEqDiff, not_false_eq_true, Nat.reduceLT, reduceCtorEq, g115] at q9
                    exact q9
                  refine G.callV (as := []) (rest := []) (a := 54) oX12_pass lk_EvenFindersModel_233 (by decide +kernel) rfl rfl ⟨rfl, rfl⟩ (Nat.le_of_ble_eq_true rfl) rfl ⟨Nat.le_of_ble_eq_true rfl, Nat.le_of_ble_eq_true rfl⟩ t118 (fun v9 N9 h119 => ?_) (fun E9 N9 h119 => by cases h119)
                  cases h119
                  show G z mX12_town (d + 6) 0 0 119 [some (.ref 54), none, some (.int s2), some (.int v35)] [] (mrow (mrow (mrow (mrow M 54 r117) 57 q57) 58 q58) 59 q59) Q
                  refine G.sl [(.aload_n 0, 1, 0, 0, 0, 0), (.iload_n 3, 1, 3, 0, 0, 0)] [] (pc2 := 121) (ls2 := [some (.ref 54), none, some (.int s2), some (.int v35)]) (st2 := [.int v35, .ref 54]) (M2 := mrow (mrow (mrow (mrow M 54 r117) 57 q57) 58 q58) 59 q59) (Ps := []) (by decide +kernel) rfl rfl trivial ?_
                  obtain ⟨k120, hk⟩ := hk
                  rcases g121 : k_readRow r117 (M.1 56) q57 q58 q59 v35 with ⟨u122, r123, r124, r125, r126⟩
                  try simp only [g121] at hk
                  have t127 : GM z mX12_readRow (d + 5) [.ref 54, .int v35] (mrow (mrow (mrow (mrow M 54 r117) 57 q57) 58 q58) 59 q59) (fun rs => rs = .inl (none, mrow (mrow (mrow (mrow M 54 r123) 57 r124) 58 r125) 59 r126)) := by
                    have q9 := c_k_readRow_54 z d (mrow (mrow (mrow (mrow M 54 r117) 57 q57) 58 q58) 59 q59) v35 k120
                    try simp only [mput, mrow_same, mrow_hit, mrow_miss, mrow_sw, idr_eq, ne_eq, Nat.reduceEqDiff, not_false_eq_true, Nat.reduceLT, reduceCtorEq, g121] at q9
                    exact q9
                  refine G.callV (as := [.int v35]) (rest := []) (a := 54) oX12_readRow lk_EvenFindersModel_236 (by decide +kernel) rfl rfl ⟨rfl, rfl⟩ (Nat.le_of_ble_eq_true rfl) rfl ⟨Nat.le_of_ble_eq_true rfl, Nat.le_of_ble_eq_true rfl⟩ t127 (fun v9 N9 h128 => ?_) (fun E9 N9 h128 => by cases h128)
                  cases h128
                  show G z mX12_town (d + 6) 0 0 124 [some (.ref 54), none, some (.int s2), some (.int v35)] [] (mrow (mrow (mrow (mrow M 54 r123) 57 r124) 58 r125) 59 r126) Q
                  refine G.sl [(.aload_n 0, 1, 0, 0, 0, 0), (.bipush 59, 2, 0, 0, 0, nI 59)] [] (pc2 := 127) (ls2 := [some (.ref 54), none, some (.int s2), some (.int v35)]) (st2 := [.int (nI 59), .ref 54]) (M2 := mrow (mrow (mrow (mrow M 54 r123) 57 r124) 58 r125) 59 r126) (Ps := []) (by decide +kernel) rfl rfl trivial ?_
                  obtain ⟨k129, hk⟩ := hk
                  rcases g130 : k_sign r123 (M.1 56) (nI 59) with ⟨u131, r132⟩
                  try simp only [g130] at hk
                  have t133 : GM z mX12_sign (d + 5) [.ref 54, .int (nI 59)] (mrow (mrow (mrow (mrow M 54 r123) 57 r124) 58 r125) 59 r126) (fun rs => rs = .inl (none, mrow (mrow (mrow (mrow M 54 r132) 57 r124) 58 r125) 59 r126)) := by
                    have q9 := c_k_sign_54 z (d + 4) (mrow (mrow (mrow (mrow M 54 r123) 57 r124) 58 r125) 59 r126) (nI 59) k129
                    try simp only [mput, mrow_same, mrow_hit, mrow_miss, mrow_sw, idr_eq, ne_eq, Nat.reduceEqDiff, not_false_eq_true, Nat.reduceLT, reduceCtorEq, g130] at q9
                    exact q9
                  refine G.callV (as := [.int (nI 59)]) (rest := []) (a := 54) oX12_sign lk_EvenFindersModel_239 (by decide +kernel) rfl rfl ⟨rfl, rfl⟩ (Nat.le_of_ble_eq_true rfl) rfl ⟨Nat.le_of_ble_eq_true rfl, Nat.le_of_ble_eq_true rfl⟩ t133 (fun v9 N9 h134 => ?_) (fun E9 N9 h134 => by cases h134)
                  cases h134
                  show G z mX12_town (d + 6) 0 0 130 [some (.ref 54), none, some (.int s2), some (.int v35)] [] (mrow (mrow (mrow (mrow M 54 r132) 57 r124) 58 r125) 59 r126) Q
                  refine G.sl [(.iinc 2 1, 3, 2, 0, 0, nI 1), (.goto (-89), 3, 44, 0, 0, 0)] [] (pc2 := 44) (ls2 := [some (.ref 54), none, some (.int (s2 + nI 1)), some (.int v35)]) (st2 := []) (M2 := mrow (mrow (mrow (mrow M 54 r132) 57 r124) 58 r125) 59 r126) (Ps := []) (by decide +kernel) rfl rfl trivial ?_
                  refine G.loc (ls2 := [some (.ref 54), none, some (.int (s2 + nI 1)), none]) (by simp [subL]) ?_
                  simp only [k_town_44, if_neg c25, g27, if_neg c32, g34, if_neg c42, if_neg c43, if_neg c78, g105, if_neg c113, g115, g121, g130] at hX
                  exact ih (s2 + nI 1) r132 r124 r125 r126 hk hX
                · skip
                  rw [if_pos c113] at hk
                  refine G.sl [(.goto 24, 3, 136, 0, 0, 0)] [] (pc2 := 136) (ls2 := [some (.ref 54), none, some (.int s2), some (.int v35)]) (st2 := []) (M2 := mrow (mrow (mrow (mrow M 54 r107) 57 q57) 58 q58) 59 q59) (Ps := []) (by decide +kernel) rfl rfl trivial ?_
                  refine G.loc (ls2 := [some (.ref 54), none, none, none]) (by simp [subL]) ?_
                  simp only [k_town_44, if_neg c25, g27, if_neg c32, g34, if_neg c42, if_neg c43, if_neg c78, g105, if_pos c113] at hX
                  exact hX
          · skip
            rw [if_pos c42] at hk
            refine G.sl [(.aload_n 0, 1, 0, 0, 0, 0), (.iconst 1, 1, 0, 0, 0, nI 1), (.aload_n 0, 1, 0, 0, 0, 0), (.getfield 107, 3, 11, 4, 127, 0)] [] (pc2 := 76) (ls2 := [some (.ref 54), none, some (.int s2), some (.int v35)]) (st2 := [.int (r36 4), .int (nI 1), .ref 54]) (M2 := mrow (mrow (mrow (mrow M 54 r36) 57 q57) 58 q58) 59 q59) (Ps := []) (by decide +kernel) rfl rfl trivial ?_
            obtain ⟨k135, hk⟩ := hk
            rcases g136 : k_wrong r36 (nI 1) (r36 4) with ⟨u137, r138⟩
            try simp only [g136] at hk
            have t139 : GM z mX12_wrong (d + 5) [.ref 54, .int (nI 1), .int (r36 4)] (mrow (mrow (mrow (mrow M 54 r36) 57 q57) 58 q58) 59 q59) (fun rs => rs = .inl (none, mrow (mrow (mrow (mrow M 54 r138) 57 q57) 58 q58) 59 q59)) := by
              have q9 := c_k_wrong_54 z (d + 5) (mrow (mrow (mrow (mrow M 54 r36) 57 q57) 58 q58) 59 q59) (nI 1) (r36 4)
              try simp only [mput, mrow_same, mrow_hit, mrow_miss, mrow_sw, idr_eq, ne_eq, Nat.reduceEqDiff, not_false_eq_true, Nat.reduceLT, reduceCtorEq, g136] at q9
              exact q9
            refine G.callV (as := [.int (nI 1), .int (r36 4)]) (rest := []) (a := 54) oX12_wrong lk_EvenFindersModel_137 (by decide +kernel) rfl rfl ⟨rfl, rfl⟩ (Nat.le_of_ble_eq_true rfl) rfl ⟨Nat.le_of_ble_eq_true rfl, Nat.le_of_ble_eq_true rfl⟩ t139 (fun v9 N9 h140 => ?_) (fun E9 N9 h140 => by cases h140)
            cases h140
            show G z mX12_town (d + 6) 0 0 79 [some (.ref 54), none, some (.int s2), some (.int v35)] [] (mrow (mrow (mrow (mrow M 54 r138) 57 q57) 58 q58) 59 q59) Q
            refine G.sl [(.goto 26, 3, 105, 0, 0, 0), (.aload_n 0, 1, 0, 0, 0, 0)] [] (pc2 := 106) (ls2 := [some (.ref 54), none, some (.int s2), some (.int v35)]) (st2 := [.ref 54]) (M2 := mrow (mrow (mrow (mrow M 54 r138) 57 q57) 58 q58) 59 q59) (Ps := []) (by decide +kernel) rfl rfl trivial ?_
            obtain ⟨k141, hk⟩ := hk
            have t142 : GM z mX12_fine (d + 5) [.ref 54] (mrow (mrow (mrow (mrow M 54 r138) 57 q57) 58 q58) 59 q59) (fun rs => rs = .inl (some (.int (k_fine r138)), mrow (mrow (mrow (mrow M 54 r138) 57 q57) 58 q58) 59 q59)) := by
              have q9 := c_k_fine_54 z (d + 5) (mrow (mrow (mrow (mrow M 54 r138) 57 q57) 58 q58) 59 q59) 
              try simp only [mput, mrow_same, mrow_hit, mrow_miss, mrow_sw, idr_eq, ne_eq, Nat.reduceEqDiff, not_false_eq_true, Nat.reduceLT, reduceCtorEq] at q9
              exact q9
            refine G.callV (as := []) (rest := []) (a := 54) oX12_fine lk_EvenFindersModel_130 (by decide +kernel) rfl rfl ⟨rfl, rfl⟩ (Nat.le_of_ble_eq_true rfl) rfl ⟨Nat.le_of_ble_eq_true rfl, Nat.le_of_ble_eq_true rfl⟩ t142 (fun v9 N9 h143 => ?_) (fun E9 N9 h143 => by cases h143)
            cases h143
            show G z mX12_town (d + 6) 0 0 109 [some (.ref 54), none, some (.int s2), some (.int v35)] [.int (k_fine r138)] (mrow (mrow (mrow (mrow M 54 r138) 57 q57) 58 q58) 59 q59) Q
            refine G.if_ne (off := (6)) (tgt := 115) (by decide +kernel) rfl (fun c144 => ?_) (fun c144 => ?_)
            · skip
              rw [if_neg c144] at hk
              refine G.sl [(.aload_n 0, 1, 0, 0, 0, 0)] [] (pc2 := 116) (ls2 := [some (.ref 54), none, some (.int s2), some (.int v35)]) (st2 := [.ref 54]) (M2 := mrow (mrow (mrow (mrow M 54 r138) 57 q57) 58 q58) 59 q59) (Ps := []) (by decide +kernel) rfl rfl trivial ?_
              obtain ⟨k145, hk⟩ := hk
              rcases g146 : k_pass r138 (M.1 56) with ⟨u147, r148⟩
              try simp only [g146] at hk
              have t149 : GM z mX12_pass (d + 5) [.ref 54] (mrow (mrow (mrow (mrow M 54 r138) 57 q57) 58 q58) 59 q59) (fun rs => rs = .inl (none, mrow (mrow (mrow (mrow M 54 r148) 57 q57) 58 q58) 59 q59)) := by
                have q9 := c_k_pass_54 z (d + 4) (mrow (mrow (mrow (mrow M 54 r138) 57 q57) 58 q58) 59 q59) k145
                try simp only [mput, mrow_same, mrow_hit, mrow_miss, mrow_sw, idr_eq, ne_eq, Nat.reduceEqDiff, not_false_eq_true, Nat.reduceLT, reduceCtorEq, g146] at q9
                exact q9
              refine G.callV (as := []) (rest := []) (a := 54) oX12_pass lk_EvenFindersModel_233 (by decide +kernel) rfl rfl ⟨rfl, rfl⟩ (Nat.le_of_ble_eq_true rfl) rfl ⟨Nat.le_of_ble_eq_true rfl, Nat.le_of_ble_eq_true rfl⟩ t149 (fun v9 N9 h150 => ?_) (fun E9 N9 h150 => by cases h150)
              cases h150
              show G z mX12_town (d + 6) 0 0 119 [some (.ref 54), none, some (.int s2), some (.int v35)] [] (mrow (mrow (mrow (mrow M 54 r148) 57 q57) 58 q58) 59 q59) Q
              refine G.sl [(.aload_n 0, 1, 0, 0, 0, 0), (.iload_n 3, 1, 3, 0, 0, 0)] [] (pc2 := 121) (ls2 := [some (.ref 54), none, some (.int s2), some (.int v35)]) (st2 := [.int v35, .ref 54]) (M2 := mrow (mrow (mrow (mrow M 54 r148) 57 q57) 58 q58) 59 q59) (Ps := []) (by decide +kernel) rfl rfl trivial ?_
              obtain ⟨k151, hk⟩ := hk
              rcases g152 : k_readRow r148 (M.1 56) q57 q58 q59 v35 with ⟨u153, r154, r155, r156, r157⟩
              try simp only [g152] at hk
              have t158 : GM z mX12_readRow (d + 5) [.ref 54, .int v35] (mrow (mrow (mrow (mrow M 54 r148) 57 q57) 58 q58) 59 q59) (fun rs => rs = .inl (none, mrow (mrow (mrow (mrow M 54 r154) 57 r155) 58 r156) 59 r157)) := by
                have q9 := c_k_readRow_54 z d (mrow (mrow (mrow (mrow M 54 r148) 57 q57) 58 q58) 59 q59) v35 k151
                try simp only [mput, mrow_same, mrow_hit, mrow_miss, mrow_sw, idr_eq, ne_eq, Nat.reduceEqDiff, not_false_eq_true, Nat.reduceLT, reduceCtorEq, g152] at q9
                exact q9
              refine G.callV (as := [.int v35]) (rest := []) (a := 54) oX12_readRow lk_EvenFindersModel_236 (by decide +kernel) rfl rfl ⟨rfl, rfl⟩ (Nat.le_of_ble_eq_true rfl) rfl ⟨Nat.le_of_ble_eq_true rfl, Nat.le_of_ble_eq_true rfl⟩ t158 (fun v9 N9 h159 => ?_) (fun E9 N9 h159 => by cases h159)
              cases h159
              show G z mX12_town (d + 6) 0 0 124 [some (.ref 54), none, some (.int s2), some (.int v35)] [] (mrow (mrow (mrow (mrow M 54 r154) 57 r155) 58 r156) 59 r157) Q
              refine G.sl [(.aload_n 0, 1, 0, 0, 0, 0), (.bipush 59, 2, 0, 0, 0, nI 59)] [] (pc2 := 127) (ls2 := [some (.ref 54), none, some (.int s2), some (.int v35)]) (st2 := [.int (nI 59), .ref 54]) (M2 := mrow (mrow (mrow (mrow M 54 r154) 57 r155) 58 r156) 59 r157) (Ps := []) (by decide +kernel) rfl rfl trivial ?_
              obtain ⟨k160, hk⟩ := hk
              rcases g161 : k_sign r154 (M.1 56) (nI 59) with ⟨u162, r163⟩
              try simp only [g161] at hk
              have t164 : GM z mX12_sign (d + 5) [.ref 54, .int (nI 59)] (mrow (mrow (mrow (mrow M 54 r154) 57 r155) 58 r156) 59 r157) (fun rs => rs = .inl (none, mrow (mrow (mrow (mrow M 54 r163) 57 r155) 58 r156) 59 r157)) := by
                have q9 := c_k_sign_54 z (d + 4) (mrow (mrow (mrow (mrow M 54 r154) 57 r155) 58 r156) 59 r157) (nI 59) k160
                try simp only [mput, mrow_same, mrow_hit, mrow_miss, mrow_sw, idr_eq, ne_eq, Nat.reduceEqDiff, not_false_eq_true, Nat.reduceLT, reduceCtorEq, g161] at q9
                exact q9
              refine G.callV (as := [.int (nI 59)]) (rest := []) (a := 54) oX12_sign lk_EvenFindersModel_239 (by decide +kernel) rfl rfl ⟨rfl, rfl⟩ (Nat.le_of_ble_eq_true rfl) rfl ⟨Nat.le_of_ble_eq_true rfl, Nat.le_of_ble_eq_true rfl⟩ t164 (fun v9 N9 h165 => ?_) (fun E9 N9 h165 => by cases h165)
              cases h165
              show G z mX12_town (d + 6) 0 0 130 [some (.ref 54), none, some (.int s2), some (.int v35)] [] (mrow (mrow (mrow (mrow M 54 r163) 57 r155) 58 r156) 59 r157) Q
              refine G.sl [(.iinc 2 1, 3, 2, 0, 0, nI 1), (.goto (-89), 3, 44, 0, 0, 0)] [] (pc2 := 44) (ls2 := [some (.ref 54), none, some (.int (s2 + nI 1)), some (.int v35)]) (st2 := []) (M2 := mrow (mrow (mrow (mrow M 54 r163) 57 r155) 58 r156) 59 r157) (Ps := []) (by decide +kernel) rfl rfl trivial ?_
              refine G.loc (ls2 := [some (.ref 54), none, some (.int (s2 + nI 1)), none]) (by simp [subL]) ?_
              simp only [k_town_44, if_neg c25, g27, if_neg c32, g34, if_pos c42, g136, if_neg c144, g146, g152, g161] at hX
              exact ih (s2 + nI 1) r163 r155 r156 r157 hk hX
            · skip
              rw [if_pos c144] at hk
              refine G.sl [(.goto 24, 3, 136, 0, 0, 0)] [] (pc2 := 136) (ls2 := [some (.ref 54), none, some (.int s2), some (.int v35)]) (st2 := []) (M2 := mrow (mrow (mrow (mrow M 54 r138) 57 q57) 58 q58) 59 q59) (Ps := []) (by decide +kernel) rfl rfl trivial ?_
              refine G.loc (ls2 := [some (.ref 54), none, none, none]) (by simp [subL]) ?_
              simp only [k_town_44, if_neg c25, g27, if_neg c32, g34, if_pos c42, g136, if_pos c144] at hX
              exact hX
set_option maxHeartbeats 4000000 in
set_option maxRecDepth 3000 in
theorem c_k_town_54 (z : Zp) (d : Nat) (M : Mem) (x1 : Int32) (hk : k_town_ok (M.1 54) (M.1 55) (M.1 56) (M.1 57) (M.1 58) (M.1 59) (M.1 60) (M.1 61) (M.1 62) (M.1 71) (M.1 75) (M.1 76) x1) : GM z mX12_town (d + 6) [.ref 54, .int x1] M (fun rs => rs = .inl (some (.int ((k_town (M.1 54) (M.1 55) (M.1 56) (M.1 57) (M.1 58) (M.1 59) (M.1 60) (M.1 61) (M.1 62) (M.1 71) (M.1 75) (M.1 76) x1).1)), mrow (mrow (mrow (mrow (mrow (mrow (mrow (mrow (mrow (mrow (mrow M 54 ((k_town (M.1 54) (M.1 55) (M.1 56) (M.1 57) (M.1 58) (M.1 59) (M.1 60) (M.1 61) (M.1 62) (M.1 71) (M.1 75) (M.1 76) x1).2.1)) 55 ((k_town (M.1 54) (M.1 55) (M.1 56) (M.1 57) (M.1 58) (M.1 59) (M.1 60) (M.1 61) (M.1 62) (M.1 71) (M.1 75) (M.1 76) x1).2.2.1)) 57 ((k_town (M.1 54) (M.1 55) (M.1 56) (M.1 57) (M.1 58) (M.1 59) (M.1 60) (M.1 61) (M.1 62) (M.1 71) (M.1 75) (M.1 76) x1).2.2.2.1)) 58 ((k_town (M.1 54) (M.1 55) (M.1 56) (M.1 57) (M.1 58) (M.1 59) (M.1 60) (M.1 61) (M.1 62) (M.1 71) (M.1 75) (M.1 76) x1).2.2.2.2.1)) 59 ((k_town (M.1 54) (M.1 55) (M.1 56) (M.1 57) (M.1 58) (M.1 59) (M.1 60) (M.1 61) (M.1 62) (M.1 71) (M.1 75) (M.1 76) x1).2.2.2.2.2.1)) 60 ((k_town (M.1 54) (M.1 55) (M.1 56) (M.1 57) (M.1 58) (M.1 59) (M.1 60) (M.1 61) (M.1 62) (M.1 71) (M.1 75) (M.1 76) x1).2.2.2.2.2.2.1)) 61 ((k_town (M.1 54) (M.1 55) (M.1 56) (M.1 57) (M.1 58) (M.1 59) (M.1 60) (M.1 61) (M.1 62) (M.1 71) (M.1 75) (M.1 76) x1).2.2.2.2.2.2.2.1)) 62 ((k_town (M.1 54) (M.1 55) (M.1 56) (M.1 57) (M.1 58) (M.1 59) (M.1 60) (M.1 61) (M.1 62) (M.1 71) (M.1 75) (M.1 76) x1).2.2.2.2.2.2.2.2.1)) 71 ((k_town (M.1 54) (M.1 55) (M.1 56) (M.1 57) (M.1 58) (M.1 59) (M.1 60) (M.1 61) (M.1 62) (M.1 71) (M.1 75) (M.1 76) x1).2.2.2.2.2.2.2.2.2.1)) 75 ((k_town (M.1 54) (M.1 55) (M.1 56) (M.1 57) (M.1 58) (M.1 59) (M.1 60) (M.1 61) (M.1 62) (M.1 71) (M.1 75) (M.1 76) x1).2.2.2.2.2.2.2.2.2.2.1)) 76 ((k_town (M.1 54) (M.1 55) (M.1 56) (M.1 57) (M.1 58) (M.1 59) (M.1 60) (M.1 61) (M.1 62) (M.1 71) (M.1 75) (M.1 76) x1).2.2.2.2.2.2.2.2.2.2.2))) := by
  simp only [k_town_ok] at hk
  refine GM.of oX12_town.1 (Nat.le_of_ble_eq_true rfl) ?_
  show G z mX12_town (d + 6) 0 0 0 [some (.ref 54), some (.int x1), none, none] [] M _
  obtain ⟨Q, hQ⟩ : ∃ Q : Rs → Prop, Q = (fun rs => rs = .inl (some (.int ((k_town (M.1 54) (M.1 55) (M.1 56) (M.1 57) (M.1 58) (M.1 59) (M.1 60) (M.1 61) (M.1 62) (M.1 71) (M.1 75) (M.1 76) x1).1)), mrow (mrow (mrow (mrow (mrow (mrow (mrow (mrow (mrow (mrow (mrow M 54 ((k_town (M.1 54) (M.1 55) (M.1 56) (M.1 57) (M.1 58) (M.1 59) (M.1 60) (M.1 61) (M.1 62) (M.1 71) (M.1 75) (M.1 76) x1).2.1)) 55 ((k_town (M.1 54) (M.1 55) (M.1 56) (M.1 57) (M.1 58) (M.1 59) (M.1 60) (M.1 61) (M.1 62) (M.1 71) (M.1 75) (M.1 76) x1).2.2.1)) 57 ((k_town (M.1 54) (M.1 55) (M.1 56) (M.1 57) (M.1 58) (M.1 59) (M.1 60) (M.1 61) (M.1 62) (M.1 71) (M.1 75) (M.1 76) x1).2.2.2.1)) 58 ((k_town (M.1 54) (M.1 55) (M.1 56) (M.1 57) (M.1 58) (M.1 59) (M.1 60) (M.1 61) (M.1 62) (M.1 71) (M.1 75) (M.1 76) x1).2.2.2.2.1)) 59 ((k_town (M.1 54) (M.1 55) (M.1 56) (M.1 57) (M.1 58) (M.1 59) (M.1 60) (M.1 61) (M.1 62) (M.1 71) (M.1 75) (M.1 76) x1).2.2.2.2.2.1)) 60 ((k_town (M.1 54) (M.1 55) (M.1 56) (M.1 57) (M.1 58) (M.1 59) (M.1 60) (M.1 61) (M.1 62) (M.1 71) (M.1 75) (M.1 76) x1).2.2.2.2.2.2.1)) 61 ((k_town (M.1 54) (M.1 55) (M.1 56) (M.1 57) (M.1 58) (M.1 59) (M.1 60) (M.1 61) (M.1 62) (M.1 71) (M.1 75) (M.1 76) x1).2.2.2.2.2.2.2.1)) 62 ((k_town (M.1 54) (M.1 55) (M.1 56) (M.1 57) (M.1 58) (M.1 59) (M.1 60) (M.1 61) (M.1 62) (M.1 71) (M.1 75) (M.1 76) x1).2.2.2.2.2.2.2.2.1)) 71 ((k_town (M.1 54) (M.1 55) (M.1 56) (M.1 57) (M.1 58) (M.1 59) (M.1 60) (M.1 61) (M.1 62) (M.1 71) (M.1 75) (M.1 76) x1).2.2.2.2.2.2.2.2.2.1)) 75 ((k_town (M.1 54) (M.1 55) (M.1 56) (M.1 57) (M.1 58) (M.1 59) (M.1 60) (M.1 61) (M.1 62) (M.1 71) (M.1 75) (M.1 76) x1).2.2.2.2.2.2.2.2.2.2.1)) 76 ((k_town (M.1 54) (M.1 55) (M.1 56) (M.1 57) (M.1 58) (M.1 59) (M.1 60) (M.1 61) (M.1 62) (M.1 71) (M.1 75) (M.1 76) x1).2.2.2.2.2.2.2.2.2.2.2))) := ⟨_, rfl⟩
  rw [← hQ]
  refine G.sl [(.aload_n 0, 1, 0, 0, 0, 0), (.iconst 0, 1, 0, 0, 0, nI 0), (.putfield 3, 3, 11, 0, 123, 0), (.aload_n 0, 1, 0, 0, 0, 0), (.iload_n 1, 1, 1, 0, 0, 0)] [] (pc2 := 7) (ls2 := [some (.ref 54), some (.int x1), none, none]) (st2 := [.int x1, .ref 54]) (M2 := mput M 54 0 (nI 0)) (Ps := []) (by decide +kernel) rfl rfl trivial ?_
  refine G.mem (M' := mrow M 54 (upd (M.1 54) 0 (nI 0))) (by first | rfl | (simp only [mput, mrow_same, mrow_hit, mrow_miss, mrow_sw, idr_eq, ne_eq, Nat.reduceEqDiff, not_false_eq_true, Nat.reduceLT, reduceCtorEq]; done)) ?_
  refine G.if_lt (off := (15)) (tgt := 22) (by decide +kernel) rfl (fun c1 => ?_) (fun c1 => ?_)
  · skip
    rw [if_pos c1] at hk
    refine G.sl [(.iconst 0, 1, 0, 0, 0, nI 0), (.iconst 1, 1, 0, 0, 0, nI 1), (.iconst 1, 1, 0, 0, 0, nI 1)] [] (pc2 := 25) (ls2 := [some (.ref 54), some (.int x1), none, none]) (st2 := [.int (nI 1), .int (nI 1), .int (nI 0), .ref 54]) (M2 := mrow M 54 (upd (M.1 54) 0 (nI 0))) (Ps := []) (by decide +kernel) rfl rfl trivial ?_
    obtain ⟨k2, hk⟩ := hk
    rcases g3 : k_may_1 (upd (M.1 54) 0 (nI 0)) (M.1 55) (nI 0) (nI 1) with ⟨v4, r5, r6⟩
    try simp only [g3] at hk
    have ev4 : v4 = 0 ∨ v4 = 1 := by
      have q9 := k_may_1_01 (upd (M.1 54) 0 (nI 0)) (M.1 55) (nI 0) (nI 1)
      rw [g3] at q9
      exact q9
    have t7 : GM z mX12_may (d + 5) [.ref 54, .int (nI 0), .int (nI 1), .int (nI 1)] (mrow M 54 (upd (M.1 54) 0 (nI 0))) (fun rs => rs = .inl (some (.int v4), mrow (mrow M 54 r5) 55 r6)) := by
      have q9 := c_k_may_1_54 z (d + 5) (mrow M 54 (upd (M.1 54) 0 (nI 0))) (nI 0) (nI 1)
      try simp only [mput, mrow_same, mrow_hit, mrow_miss, mrow_sw, idr_eq, ne_eq, Nat.reduceEqDiff, not_false_eq_true, Nat.reduceLT, reduceCtorEq, g3] at q9
      exact q9
    refine G.callV (as := [.int (nI 0), .int (nI 1), .int (nI 1)]) (rest := []) (a := 54) oX12_may lk_EvenFindersModel_213 (by decide +kernel) rfl rfl ⟨rfl, rfl⟩ (Nat.le_of_ble_eq_true rfl) rfl ⟨Nat.le_of_ble_eq_true rfl, Nat.le_of_ble_eq_true rfl⟩ t7 (fun v9 N9 h8 => ?_) (fun E9 N9 h8 => by cases h8)
    cases h8
    show G z mX12_town (d + 6) 0 0 28 [some (.ref 54), some (.int x1), none, none] [.int v4] (mrow (mrow M 54 r5) 55 r6) Q
    refine G.if_ne (off := (5)) (tgt := 33) (by decide +kernel) rfl (fun c9 => ?_) (fun c9 => ?_)
    · skip
      rw [if_neg c9] at hk
      refine G.sl [(.aload_n 0, 1, 0, 0, 0, 0), (.iload_n 1, 1, 1, 0, 0, 0)] [] (pc2 := 35) (ls2 := [some (.ref 54), some (.int x1), none, none]) (st2 := [.int x1, .ref 54]) (M2 := mrow (mrow M 54 r5) 55 r6) (Ps := []) (by decide +kernel) rfl rfl trivial ?_
      obtain ⟨k10, hk⟩ := hk
      rcases g11 : k_begins r5 x1 with ⟨u12, r13⟩
      try simp only [g11] at hk
      have t14 : GM z mX12_begins (d + 5) [.ref 54, .int x1] (mrow (mrow M 54 r5) 55 r6) (fun rs => rs = .inl (none, mrow (mrow M 54 r13) 55 r6)) := by
        have q9 := c_k_begins_54 z (d + 5) (mrow (mrow M 54 r5) 55 r6) x1
        try simp only [mput, mrow_same, mrow_hit, mrow_miss, mrow_sw, idr_eq, ne_eq, Nat.reduceEqDiff, not_false_eq_true, Nat.reduceLT, reduceCtorEq, g11] at q9
        exact q9
      refine G.callV (as := [.int x1]) (rest := []) (a := 54) oX12_begins lk_EvenFindersModel_217 (by decide +kernel) rfl rfl ⟨rfl, rfl⟩ (Nat.le_of_ble_eq_true rfl) rfl ⟨Nat.le_of_ble_eq_true rfl, Nat.le_of_ble_eq_true rfl⟩ t14 (fun v9 N9 h15 => ?_) (fun E9 N9 h15 => by cases h15)
      cases h15
      show G z mX12_town (d + 6) 0 0 38 [some (.ref 54), some (.int x1), none, none] [] (mrow (mrow M 54 r13) 55 r6) Q
      refine G.sl [(.aload_n 0, 1, 0, 0, 0, 0)] [] (pc2 := 39) (ls2 := [some (.ref 54), some (.int x1), none, none]) (st2 := [.ref 54]) (M2 := mrow (mrow M 54 r13) 55 r6) (Ps := []) (by decide +kernel) rfl rfl trivial ?_
      obtain ⟨k16, hk⟩ := hk
      rcases g17 : k_clears r13 with ⟨u18, r19⟩
      try simp only [g17] at hk
      have t20 : GM z mX12_clears (d + 5) [.ref 54] (mrow (mrow M 54 r13) 55 r6) (fun rs => rs = .inl (none, mrow (mrow M 54 r19) 55 r6)) := by
        have q9 := c_k_clears_54 z (d + 5) (mrow (mrow M 54 r13) 55 r6) 
        try simp only [mput, mrow_same, mrow_hit, mrow_miss, mrow_sw, idr_eq, ne_eq, Nat.reduceEqDiff, not_false_eq_true, Nat.reduceLT, reduceCtorEq, g17] at q9
        exact q9
      refine G.callV (as := []) (rest := []) (a := 54) oX12_clears lk_EvenFindersModel_92 (by decide +kernel) rfl rfl ⟨rfl, rfl⟩ (Nat.le_of_ble_eq_true rfl) rfl ⟨Nat.le_of_ble_eq_true rfl, Nat.le_of_ble_eq_true rfl⟩ t20 (fun v9 N9 h21 => ?_) (fun E9 N9 h21 => by cases h21)
      cases h21
      show G z mX12_town (d + 6) 0 0 42 [some (.ref 54), some (.int x1), none, none] [] (mrow (mrow M 54 r19) 55 r6) Q
      refine G.sl [(.iconst 0, 1, 0, 0, 0, nI 0), (.istore_n 2, 1, 2, 0, 0, 0)] [] (pc2 := 44) (ls2 := [some (.ref 54), some (.int x1), some (.int (nI 0)), none]) (st2 := []) (M2 := mrow (mrow M 54 r19) 55 r6) (Ps := []) (by decide +kernel) rfl rfl trivial ?_
      refine G.loc (ls2 := [some (.ref 54), none, some (.int (nI 0)), none]) (by simp [subL]) ?_
      obtain ⟨k166, hk⟩ := hk
      refine G.mem (M' := mrow (mrow (mrow (mrow (mrow (mrow M 54 r19) 55 r6) 54 ((mrow (mrow M 54 r19) 55 r6).1 54)) 57 ((mrow (mrow M 54 r19) 55 r6).1 57)) 58 ((mrow (mrow M 54 r19) 55 r6).1 58)) 59 ((mrow (mrow M 54 r19) 55 r6).1 59)) (by simp only [mrow_self]) ?_
      refine lp_k_town_54_44 z d (mrow (mrow M 54 r19) 55 r6) Q FU (nI 0) ((mrow (mrow M 54 r19) 55 r6).1 54) ((mrow (mrow M 54 r19) 55 r6).1 57) ((mrow (mrow M 54 r19) 55 r6).1 58) ((mrow (mrow M 54 r19) 55 r6).1 59) (by first | (simp only [mput, mrow_same, mrow_hit, mrow_miss, mrow_sw, idr_eq, ne_eq, Nat.reduceEqDiff, not_false_eq_true, Nat.reduceLT, reduceCtorEq]; exact k166) | exact k166) ?_
      try simp only [mput, mrow_same, mrow_hit, mrow_miss, mrow_sw, idr_eq, ne_eq, Nat.reduceEqDiff, not_false_eq_true, Nat.reduceLT, reduceCtorEq]
      rcases g167 : k_town_44 (M.1 56) FU (nI 0) r19 (M.1 57) (M.1 58) (M.1 59) with ⟨v168, r169, r170, r171, r172⟩
      try simp only [g167] at hk
      show G z mX12_town (d + 6) 0 0 136 [some (.ref 54), none, none, none] [] (mrow (mrow (mrow (mrow (mrow M 54 r169) 55 r6) 57 r170) 58 r171) 59 r172) Q
      refine G.sl [(.aload_n 0, 1, 0, 0, 0, 0), (.aload_n 0, 1, 0, 0, 0, 0), (.getfield 150, 3, 11, 18, 141, 0)] [] (pc2 := 141) (ls2 := [some (.ref 54), none, none, none]) (st2 := [.int (r169 18), .ref 54]) (M2 := mrow (mrow (mrow (mrow (mrow M 54 r169) 55 r6) 57 r170) 58 r171) 59 r172) (Ps := []) (by decide +kernel) rfl rfl trivial ?_
      obtain ⟨k173, hk⟩ := hk
      rcases g174 : k_result r169 (r169 18) with ⟨v175, r176⟩
      try simp only [g174] at hk
      have t177 : GM z mX12_result (d + 5) [.ref 54, .int (r169 18)] (mrow (mrow (mrow (mrow (mrow M 54 r169) 55 r6) 57 r170) 58 r171) 59 r172) (fun rs => rs = .inl (some (.int v175), mrow (mrow (mrow (mrow (mrow M 54 r176) 55 r6) 57 r170) 58 r171) 59 r172)) := by
        have q9 := c_k_result_54 z (d + 4) (mrow (mrow (mrow (mrow (mrow M 54 r169) 55 r6) 57 r170) 58 r171) 59 r172) (r169 18)
        try simp only [mput, mrow_same, mrow_hit, mrow_miss, mrow_sw, idr_eq, ne_eq, Nat.reduceEqDiff, not_false_eq_true, Nat.reduceLT, reduceCtorEq, g174] at q9
        exact q9
      refine G.callV (as := [.int (r169 18)]) (rest := []) (a := 54) oX12_result lk_EvenFindersModel_242 (by decide +kernel) rfl rfl ⟨rfl, rfl⟩ (Nat.le_of_ble_eq_true rfl) rfl ⟨Nat.le_of_ble_eq_true rfl, Nat.le_of_ble_eq_true rfl⟩ t177 (fun v9 N9 h178 => ?_) (fun E9 N9 h178 => by cases h178)
      cases h178
      show G z mX12_town (d + 6) 0 0 144 [some (.ref 54), none, none, none] [.int v175] (mrow (mrow (mrow (mrow (mrow M 54 r176) 55 r6) 57 r170) 58 r171) 59 r172) Q
      refine G.sl [(.istore_n 3, 1, 3, 0, 0, 0), (.aload_n 0, 1, 0, 0, 0, 0), (.getfield 101, 3, 11, 5, 128, 0), (.iconst (-1), 1, 0, 0, 0, (-1))] [] (pc2 := 150) (ls2 := [some (.ref 54), none, none, some (.int v175)]) (st2 := [.int ((-1)), .int (r176 5)]) (M2 := mrow (mrow (mrow (mrow (mrow M 54 r176) 55 r6) 57 r170) 58 r171) 59 r172) (Ps := []) (by decide +kernel) rfl rfl trivial ?_
      refine G.ic_ne (off := (7)) (tgt := 157) (by decide +kernel) rfl (fun c179 => ?_) (fun c179 => ?_)
      · skip
        rw [if_neg c179] at hk
        refine G.sl [(.iload_n 3, 1, 3, 0, 0, 0)] [] (pc2 := 158) (ls2 := [some (.ref 54), none, none, some (.int v175)]) (st2 := [.int v175]) (M2 := mrow (mrow (mrow (mrow (mrow M 54 r176) 55 r6) 57 r170) 58 r171) 59 r172) (Ps := []) (by decide +kernel) rfl rfl trivial ?_
        refine G.mem (M' := mrow (mrow (mrow (mrow (mrow (mrow (mrow (mrow (mrow (mrow (mrow M 54 r176) 55 r6) 57 r170) 58 r171) 59 r172) 60 (M.1 60)) 61 (M.1 61)) 62 (M.1 62)) 71 (M.1 71)) 75 (M.1 75)) 76 (M.1 76)) ((((((((mrow_id (N := mrow (mrow (mrow (mrow (mrow M 54 r176) 55 r6) 57 r170) 58 r171) 59 r172) (c := 60) (f := M.1 60) (by first | rfl | (simp only [mput, mrow_same, mrow_hit, mrow_miss, mrow_sw, idr_eq, ne_eq, Nat.reduceEqDiff, not_false_eq_true, Nat.reduceLT, reduceCtorEq]; done))).symm).trans (mrow_id (N := mrow (mrow (mrow (mrow (mrow (mrow M 54 r176) 55 r6) 57 r170) 58 r171) 59 r172) 60 (M.1 60)) (c := 61) (f := M.1 61) (by first | rfl | (simp only [mput, mrow_same, mrow_hit, mrow_miss, mrow_sw, idr_eq, ne_eq, Nat.reduceEqDiff, not_false_eq_true, Nat.reduceLT, reduceCtorEq]; done))).symm).trans (mrow_id (N := mrow (mrow (mrow (mrow (mrow (mrow (mrow M 54 r176) 55 r6) 57 r170) 58 r171) 59 r172) 60 (M.1 60)) 61 (M.1 61)) (c := 62) (f := M.1 62) (by first | rfl | (simp only [mput, mrow_same, mrow_hit, mrow_miss, mrow_sw, idr_eq, ne_eq, Nat.reduceEqDiff, not_false_eq_true, Nat.reduceLT, reduceCtorEq]; done))).symm).trans (mrow_id (N := mrow (mrow (mrow (mrow (mrow (mrow (mrow (mrow M 54 r176) 55 r6) 57 r170) 58 r171) 59 r172) 60 (M.1 60)) 61 (M.1 61)) 62 (M.1 62)) (c := 71) (f := M.1 71) (by first | rfl | (simp only [mput, mrow_same, mrow_hit, mrow_miss, mrow_sw, idr_eq, ne_eq, Nat.reduceEqDiff, not_false_eq_true, Nat.reduceLT, reduceCtorEq]; done))).symm).trans (mrow_id (N := mrow (mrow (mrow (mrow (mrow (mrow (mrow (mrow (mrow M 54 r176) 55 r6) 57 r170) 58 r171) 59 r172) 60 (M.1 60)) 61 (M.1 61)) 62 (M.1 62)) 71 (M.1 71)) (c := 75) (f := M.1 75) (by first | rfl | (simp only [mput, mrow_same, mrow_hit, mrow_miss, mrow_sw, idr_eq, ne_eq, Nat.reduceEqDiff, not_false_eq_true, Nat.reduceLT, reduceCtorEq]; done))).symm).trans (mrow_id (N := mrow (mrow (mrow (mrow (mrow (mrow (mrow (mrow (mrow (mrow M 54 r176) 55 r6) 57 r170) 58 r171) 59 r172) 60 (M.1 60)) 61 (M.1 61)) 62 (M.1 62)) 71 (M.1 71)) 75 (M.1 75)) (c := 76) (f := M.1 76) (by first | rfl | (simp only [mput, mrow_same, mrow_hit, mrow_miss, mrow_sw, idr_eq, ne_eq, Nat.reduceEqDiff, not_false_eq_true, Nat.reduceLT, reduceCtorEq]; done))).symm).trans (by first | rfl | (simp only [mput, mrow_same, mrow_hit, mrow_miss, mrow_sw, idr_eq, ne_eq, Nat.reduceEqDiff, not_false_eq_true, Nat.reduceLT, reduceCtorEq]; done))) ?_
        exact G.reti (by decide +kernel) rfl rfl (Nat.le_of_ble_eq_true rfl) (Nat.le_of_ble_eq_true rfl) ((by rw [hQ]; simp only [k_town, if_pos c1, g3, if_neg c9, g11, g17, g167, g174, if_neg c179, mrow_self]))
      · skip
        rw [if_pos c179] at hk
        refine G.sl [(.aload_n 0, 1, 0, 0, 0, 0)] [] (pc2 := 154) (ls2 := [some (.ref 54), none, none, some (.int v175)]) (st2 := [.ref 54]) (M2 := mrow (mrow (mrow (mrow (mrow M 54 r176) 55 r6) 57 r170) 58 r171) 59 r172) (Ps := []) (by decide +kernel) rfl rfl trivial ?_
        obtain ⟨k180, hk⟩ := hk
        rcases g181 : k_sets r176 r170 r171 r172 (M.1 60) (M.1 61) (M.1 62) (M.1 71) (M.1 75) (M.1 76) with ⟨u182, r183, r184, r185, r186, r187, r188, r189⟩
        have t190 : GM z mX12_sets (d + 5) [.ref 54] (mrow (mrow (mrow (mrow (mrow M 54 r176) 55 r6) 57 r170) 58 r171) 59 r172) (fun rs => rs = .inl (none, mrow (mrow (mrow (mrow (mrow (mrow (mrow (mrow (mrow (mrow (mrow M 54 r183) 55 r6) 57 r170) 58 r171) 59 r172) 60 r184) 61 r185) 62 r186) 71 r187) 75 r188) 76 r189)) := by
          have q9 := c_k_sets_54 z (d + 4) (mrow (mrow (mrow (mrow (mrow M 54 r176) 55 r6) 57 r170) 58 r171) 59 r172) k180
          try simp only [mput, mrow_same, mrow_hit, mrow_miss, mrow_sw, idr_eq, ne_eq, Nat.reduceEqDiff, not_false_eq_true, Nat.reduceLT, reduceCtorEq, g181] at q9
          exact q9
        refine G.callV (as := []) (rest := []) (a := 54) oX12_sets lk_EvenFindersModel_95 (by decide +kernel) rfl rfl ⟨rfl, rfl⟩ (Nat.le_of_ble_eq_true rfl) rfl ⟨Nat.le_of_ble_eq_true rfl, Nat.le_of_ble_eq_true rfl⟩ t190 (fun v9 N9 h191 => ?_) (fun E9 N9 h191 => by cases h191)
        cases h191
        show G z mX12_town (d + 6) 0 0 157 [some (.ref 54), none, none, some (.int v175)] [] (mrow (mrow (mrow (mrow (mrow (mrow (mrow (mrow (mrow (mrow (mrow M 54 r183) 55 r6) 57 r170) 58 r171) 59 r172) 60 r184) 61 r185) 62 r186) 71 r187) 75 r188) 76 r189) Q
        refine G.sl [(.iload_n 3, 1, 3, 0, 0, 0)] [] (pc2 := 158) (ls2 := [some (.ref 54), none, none, some (.int v175)]) (st2 := [.int v175]) (M2 := mrow (mrow (mrow (mrow (mrow (mrow (mrow (mrow (mrow (mrow (mrow M 54 r183) 55 r6) 57 r170) 58 r171) 59 r172) 60 r184) 61 r185) 62 r186) 71 r187) 75 r188) 76 r189) (Ps := []) (by decide +kernel) rfl rfl trivial ?_
        exact G.reti (by decide +kernel) rfl rfl (Nat.le_of_ble_eq_true rfl) (Nat.le_of_ble_eq_true rfl) ((by rw [hQ]; simp only [k_town, if_pos c1, g3, if_neg c9, g11, g17, g167, g174, if_pos c179, g181, mrow_self]))
    · skip
      rw [if_pos c9] at hk
      refine G.sl [(.iconst 0, 1, 0, 0, 0, nI 0)] [] (pc2 := 32) (ls2 := [some (.ref 54), some (.int x1), none, none]) (st2 := [.int (nI 0)]) (M2 := mrow (mrow M 54 r5) 55 r6) (Ps := []) (by decide +kernel) rfl rfl trivial ?_
      refine G.mem (M' := mrow (mrow (mrow (mrow (mrow (mrow (mrow (mrow (mrow (mrow (mrow M 54 r5) 55 r6) 57 (M.1 57)) 58 (M.1 58)) 59 (M.1 59)) 60 (M.1 60)) 61 (M.1 61)) 62 (M.1 62)) 71 (M.1 71)) 75 (M.1 75)) 76 (M.1 76)) (((((((((((mrow_id (N := mrow (mrow M 54 r5) 55 r6) (c := 57) (f := M.1 57) (by first | rfl | (simp only [mput, mrow_same, mrow_hit, mrow_miss, mrow_sw, idr_eq, ne_eq, Nat.reduceEqDiff, not_false_eq_true, Nat.reduceLT, reduceCtorEq]; done))).symm).trans (mrow_id (N := mrow (mrow (mrow M 54 r5) 55 r6) 57 (M.1 57)) (c := 58) (f := M.1 58) (by first | rfl | (simp only [mput, mrow_same, mrow_hit, mrow_miss, mrow_sw, idr_eq, ne_eq, Nat.reduceEqDiff, not_false_eq_true, Nat.reduceLT, reduceCtorEq]; done))).symm).trans (mrow_id (N := mrow (mrow (mrow (mrow M 54 r5) 55 r6) 57 (M.1 57)) 58 (M.1 58)) (c := 59) (f := M.1 59) (by first | rfl | (simp only [mput, mrow_same, mrow_hit, mrow_miss, mrow_sw, idr_eq, ne_eq, Nat.reduceEqDiff, not_false_eq_true, Nat.reduceLT, reduceCtorEq]; done))).symm).trans (mrow_id (N := mrow (mrow (mrow (mrow (mrow M 54 r5) 55 r6) 57 (M.1 57)) 58 (M.1 58)) 59 (M.1 59)) (c := 60) (f := M.1 60) (by first | rfl | (simp only [mput, mrow_same, mrow_hit, mrow_miss, mrow_sw, idr_eq, ne_eq, Nat.reduceEqDiff, not_false_eq_true, Nat.reduceLT, reduceCtorEq]; done))).symm).trans (mrow_id (N := mrow (mrow (mrow (mrow (mrow (mrow M 54 r5) 55 r6) 57 (M.1 57)) 58 (M.1 58)) 59 (M.1 59)) 60 (M.1 60)) (c := 61) (f := M.1 61) (by first | rfl | (simp only [mput, mrow_same, mrow_hit, mrow_miss, mrow_sw, idr_eq, ne_eq, Nat.reduceEqDiff, not_false_eq_true, Nat.reduceLT, reduceCtorEq]; done))).symm).trans (mrow_id (N := mrow (mrow (mrow (mrow (mrow (mrow (mrow M 54 r5) 55 r6) 57 (M.1 57)) 58 (M.1 58)) 59 (M.1 59)) 60 (M.1 60)) 61 (M.1 61)) (c := 62) (f := M.1 62) (by first | rfl | (simp only [mput, mrow_same, mrow_hit, mrow_miss, mrow_sw, idr_eq, ne_eq, Nat.reduceEqDiff, not_false_eq_true, Nat.reduceLT, reduceCtorEq]; done))).symm).trans (mrow_id (N := mrow (mrow (mrow (mrow (mrow (mrow (mrow (mrow M 54 r5) 55 r6) 57 (M.1 57)) 58 (M.1 58)) 59 (M.1 59)) 60 (M.1 60)) 61 (M.1 61)) 62 (M.1 62)) (c := 71) (f := M.1 71) (by first | rfl | (simp only [mput, mrow_same, mrow_hit, mrow_miss, mrow_sw, idr_eq, ne_eq, Nat.reduceEqDiff, not_false_eq_true, Nat.reduceLT, reduceCtorEq]; done))).symm).trans (mrow_id (N := mrow (mrow (mrow (mrow (mrow (mrow (mrow (mrow (mrow M 54 r5) 55 r6) 57 (M.1 57)) 58 (M.1 58)) 59 (M.1 59)) 60 (M.1 60)) 61 (M.1 61)) 62 (M.1 62)) 71 (M.1 71)) (c := 75) (f := M.1 75) (by first | rfl | (simp only [mput, mrow_same, mrow_hit, mrow_miss, mrow_sw, idr_eq, ne_eq, Nat.reduceEqDiff, not_false_eq_true, Nat.reduceLT, reduceCtorEq]; done))).symm).trans (mrow_id (N := mrow (mrow (mrow (mrow (mrow (mrow (mrow (mrow (mrow (mrow M 54 r5) 55 r6) 57 (M.1 57)) 58 (M.1 58)) 59 (M.1 59)) 60 (M.1 60)) 61 (M.1 61)) 62 (M.1 62)) 71 (M.1 71)) 75 (M.1 75)) (c := 76) (f := M.1 76) (by first | rfl | (simp only [mput, mrow_same, mrow_hit, mrow_miss, mrow_sw, idr_eq, ne_eq, Nat.reduceEqDiff, not_false_eq_true, Nat.reduceLT, reduceCtorEq]; done))).symm).trans (by first | rfl | (simp only [mput, mrow_same, mrow_hit, mrow_miss, mrow_sw, idr_eq, ne_eq, Nat.reduceEqDiff, not_false_eq_true, Nat.reduceLT, reduceCtorEq]; done))) ?_
      exact G.reti (by decide +kernel) rfl rfl (Nat.le_of_ble_eq_true rfl) (Nat.le_of_ble_eq_true rfl) ((by rw [hQ]; simp only [k_town, if_pos c1, g3, if_pos c9, mrow_self]))
  · skip
    rw [if_neg c1] at hk
    refine G.sl [(.iload_n 1, 1, 1, 0, 0, 0), (.aload_n 0, 1, 0, 0, 0, 0), (.getfield 98, 3, 11, 2, 125, 0)] [] (pc2 := 15) (ls2 := [some (.ref 54), some (.int x1), none, none]) (st2 := [.int (M.1 54 2), .int x1, .ref 54]) (M2 := mrow M 54 (upd (M.1 54) 0 (nI 0))) (Ps := []) (by decide +kernel) rfl rfl trivial ?_
    refine G.ic_gt (off := (7)) (tgt := 22) (by decide +kernel) rfl (fun c192 => ?_) (fun c192 => ?_)
    · skip
      rw [if_pos c192] at hk
      refine G.sl [(.iconst 0, 1, 0, 0, 0, nI 0), (.iconst 1, 1, 0, 0, 0, nI 1), (.iconst 1, 1, 0, 0, 0, nI 1)] [] (pc2 := 25) (ls2 := [some (.ref 54), some (.int x1), none, none]) (st2 := [.int (nI 1), .int (nI 1), .int (nI 0), .ref 54]) (M2 := mrow M 54 (upd (M.1 54) 0 (nI 0))) (Ps := []) (by decide +kernel) rfl rfl trivial ?_
      obtain ⟨k193, hk⟩ := hk
      rcases g194 : k_may_1 (upd (M.1 54) 0 (nI 0)) (M.1 55) (nI 0) (nI 1) with ⟨v195, r196, r197⟩
      try simp only [g194] at hk
      have ev195 : v195 = 0 ∨ v195 = 1 := by
        have q9 := k_may_1_01 (upd (M.1 54) 0 (nI 0)) (M.1 55) (nI 0) (nI 1)
        rw [g194] at q9
        exact q9
      have t198 : GM z mX12_may (d + 5) [.ref 54, .int (nI 0), .int (nI 1), .int (nI 1)] (mrow M 54 (upd (M.1 54) 0 (nI 0))) (fun rs => rs = .inl (some (.int v195), mrow (mrow M 54 r196) 55 r197)) := by
        have q9 := c_k_may_1_54 z (d + 5) (mrow M 54 (upd (M.1 54) 0 (nI 0))) (nI 0) (nI 1)
        try simp only [mput, mrow_same, mrow_hit, mrow_miss, mrow_sw, idr_eq, ne_eq, Nat.reduceEqDiff, not_false_eq_true, Nat.reduceLT, reduceCtorEq, g194] at q9
        exact q9
      refine G.callV (as := [.int (nI 0), .int (nI 1), .int (nI 1)]) (rest := []) (a := 54) oX12_may lk_EvenFindersModel_213 (by decide +kernel) rfl rfl ⟨rfl, rfl⟩ (Nat.le_of_ble_eq_true rfl) rfl ⟨Nat.le_of_ble_eq_true rfl, Nat.le_of_ble_eq_true rfl⟩ t198 (fun v9 N9 h199 => ?_) (fun E9 N9 h199 => by cases h199)
      cases h199
      show G z mX12_town (d + 6) 0 0 28 [some (.ref 54), some (.int x1), none, none] [.int v195] (mrow (mrow M 54 r196) 55 r197) Q
      refine G.if_ne (off := (5)) (tgt := 33) (by decide +kernel) rfl (fun c200 => ?_) (fun c200 => ?_)
      · skip
        rw [if_neg c200] at hk
        refine G.sl [(.aload_n 0, 1, 0, 0, 0, 0), (.iload_n 1, 1, 1, 0, 0, 0)] [] (pc2 := 35) (ls2 := [some (.ref 54), some (.int x1), none, none]) (st2 := [.int x1, .ref 54]) (M2 := mrow (mrow M 54 r196) 55 r197) (Ps := []) (by decide +kernel) rfl rfl trivial ?_
        obtain ⟨k201, hk⟩ := hk
        rcases g202 : k_begins r196 x1 with ⟨u203, r204⟩
        try simp only [g202] at hk
        have t205 : GM z mX12_begins (d + 5) [.ref 54, .int x1] (mrow (mrow M 54 r196) 55 r197) (fun rs => rs = .inl (none, mrow (mrow M 54 r204) 55 r197)) := by
          have q9 := c_k_begins_54 z (d + 5) (mrow (mrow M 54 r196) 55 r197) x1
          try simp only [mput, mrow_same, mrow_hit, mrow_miss, mrow_sw, idr_eq, ne_eq, Nat.reduceEqDiff, not_false_eq_true, Nat.reduceLT, reduceCtorEq, g202] at q9
          exact q9
        refine G.callV (as := [.int x1]) (rest := []) (a := 54) oX12_begins lk_EvenFindersModel_217 (by decide +kernel) rfl rfl ⟨rfl, rfl⟩ (Nat.le_of_ble_eq_true rfl) rfl ⟨Nat.le_of_ble_eq_true rfl, Nat.le_of_ble_eq_true rfl⟩ t205 (fun v9 N9 h206 => ?_) (fun E9 N9 h206 => by cases h206)
        cases h206
        show G z mX12_town (d + 6) 0 0 38 [some (.ref 54), some (.int x1), none, none] [] (mrow (mrow M 54 r204) 55 r197) Q
        refine G.sl [(.aload_n 0, 1, 0, 0, 0, 0)] [] (pc2 := 39) (ls2 := [some (.ref 54), some (.int x1), none, none]) (st2 := [.ref 54]) (M2 := mrow (mrow M 54 r204) 55 r197) (Ps := []) (by decide +kernel) rfl rfl trivial ?_
        obtain ⟨k207, hk⟩ := hk
        rcases g208 : k_clears r204 with ⟨u209, r210⟩
        try simp only [g208] at hk
        have t211 : GM z mX12_clears (d + 5) [.ref 54] (mrow (mrow M 54 r204) 55 r197) (fun rs => rs = .inl (none, mrow (mrow M 54 r210) 55 r197)) := by
          have q9 := c_k_clears_54 z (d + 5) (mrow (mrow M 54 r204) 55 r197) 
          try simp only [mput, mrow_same, mrow_hit, mrow_miss, mrow_sw, idr_eq, ne_eq, Nat.reduceEqDiff, not_false_eq_true, Nat.reduceLT, reduceCtorEq, g208] at q9
          exact q9
        refine G.callV (as := []) (rest := []) (a := 54) oX12_clears lk_EvenFindersModel_92 (by decide +kernel) rfl rfl ⟨rfl, rfl⟩ (Nat.le_of_ble_eq_true rfl) rfl ⟨Nat.le_of_ble_eq_true rfl, Nat.le_of_ble_eq_true rfl⟩ t211 (fun v9 N9 h212 => ?_) (fun E9 N9 h212 => by cases h212)
        cases h212
        show G z mX12_town (d + 6) 0 0 42 [some (.ref 54), some (.int x1), none, none] [] (mrow (mrow M 54 r210) 55 r197) Q
        refine G.sl [(.iconst 0, 1, 0, 0, 0, nI 0), (.istore_n 2, 1, 2, 0, 0, 0)] [] (pc2 := 44) (ls2 := [some (.ref 54), some (.int x1), some (.int (nI 0)), none]) (st2 := []) (M2 := mrow (mrow M 54 r210) 55 r197) (Ps := []) (by decide +kernel) rfl rfl trivial ?_
        refine G.loc (ls2 := [some (.ref 54), none, some (.int (nI 0)), none]) (by simp [subL]) ?_
        obtain ⟨k357, hk⟩ := hk
        refine G.mem (M' := mrow (mrow (mrow (mrow (mrow (mrow M 54 r210) 55 r197) 54 ((mrow (mrow M 54 r210) 55 r197).1 54)) 57 ((mrow (mrow M 54 r210) 55 r197).1 57)) 58 ((mrow (mrow M 54 r210) 55 r197).1 58)) 59 ((mrow (mrow M 54 r210) 55 r197).1 59)) (by simp only [mrow_self]) ?_
        refine lp_k_town_54_44 z d (mrow (mrow M 54 r210) 55 r197) Q FU (nI 0) ((mrow (mrow M 54 r210) 55 r197).1 54) ((mrow (mrow M 54 r210) 55 r197).1 57) ((mrow (mrow M 54 r210) 55 r197).1 58) ((mrow (mrow M 54 r210) 55 r197).1 59) (by first | (simp only [mput, mrow_same, mrow_hit, mrow_miss, mrow_sw, idr_eq, ne_eq, Nat.reduceEqDiff, not_false_eq_true, Nat.reduceLT, reduceCtorEq]; exact k357) | exact k357) ?_
        try simp only [mput, mrow_same, mrow_hit, mrow_miss, mrow_sw, idr_eq, ne_eq, Nat.reduceEqDiff, not_false_eq_true, Nat.reduceLT, reduceCtorEq]
        rcases g358 : k_town_44 (M.1 56) FU (nI 0) r210 (M.1 57) (M.1 58) (M.1 59) with ⟨v359, r360, r361, r362, r363⟩
        try simp only [g358] at hk
        show G z mX12_town (d + 6) 0 0 136 [some (.ref 54), none, none, none] [] (mrow (mrow (mrow (mrow (mrow M 54 r360) 55 r197) 57 r361) 58 r362) 59 r363) Q
        refine G.sl [(.aload_n 0, 1, 0, 0, 0, 0), (.aload_n 0, 1, 0, 0, 0, 0), (.getfield 150, 3, 11, 18, 141, 0)] [] (pc2 := 141) (ls2 := [some (.ref 54), none, none, none]) (st2 := [.int (r360 18), .ref 54]) (M2 := mrow (mrow (mrow (mrow (mrow M 54 r360) 55 r197) 57 r361) 58 r362) 59 r363) (Ps := []) (by decide +kernel) rfl rfl trivial ?_
        obtain ⟨k364, hk⟩ := hk
        rcases g365 : k_result r360 (r360 18) with ⟨v366, r367⟩
        try simp only [g365] at hk
        have t368 : GM z mX12_result (d + 5) [.ref 54, .int (r360 18)] (mrow (mrow (mrow (mrow (mrow M 54 r360) 55 r197) 57 r361) 58 r362) 59 r363) (fun rs => rs = .inl (some (.int v366), mrow (mrow (mrow (mrow (mrow M 54 r367) 55 r197) 57 r361) 58 r362) 59 r363)) := by
          have q9 := c_k_result_54 z (d + 4) (mrow (mrow (mrow (mrow (mrow M 54 r360) 55 r197) 57 r361) 58 r362) 59 r363) (r360 18)
          try simp only [mput, mrow_same, mrow_hit, mrow_miss, mrow_sw, idr_eq, ne_eq, Nat.reduceEqDiff, not_false_eq_true, Nat.reduceLT, reduceCtorEq, g365] at q9
          exact q9
        refine G.callV (as := [.int (r360 18)]) (rest := []) (a := 54) oX12_result lk_EvenFindersModel_242 (by decide +kernel) rfl rfl ⟨rfl, rfl⟩ (Nat.le_of_ble_eq_true rfl) rfl ⟨Nat.le_of_ble_eq_true rfl, Nat.le_of_ble_eq_true rfl⟩ t368 (fun v9 N9 h369 => ?_) (fun E9 N9 h369 => by cases h369)
        cases h369
        show G z mX12_town (d + 6) 0 0 144 [some (.ref 54), none, none, none] [.int v366] (mrow (mrow (mrow (mrow (mrow M 54 r367) 55 r197) 57 r361) 58 r362) 59 r363) Q
        refine G.sl [(.istore_n 3, 1, 3, 0, 0, 0), (.aload_n 0, 1, 0, 0, 0, 0), (.getfield 101, 3, 11, 5, 128, 0), (.iconst (-1), 1, 0, 0, 0, (-1))] [] (pc2 := 150) (ls2 := [some (.ref 54), none, none, some (.int v366)]) (st2 := [.int ((-1)), .int (r367 5)]) (M2 := mrow (mrow (mrow (mrow (mrow M 54 r367) 55 r197) 57 r361) 58 r362) 59 r363) (Ps := []) (by decide +kernel) rfl rfl trivial ?_
        refine G.ic_ne (off := (7)) (tgt := 157) (by decide +kernel) rfl (fun c370 => ?_) (fun c370 => ?_)
        · skip
          rw [if_neg c370] at hk
          refine G.sl [(.iload_n 3, 1, 3, 0, 0, 0)] [] (pc2 := 158) (ls2 := [some (.ref 54), none, none, some (.int v366)]) (st2 := [.int v366]) (M2 := mrow (mrow (mrow (mrow (mrow M 54 r367) 55 r197) 57 r361) 58 r362) 59 r363) (Ps := []) (by decide +kernel) rfl rfl trivial ?_
          refine G.mem (M' := mrow (mrow (mrow (mrow (mrow (mrow (mrow (mrow (mrow (mrow (mrow M 54 r367) 55 r197) 57 r361) 58 r362) 59 r363) 60 (M.1 60)) 61 (M.1 61)) 62 (M.1 62)) 71 (M.1 71)) 75 (M.1 75)) 76 (M.1 76)) ((((((((mrow_id (N := mrow (mrow (mrow (mrow (mrow M 54 r367) 55 r197) 57 r361) 58 r362) 59 r363) (c := 60) (f := M.1 60) (by first | rfl | (simp only [mput, mrow_same, mrow_hit, mrow_miss, mrow_sw, idr_eq, ne_eq, Nat.reduceEqDiff, not_false_eq_true, Nat.reduceLT, reduceCtorEq]; done))).symm).trans (mrow_id (N := mrow (mrow (mrow (mrow (mrow (mrow M 54 r367) 55 r197) 57 r361) 58 r362) 59 r363) 60 (M.1 60)) (c := 61) (f := M.1 61) (by first | rfl | (simp only [mput, mrow_same, mrow_hit, mrow_miss, mrow_sw, idr_eq, ne_eq, Nat.reduceEqDiff, not_false_eq_true, Nat.reduceLT, reduceCtorEq]; done))).symm).trans (mrow_id (N := mrow (mrow (mrow (mrow (mrow (mrow (mrow M 54 r367) 55 r197) 57 r361) 58 r362) 59 r363) 60 (M.1 60)) 61 (M.1 61)) (c := 62) (f := M.1 62) (by first | rfl | (simp only [mput, mrow_same, mrow_hit, mrow_miss, mrow_sw, idr_eq, ne_eq, Nat.reduceEqDiff, not_false_eq_true, Nat.reduceLT, reduceCtorEq]; done))).symm).trans (mrow_id (N := mrow (mrow (mrow (mrow (mrow (mrow (mrow (mrow M 54 r367) 55 r197) 57 r361) 58 r362) 59 r363) 60 (M.1 60)) 61 (M.1 61)) 62 (M.1 62)) (c := 71) (f := M.1 71) (by first | rfl | (simp only [mput, mrow_same, mrow_hit, mrow_miss, mrow_sw, idr_eq, ne_eq, Nat.reduceEqDiff, not_false_eq_true, Nat.reduceLT, reduceCtorEq]; done))).symm).trans (mrow_id (N := mrow (mrow (mrow (mrow (mrow (mrow (mrow (mrow (mrow M 54 r367) 55 r197) 57 r361) 58 r362) 59 r363) 60 (M.1 60)) 61 (M.1 61)) 62 (M.1 62)) 71 (M.1 71)) (c := 75) (f := M.1 75) (by first | rfl | (simp only [mput, mrow_same, mrow_hit, mrow_miss, mrow_sw, idr_eq, ne_eq, Nat.reduceEqDiff, not_false_eq_true, Nat.reduceLT, reduceCtorEq]; done))).symm).trans (mrow_id (N := mrow (mrow (mrow (mrow (mrow (mrow (mrow (mrow (mrow (mrow M 54 r367) 55 r197) 57 r361) 58 r362) 59 r363) 60 (M.1 60)) 61 (M.1 61)) 62 (M.1 62)) 71 (M.1 71)) 75 (M.1 75)) (c := 76) (f := M.1 76) (by first | rfl | (simp only [mput, mrow_same, mrow_hit, mrow_miss, mrow_sw, idr_eq, ne_eq, Nat.reduceEqDiff, not_false_eq_true, Nat.reduceLT, reduceCtorEq]; done))).symm).trans (by first | rfl | (simp only [mput, mrow_same, mrow_hit, mrow_miss, mrow_sw, idr_eq, ne_eq, Nat.reduceEqDiff, not_false_eq_true, Nat.reduceLT, reduceCtorEq]; done))) ?_
          exact G.reti (by decide +kernel) rfl rfl (Nat.le_of_ble_eq_true rfl) (Nat.le_of_ble_eq_true rfl) ((by rw [hQ]; simp only [k_town, if_neg c1, if_pos c192, g194, if_neg c200, g202, g208, g358, g365, if_neg c370, mrow_self]))
        · skip
          rw [if_pos c370] at hk
          refine G.sl [(.aload_n 0, 1, 0, 0, 0, 0)] [] (pc2 := 154) (ls2 := [some (.ref 54), none, none, some (.int v366)]) (st2 := [.ref 54]) (M2 := mrow (mrow (mrow (mrow (mrow M 54 r367) 55 r197) 57 r361) 58 r362) 59 r363) (Ps := []) (by decide +kernel) rfl rfl trivial ?_
          obtain ⟨k371, hk⟩ := hk
          rcases g372 : k_sets r367 r361 r362 r363 (M.1 60) (M.1 61) (M.1 62) (M.1 71) (M.1 75) (M.1 76) with ⟨u373, r374, r375, r376, r377, r378, r379, r380⟩
          have t381 : GM z mX12_sets (d + 5) [.ref 54] (mrow (mrow (mrow (mrow (mrow M 54 r367) 55 r197) 57 r361) 58 r362) 59 r363) (fun rs => rs = .inl (none, mrow (mrow (mrow (mrow (mrow (mrow (mrow (mrow (mrow (mrow (mrow M 54 r374) 55 r197) 57 r361) 58 r362) 59 r363) 60 r375) 61 r376) 62 r377) 71 r378) 75 r379) 76 r380)) := by
            have q9 := c_k_sets_54 z (d + 4) (mrow (mrow (mrow (mrow (mrow M 54 r367) 55 r197) 57 r361) 58 r362) 59 r363) k371
            try simp only [mput, mrow_same, mrow_hit, mrow_miss, mrow_sw, idr_eq, ne_eq, Nat.reduceEqDiff, not_false_eq_true, Nat.reduceLT, reduceCtorEq, g372] at q9
            exact q9
          refine G.callV (as := []) (rest := []) (a := 54) oX12_sets lk_EvenFindersModel_95 (by decide +kernel) rfl rfl ⟨rfl, rfl⟩ (Nat.le_of_ble_eq_true rfl) rfl ⟨Nat.le_of_ble_eq_true rfl, Nat.le_of_ble_eq_true rfl⟩ t381 (fun v9 N9 h382 => ?_) (fun E9 N9 h382 => by cases h382)
          cases h382
          show G z mX12_town (d + 6) 0 0 157 [some (.ref 54), none, none, some (.int v366)] [] (mrow (mrow (mrow (mrow (mrow (mrow (mrow (mrow (mrow (mrow (mrow M 54 r374) 55 r197) 57 r361) 58 r362) 59 r363) 60 r375) 61 r376) 62 r377) 71 r378) 75 r379) 76 r380) Q
          refine G.sl [(.iload_n 3, 1, 3, 0, 0, 0)] [] (pc2 := 158) (ls2 := [some (.ref 54), none, none, some (.int v366)]) (st2 := [.int v366]) (M2 := mrow (mrow (mrow (mrow (mrow (mrow (mrow (mrow (mrow (mrow (mrow M 54 r374) 55 r197) 57 r361) 58 r362) 59 r363) 60 r375) 61 r376) 62 r377) 71 r378) 75 r379) 76 r380) (Ps := []) (by decide +kernel) rfl rfl trivial ?_
          exact G.reti (by decide +kernel) rfl rfl (Nat.le_of_ble_eq_true rfl) (Nat.le_of_ble_eq_true rfl) ((by rw [hQ]; simp only [k_town, if_neg c1, if_pos c192, g194, if_neg c200, g202, g208, g358, g365, if_pos c370, g372, mrow_self]))
      · skip
        rw [if_pos c200] at hk
        refine G.sl [(.iconst 0, 1, 0, 0, 0, nI 0)] [] (pc2 := 32) (ls2 := [some (.ref 54), some (.int x1), none, none]) (st2 := [.int (nI 0)]) (M2 := mrow (mrow M 54 r196) 55 r197) (Ps := []) (by decide +kernel) rfl rfl trivial ?_
        refine G.mem (M' := mrow (mrow (mrow (mrow (mrow (mrow (mrow (mrow (mrow (mrow (mrow M 54 r196) 55 r197) 57 (M.1 57)) 58 (M.1 58)) 59 (M.1 59)) 60 (M.1 60)) 61 (M.1 61)) 62 (M.1 62)) 71 (M.1 71)) 75 (M.1 75)) 76 (M.1 76)) (((((((((((mrow_id (N := mrow (mrow M 54 r196) 55 r197) (c := 57) (f := M.1 57) (by first | rfl | (simp only [mput, mrow_same, mrow_hit, mrow_miss, mrow_sw, idr_eq, ne_eq, Nat.reduceEqDiff, not_false_eq_true, Nat.reduceLT, reduceCtorEq]; done))).symm).trans (mrow_id (N := mrow (mrow (mrow M 54 r196) 55 r197) 57 (M.1 57)) (c := 58) (f := M.1 58) (by first | rfl | (simp only [mput, mrow_same, mrow_hit, mrow_miss, mrow_sw, idr_eq, ne_eq, Nat.reduceEqDiff, not_false_eq_true, Nat.reduceLT, reduceCtorEq]; done))).symm).trans (mrow_id (N := mrow (mrow (mrow (mrow M 54 r196) 55 r197) 57 (M.1 57)) 58 (M.1 58)) (c := 59) (f := M.1 59) (by first | rfl | (simp only [mput, mrow_same, mrow_hit, mrow_miss, mrow_sw, idr_eq, ne_eq, Nat.reduceEqDiff, not_false_eq_true, Nat.reduceLT, reduceCtorEq]; done))).symm).trans (mrow_id (N := mrow (mrow (mrow (mrow (mrow M 54 r196) 55 r197) 57 (M.1 57)) 58 (M.1 58)) 59 (M.1 59)) (c := 60) (f := M.1 60) (by first | rfl | (simp only [mput, mrow_same, mrow_hit, mrow_miss, mrow_sw, idr_eq, ne_eq, Nat.reduceEqDiff, not_false_eq_true, Nat.reduceLT, reduceCtorEq]; done))).symm).trans (mrow_id (N := mrow (mrow (mrow (mrow (mrow (mrow M 54 r196) 55 r197) 57 (M.1 57)) 58 (M.1 58)) 59 (M.1 59)) 60 (M.1 60)) (c := 61) (f := M.1 61) (by first | rfl | (simp only [mput, mrow_same, mrow_hit, mrow_miss, mrow_sw, idr_eq, ne_eq, Nat.reduceEqDiff, not_false_eq_true, Nat.reduceLT, reduceCtorEq]; done))).symm).trans (mrow_id (N := mrow (mrow (mrow (mrow (mrow (mrow (mrow M 54 r196) 55 r197) 57 (M.1 57)) 58 (M.1 58)) 59 (M.1 59)) 60 (M.1 60)) 61 (M.1 61)) (c := 62) (f := M.1 62) (by first | rfl | (simp only [mput, mrow_same, mrow_hit, mrow_miss, mrow_sw, idr_eq, ne_eq, Nat.reduceEqDiff, not_false_eq_true, Nat.reduceLT, reduceCtorEq]; done))).symm).trans (mrow_id (N := mrow (mrow (mrow (mrow (mrow (mrow (mrow (mrow M 54 r196) 55 r197) 57 (M.1 57)) 58 (M.1 58)) 59 (M.1 59)) 60 (M.1 60)) 61 (M.1 61)) 62 (M.1 62)) (c := 71) (f := M.1 71) (by first | rfl | (simp only [mput, mrow_same, mrow_hit, mrow_miss, mrow_sw, idr_eq, ne_eq, Nat.reduceEqDiff, not_false_eq_true, Nat.reduceLT, reduceCtorEq]; done))).symm).trans (mrow_id (N := mrow (mrow (mrow (mrow (mrow (mrow (mrow (mrow (mrow M 54 r196) 55 r197) 57 (M.1 57)) 58 (M.1 58)) 59 (M.1 59)) 60 (M.1 60)) 61 (M.1 61)) 62 (M.1 62)) 71 (M.1 71)) (c := 75) (f := M.1 75) (by first | rfl | (simp only [mput, mrow_same, mrow_hit, mrow_miss, mrow_sw, idr_eq, ne_eq, Nat.reduceEqDiff, not_false_eq_true, Nat.reduceLT, reduceCtorEq]; done))).symm).trans (mrow_id (N := mrow (mrow (mrow (mrow (mrow (mrow (mrow (mrow (mrow (mrow M 54 r196) 55 r197) 57 (M.1 57)) 58 (M.1 58)) 59 (M.1 59)) 60 (M.1 60)) 61 (M.1 61)) 62 (M.1 62)) 71 (M.1 71)) 75 (M.1 75)) (c := 76) (f := M.1 76) (by first | rfl | (simp only [mput, mrow_same, mrow_hit, mrow_miss, mrow_sw, idr_eq, ne_eq, Nat.reduceEqDiff, not_false_eq_true, Nat.reduceLT, reduceCtorEq]; done))).symm).trans (by first | rfl | (simp only [mput, mrow_same, mrow_hit, mrow_miss, mrow_sw, idr_eq, ne_eq, Nat.reduceEqDiff, not_false_eq_true, Nat.reduceLT, reduceCtorEq]; done))) ?_
        exact G.reti (by decide +kernel) rfl rfl (Nat.le_of_ble_eq_true rfl) (Nat.le_of_ble_eq_true rfl) ((by rw [hQ]; simp only [k_town, if_neg c1, if_pos c192, g194, if_pos c200, mrow_self]))
    · skip
      rw [if_neg c192] at hk
      refine G.sl [(.iconst 1, 1, 0, 0, 0, nI 1), (.goto 4, 3, 23, 0, 0, 0), (.iconst 1, 1, 0, 0, 0, nI 1), (.iconst 1, 1, 0, 0, 0, nI 1)] [] (pc2 := 25) (ls2 := [some (.ref 54), some (.int x1), none, none]) (st2 := [.int (nI 1), .int (nI 1), .int (nI 1), .ref 54]) (M2 := mrow M 54 (upd (M.1 54) 0 (nI 0))) (Ps := []) (by decide +kernel) rfl rfl trivial ?_
      obtain ⟨k383, hk⟩ := hk
      rcases g384 : k_may_1 (upd (M.1 54) 0 (nI 0)) (M.1 55) (nI 1) (nI 1) with ⟨v385, r386, r387⟩
      try simp only [g384] at hk
      have ev385 : v385 = 0 ∨ v385 = 1 := by
        have q9 := k_may_1_01 (upd (M.1 54) 0 (nI 0)) (M.1 55) (nI 1) (nI 1)
        rw [g384] at q9
        exact q9
      have t388 : GM z mX12_may (d + 5) [.ref 54, .int (nI 1), .int (nI 1), .int (nI 1)] (mrow M 54 (upd (M.1 54) 0 (nI 0))) (fun rs => rs = .inl (some (.int v385), mrow (mrow M 54 r386) 55 r387)) := by
        have q9 := c_k_may_1_54 z (d + 5) (mrow M 54 (upd (M.1 54) 0 (nI 0))) (nI 1) (nI 1)
        try simp only [mput, mrow_same, mrow_hit, mrow_miss, mrow_sw, idr_eq, ne_eq, Nat.reduceEqDiff, not_false_eq_true, Nat.reduceLT, reduceCtorEq, g384] at q9
        exact q9
      refine G.callV (as := [.int (nI 1), .int (nI 1), .int (nI 1)]) (rest := []) (a := 54) oX12_may lk_EvenFindersModel_213 (by decide +kernel) rfl rfl ⟨rfl, rfl⟩ (Nat.le_of_ble_eq_true rfl) rfl ⟨Nat.le_of_ble_eq_true rfl, Nat.le_of_ble_eq_true rfl⟩ t388 (fun v9 N9 h389 => ?_) (fun E9 N9 h389 => by cases h389)
      cases h389
      show G z mX12_town (d + 6) 0 0 28 [some (.ref 54), some (.int x1), none, none] [.int v385] (mrow (mrow M 54 r386) 55 r387) Q
      refine G.if_ne (off := (5)) (tgt := 33) (by decide +kernel) rfl (fun c390 => ?_) (fun c390 => ?_)
      · skip
        rw [if_neg c390] at hk
        refine G.sl [(.aload_n 0, 1, 0, 0, 0, 0), (.iload_n 1, 1, 1, 0, 0, 0)] [] (pc2 := 35) (ls2 := [some (.ref 54), some (.int x1), none, none]) (st2 := [.int x1, .ref 54]) (M2 := mrow (mrow M 54 r386) 55 r387) (Ps := []) (by decide +kernel) rfl rfl trivial ?_
        obtain ⟨k391, hk⟩ := hk
        rcases g392 : k_begins r386 x1 with ⟨u393, r394⟩
        try simp only [g392] at hk
        have t395 : GM z mX12_begins (d + 5) [.ref 54, .int x1] (mrow (mrow M 54 r386) 55 r387) (fun rs => rs = .inl (none, mrow (mrow M 54 r394) 55 r387)) := by
          have q9 := c_k_begins_54 z (d + 5) (mrow (mrow M 54 r386) 55 r387) x1
          try simp only [mput, mrow_same, mrow_hit, mrow_miss, mrow_sw, idr_eq, ne_eq, Nat.reduceEqDiff, not_false_eq_true, Nat.reduceLT, reduceCtorEq, g392] at q9
          exact q9
        refine G.callV (as := [.int x1]) (rest := []) (a := 54) oX12_begins lk_EvenFindersModel_217 (by decide +kernel) rfl rfl ⟨rfl, rfl⟩ (Nat.le_of_ble_eq_true rfl) rfl ⟨Nat.le_of_ble_eq_true rfl, Nat.le_of_ble_eq_true rfl⟩ t395 (fun v9 N9 h396 => ?_) (fun E9 N9 h396 => by cases h396)
        cases h396
        show G z mX12_town (d + 6) 0 0 38 [some (.ref 54), some (.int x1), none, none] [] (mrow (mrow M 54 r394) 55 r387) Q
        refine G.sl [(.aload_n 0, 1, 0, 0, 0, 0)] [] (pc2 := 39) (ls2 := [some (.ref 54), some (.int x1), none, none]) (st2 := [.ref 54]) (M2 := mrow (mrow M 54 r394) 55 r387) (Ps := []) (by decide +kernel) rfl rfl trivial ?_
        obtain ⟨k397, hk⟩ := hk
        rcases g398 : k_clears r394 with ⟨u399, r400⟩
        try simp only [g398] at hk
        have t401 : GM z mX12_clears (d + 5) [.ref 54] (mrow (mrow M 54 r394) 55 r387) (fun rs => rs = .inl (none, mrow (mrow M 54 r400) 55 r387)) := by
          have q9 := c_k_clears_54 z (d + 5) (mrow (mrow M 54 r394) 55 r387) 
          try simp only [mput, mrow_same, mrow_hit, mrow_miss, mrow_sw, idr_eq, ne_eq, Nat.reduceEqDiff, not_false_eq_true, Nat.reduceLT, reduceCtorEq, g398] at q9
          exact q9
        refine G.callV (as := []) (rest := []) (a := 54) oX12_clears lk_EvenFindersModel_92 (by decide +kernel) rfl rfl ⟨rfl, rfl⟩ (Nat.le_of_ble_eq_true rfl) rfl ⟨Nat.le_of_ble_eq_true rfl, Nat.le_of_ble_eq_true rfl⟩ t401 (fun v9 N9 h402 => ?_) (fun E9 N9 h402 => by cases h402)
        cases h402
        show G z mX12_town (d + 6) 0 0 42 [some (.ref 54), some (.int x1), none, none] [] (mrow (mrow M 54 r400) 55 r387) Q
        refine G.sl [(.iconst 0, 1, 0, 0, 0, nI 0), (.istore_n 2, 1, 2, 0, 0, 0)] [] (pc2 := 44) (ls2 := [some (.ref 54), some (.int x1), some (.int (nI 0)), none]) (st2 := []) (M2 := mrow (mrow M 54 r400) 55 r387) (Ps := []) (by decide +kernel) rfl rfl trivial ?_
        refine G.loc (ls2 := [some (.ref 54), none, some (.int (nI 0)), none]) (by simp [subL]) ?_
        obtain ⟨k547, hk⟩ := hk
        refine G.mem (M' := mrow (mrow (mrow (mrow (mrow (mrow M 54 r400) 55 r387) 54 ((mrow (mrow M 54 r400) 55 r387).1 54)) 57 ((mrow (mrow M 54 r400) 55 r387).1 57)) 58 ((mrow (mrow M 54 r400) 55 r387).1 58)) 59 ((mrow (mrow M 54 r400) 55 r387).1 59)) (by simp only [mrow_self]) ?_
        refine lp_k_town_54_44 z d (mrow (mrow M 54 r400) 55 r387) Q FU (nI 0) ((mrow (mrow M 54 r400) 55 r387).1 54) ((mrow (mrow M 54 r400) 55 r387).1 57) ((mrow (mrow M 54 r400) 55 r387).1 58) ((mrow (mrow M 54 r400) 55 r387).1 59) (by first | (simp only [mput, mrow_same, mrow_hit, mrow_miss, mrow_sw, idr_eq, ne_eq, Nat.reduceEqDiff, not_false_eq_true, Nat.reduceLT, reduceCtorEq]; exact k547) | exact k547) ?_
        try simp only [mput, mrow_same, mrow_hit, mrow_miss, mrow_sw, idr_eq, ne_eq, Nat.reduceEqDiff, not_false_eq_true, Nat.reduceLT, reduceCtorEq]
        rcases g548 : k_town_44 (M.1 56) FU (nI 0) r400 (M.1 57) (M.1 58) (M.1 59) with ⟨v549, r550, r551, r552, r553⟩
        try simp only [g548] at hk
        show G z mX12_town (d + 6) 0 0 136 [some (.ref 54), none, none, none] [] (mrow (mrow (mrow (mrow (mrow M 54 r550) 55 r387) 57 r551) 58 r552) 59 r553) Q
        refine G.sl [(.aload_n 0, 1, 0, 0, 0, 0), (.aload_n 0, 1, 0, 0, 0, 0), (.getfield 150, 3, 11, 18, 141, 0)] [] (pc2 := 141) (ls2 := [some (.ref 54), none, none, none]) (st2 := [.int (r550 18), .ref 54]) (M2 := mrow (mrow (mrow (mrow (mrow M 54 r550) 55 r387) 57 r551) 58 r552) 59 r553) (Ps := []) (by decide +kernel) rfl rfl trivial ?_
        obtain ⟨k554, hk⟩ := hk
        rcases g555 : k_result r550 (r550 18) with ⟨v556, r557⟩
        try simp only [g555] at hk
        have t558 : GM z mX12_result (d + 5) [.ref 54, .int (r550 18)] (mrow (mrow (mrow (mrow (mrow M 54 r550) 55 r387) 57 r551) 58 r552) 59 r553) (fun rs => rs = .inl (some (.int v556), mrow (mrow (mrow (mrow (mrow M 54 r557) 55 r387) 57 r551) 58 r552) 59 r553)) := by
          have q9 := c_k_result_54 z (d + 4) (mrow (mrow (mrow (mrow (mrow M 54 r550) 55 r387) 57 r551) 58 r552) 59 r553) (r550 18)
          try simp only [mput, mrow_same, mrow_hit, mrow_miss, mrow_sw, idr_eq, ne_eq, Nat.reduceEqDiff, not_false_eq_true, Nat.reduceLT, reduceCtorEq, g555] at q9
          exact q9
        refine G.callV (as := [.int (r550 18)]) (rest := []) (a := 54) oX12_result lk_EvenFindersModel_242 (by decide +kernel) rfl rfl ⟨rfl, rfl⟩ (Nat.le_of_ble_eq_true rfl) rfl ⟨Nat.le_of_ble_eq_true rfl, Nat.le_of_ble_eq_true rfl⟩ t558 (fun v9 N9 h559 => ?_) (fun E9 N9 h559 => by cases h559)
        cases h559
        show G z mX12_town (d + 6) 0 0 144 [some (.ref 54), none, none, none] [.int v556] (mrow (mrow (mrow (mrow (mrow M 54 r557) 55 r387) 57 r551) 58 r552) 59 r553) Q
        refine G.sl [(.istore_n 3, 1, 3, 0, 0, 0), (.aload_n 0, 1, 0, 0, 0, 0), (.getfield 101, 3, 11, 5, 128, 0), (.iconst (-1), 1, 0, 0, 0, (-1))] [] (pc2 := 150) (ls2 := [some (.ref 54), none, none, some (.int v556)]) (st2 := [.int ((-1)), .int (r557 5)]) (M2 := mrow (mrow (mrow (mrow (mrow M 54 r557) 55 r387) 57 r551) 58 r552) 59 r553) (Ps := []) (by decide +kernel) rfl rfl trivial ?_
        refine G.ic_ne (off := (7)) (tgt := 157) (by decide +kernel) rfl (fun c560 => ?_) (fun c560 => ?_)
        · skip
          rw [if_neg c560] at hk
          refine G.sl [(.iload_n 3, 1, 3, 0, 0, 0)] [] (pc2 := 158) (ls2 := [some (.ref 54), none, none, some (.int v556)]) (st2 := [.int v556]) (M2 := mrow (mrow (mrow (mrow (mrow M 54 r557) 55 r387) 57 r551) 58 r552) 59 r553) (Ps := []) (by decide +kernel) rfl rfl trivial ?_
          refine G.mem (M' := mrow (mrow (mrow (mrow (mrow (mrow (mrow (mrow (mrow (mrow (mrow M 54 r557) 55 r387) 57 r551) 58 r552) 59 r553) 60 (M.1 60)) 61 (M.1 61)) 62 (M.1 62)) 71 (M.1 71)) 75 (M.1 75)) 76 (M.1 76)) ((((((((mrow_id (N := mrow (mrow (mrow (mrow (mrow M 54 r557) 55 r387) 57 r551) 58 r552) 59 r553) (c := 60) (f := M.1 60) (by first | rfl | (simp only [mput, mrow_same, mrow_hit, mrow_miss, mrow_sw, idr_eq, ne_eq, Nat.reduceEqDiff, not_false_eq_true, Nat.reduceLT, reduceCtorEq]; done))).symm).trans (mrow_id (N := mrow (mrow (mrow (mrow (mrow (mrow M 54 r557) 55 r387) 57 r551) 58 r552) 59 r553) 60 (M.1 60)) (c := 61) (f := M.1 61) (by first | rfl | (simp only [mput, mrow_same, mrow_hit, mrow_miss, mrow_sw, idr_eq, ne_eq, Nat.reduceEqDiff, not_false_eq_true, Nat.reduceLT, reduceCtorEq]; done))).symm).trans (mrow_id (N := mrow (mrow (mrow (mrow (mrow (mrow (mrow M 54 r557) 55 r387) 57 r551) 58 r552) 59 r553) 60 (M.1 60)) 61 (M.1 61)) (c := 62) (f := M.1 62) (by first | rfl | (simp only [mput, mrow_same, mrow_hit, mrow_miss, mrow_sw, idr_eq, ne_eq, Nat.reduceEqDiff, not_false_eq_true, Nat.reduceLT, reduceCtorEq]; done))).symm).trans (mrow_id (N := mrow (mrow (mrow (mrow (mrow (mrow (mrow (mrow M 54 r557) 55 r387) 57 r551) 58 r552) 59 r553) 60 (M.1 60)) 61 (M.1 61)) 62 (M.1 62)) (c := 71) (f := M.1 71) (by first | rfl | (simp only [mput, mrow_same, mrow_hit, mrow_miss, mrow_sw, idr_eq, ne_eq, Nat.reduceEqDiff, not_false_eq_true, Nat.reduceLT, reduceCtorEq]; done))).symm).trans (mrow_id (N := mrow (mrow (mrow (mrow (mrow (mrow (mrow (mrow (mrow M 54 r557) 55 r387) 57 r551) 58 r552) 59 r553) 60 (M.1 60)) 61 (M.1 61)) 62 (M.1 62)) 71 (M.1 71)) (c := 75) (f := M.1 75) (by first | rfl | (simp only [mput, mrow_same, mrow_hit, mrow_miss, mrow_sw, idr_eq, ne_eq, Nat.reduceEqDiff, not_false_eq_true, Nat.reduceLT, reduceCtorEq]; done))).symm).trans (mrow_id (N := mrow (mrow (mrow (mrow (mrow (mrow (mrow (mrow (mrow (mrow M 54 r557) 55 r387) 57 r551) 58 r552) 59 r553) 60 (M.1 60)) 61 (M.1 61)) 62 (M.1 62)) 71 (M.1 71)) 75 (M.1 75)) (c := 76) (f := M.1 76) (by first | rfl | (simp only [mput, mrow_same, mrow_hit, mrow_miss, mrow_sw, idr_eq, ne_eq, Nat.reduceEqDiff, not_false_eq_true, Nat.reduceLT, reduceCtorEq]; done))).symm).trans (by first | rfl | (simp only [mput, mrow_same, mrow_hit, mrow_miss, mrow_sw, idr_eq, ne_eq, Nat.reduceEqDiff, not_false_eq_true, Nat.reduceLT, reduceCtorEq]; done))) ?_
          exact G.reti (by decide +kernel) rfl rfl (Nat.le_of_ble_eq_true rfl) (Nat.le_of_ble_eq_true rfl) ((by rw [hQ]; simp only [k_town, if_neg c1, if_neg c192, g384, if_neg c390, g392, g398, g548, g555, if_neg c560, mrow_self]))
        · skip
          rw [if_pos c560] at hk
          refine G.sl [(.aload_n 0, 1, 0, 0, 0, 0)] [] (pc2 := 154) (ls2 := [some (.ref 54), none, none, some (.int v556)]) (st2 := [.ref 54]) (M2 := mrow (mrow (mrow (mrow (mrow M 54 r557) 55 r387) 57 r551) 58 r552) 59 r553) (Ps := []) (by decide +kernel) rfl rfl trivial ?_
          obtain ⟨k561, hk⟩ := hk
          rcases g562 : k_sets r557 r551 r552 r553 (M.1 60) (M.1 61) (M.1 62) (M.1 71) (M.1 75) (M.1 76) with ⟨u563, r564, r565, r566, r567, r568, r569, r570⟩
          have t571 : GM z mX12_sets (d + 5) [.ref 54] (mrow (mrow (mrow (mrow (mrow M 54 r557) 55 r387) 57 r551) 58 r552) 59 r553) (fun rs => rs = .inl (none, mrow (mrow (mrow (mrow (mrow (mrow (mrow (mrow (mrow (mrow (mrow M 54 r564) 55 r387) 57 r551) 58 r552) 59 r553) 60 r565) 61 r566) 62 r567) 71 r568) 75 r569) 76 r570)) := by
            have q9 := c_k_sets_54 z (d + 4) (mrow (mrow (mrow (mrow (mrow M 54 r557) 55 r387) 57 r551) 58 r552) 59 r553) k561
            try simp only [mput, mrow_same, mrow_hit, mrow_miss, mrow_sw, idr_eq, ne_eq, Nat.reduceEqDiff, not_false_eq_true, Nat.reduceLT, reduceCtorEq, g562] at q9
            exact q9
          refine G.callV (as := []) (rest := []) (a := 54) oX12_sets lk_EvenFindersModel_95 (by decide +kernel) rfl rfl ⟨rfl, rfl⟩ (Nat.le_of_ble_eq_true rfl) rfl ⟨Nat.le_of_ble_eq_true rfl, Nat.le_of_ble_eq_true rfl⟩ t571 (fun v9 N9 h572 => ?_) (fun E9 N9 h572 => by cases h572)
          cases h572
          show G z mX12_town (d + 6) 0 0 157 [some (.ref 54), none, none, some (.int v556)] [] (mrow (mrow (mrow (mrow (mrow (mrow (mrow (mrow (mrow (mrow (mrow M 54 r564) 55 r387) 57 r551) 58 r552) 59 r553) 60 r565) 61 r566) 62 r567) 71 r568) 75 r569) 76 r570) Q
          refine G.sl [(.iload_n 3, 1, 3, 0, 0, 0)] [] (pc2 := 158) (ls2 := [some (.ref 54), none, none, some (.int v556)]) (st2 := [.int v556]) (M2 := mrow (mrow (mrow (mrow (mrow (mrow (mrow (mrow (mrow (mrow (mrow M 54 r564) 55 r387) 57 r551) 58 r552) 59 r553) 60 r565) 61 r566) 62 r567) 71 r568) 75 r569) 76 r570) (Ps := []) (by decide +kernel) rfl rfl trivial ?_
          exact G.reti (by decide +kernel) rfl rfl (Nat.le_of_ble_eq_true rfl) (Nat.le_of_ble_eq_true rfl) ((by rw [hQ]; simp only [k_town, if_neg c1, if_neg c192, g384, if_neg c390, g392, g398, g548, g555, if_pos c560, g562, mrow_self]))
      · skip
        rw [if_pos c390] at hk
        refine G.sl [(.iconst 0, 1, 0, 0, 0, nI 0)] [] (pc2 := 32) (ls2 := [some (.ref 54), some (.int x1), none, none]) (st2 := [.int (nI 0)]) (M2 := mrow (mrow M 54 r386) 55 r387) (Ps := []) (by decide +kernel) rfl rfl trivial ?_
        refine G.mem (M' := mrow (mrow (mrow (mrow (mrow (mrow (mrow (mrow (mrow (mrow (mrow M 54 r386) 55 r387) 57 (M.1 57)) 58 (M.1 58)) 59 (M.1 59)) 60 (M.1 60)) 61 (M.1 61)) 62 (M.1 62)) 71 (M.1 71)) 75 (M.1 75)) 76 (M.1 76)) (((((((((((mrow_id (N := mrow (mrow M 54 r386) 55 r387) (c := 57) (f := M.1 57) (by first | rfl | (simp only [mput, mrow_same, mrow_hit, mrow_miss, mrow_sw, idr_eq, ne_eq, Nat.reduceEqDiff, not_false_eq_true, Nat.reduceLT, reduceCtorEq]; done))).symm).trans (mrow_id (N := mrow (mrow (mrow M 54 r386) 55 r387) 57 (M.1 57)) (c := 58) (f := M.1 58) (by first | rfl | (simp only [mput, mrow_same, mrow_hit, mrow_miss, mrow_sw, idr_eq, ne_eq, Nat.reduceEqDiff, not_false_eq_true, Nat.reduceLT, reduceCtorEq]; done))).symm).trans (mrow_id (N := mrow (mrow (mrow (mrow M 54 r386) 55 r387) 57 (M.1 57)) 58 (M.1 58)) (c := 59) (f := M.1 59) (by first | rfl | (simp only [mput, mrow_same, mrow_hit, mrow_miss, mrow_sw, idr_eq, ne_eq, Nat.reduceEqDiff, not_false_eq_true, Nat.reduceLT, reduceCtorEq]; done))).symm).trans (mrow_id (N := mrow (mrow (mrow (mrow (mrow M 54 r386) 55 r387) 57 (M.1 57)) 58 (M.1 58)) 59 (M.1 59)) (c := 60) (f := M.1 60) (by first | rfl | (simp only [mput, mrow_same, mrow_hit, mrow_miss, mrow_sw, idr_eq, ne_eq, Nat.reduceEqDiff, not_false_eq_true, Nat.reduceLT, reduceCtorEq]; done))).symm).trans (mrow_id (N := mrow (mrow (mrow (mrow (mrow (mrow M 54 r386) 55 r387) 57 (M.1 57)) 58 (M.1 58)) 59 (M.1 59)) 60 (M.1 60)) (c := 61) (f := M.1 61) (by first | rfl | (simp only [mput, mrow_same, mrow_hit, mrow_miss, mrow_sw, idr_eq, ne_eq, Nat.reduceEqDiff, not_false_eq_true, Nat.reduceLT, reduceCtorEq]; done))).symm).trans (mrow_id (N := mrow (mrow (mrow (mrow (mrow (mrow (mrow M 54 r386) 55 r387) 57 (M.1 57)) 58 (M.1 58)) 59 (M.1 59)) 60 (M.1 60)) 61 (M.1 61)) (c := 62) (f := M.1 62) (by first | rfl | (simp only [mput, mrow_same, mrow_hit, mrow_miss, mrow_sw, idr_eq, ne_eq, Nat.reduceEqDiff, not_false_eq_true, Nat.reduceLT, reduceCtorEq]; done))).symm).trans (mrow_id (N := mrow (mrow (mrow (mrow (mrow (mrow (mrow (mrow M 54 r386) 55 r387) 57 (M.1 57)) 58 (M.1 58)) 59 (M.1 59)) 60 (M.1 60)) 61 (M.1 61)) 62 (M.1 62)) (c := 71) (f := M.1 71) (by first | rfl | (simp only [mput, mrow_same, mrow_hit, mrow_miss, mrow_sw, idr_eq, ne_eq, Nat.reduceEqDiff, not_false_eq_true, Nat.reduceLT, reduceCtorEq]; done))).symm).trans (mrow_id (N := mrow (mrow (mrow (mrow (mrow (mrow (mrow (mrow (mrow M 54 r386) 55 r387) 57 (M.1 57)) 58 (M.1 58)) 59 (M.1 59)) 60 (M.1 60)) 61 (M.1 61)) 62 (M.1 62)) 71 (M.1 71)) (c := 75) (f := M.1 75) (by first | rfl | (simp only [mput, mrow_same, mrow_hit, mrow_miss, mrow_sw, idr_eq, ne_eq, Nat.reduceEqDiff, not_false_eq_true, Nat.reduceLT, reduceCtorEq]; done))).symm).trans (mrow_id (N := mrow (mrow (mrow (mrow (mrow (mrow (mrow (mrow (mrow (mrow M 54 r386) 55 r387) 57 (M.1 57)) 58 (M.1 58)) 59 (M.1 59)) 60 (M.1 60)) 61 (M.1 61)) 62 (M.1 62)) 71 (M.1 71)) 75 (M.1 75)) (c := 76) (f := M.1 76) (by first | rfl | (simp only [mput, mrow_same, mrow_hit, mrow_miss, mrow_sw, idr_eq, ne_eq, Nat.reduceEqDiff, not_false_eq_true, Nat.reduceLT, reduceCtorEq]; done))).symm).trans (by first | rfl | (simp only [mput, mrow_same, mrow_hit, mrow_miss, mrow_sw, idr_eq, ne_eq, Nat.reduceEqDiff, not_false_eq_true, Nat.reduceLT, reduceCtorEq]; done))) ?_
        exact G.reti (by decide +kernel) rfl rfl (Nat.le_of_ble_eq_true rfl) (Nat.le_of_ble_eq_true rfl) ((by rw [hQ]; simp only [k_town, if_neg c1, if_neg c192, g384, if_pos c390, mrow_self]))
