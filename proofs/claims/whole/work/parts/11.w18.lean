set_option maxHeartbeats 4000000 in
set_option maxRecDepth 3000 in
theorem lp_k_year_54_83 (z : Zp) (d : Nat) (M : Mem) (Q : Rs → Prop) (x4 : Int32) (nf : Nat) (hnf : nf ≤ 6) (cf : M.1 54 23 = nI nf) (hX : G z mX12_year (d + 7) 0 0 113 [some (.ref 54), none, none, none, some (.int x4), some (.int (k_year_83 (M.1 71) x4 nf)), none] [] M Q) : G z mX12_year (d + 7) 0 0 83 [some (.ref 54), none, none, none, some (.int x4), some (.int (nI 0)), some (.int (nI 0))] [] M Q := by
  refine down (n := nf) (P := fun i6 => G z mX12_year (d + 7) 0 0 83 [some (.ref 54), none, none, none, some (.int x4), some (.int (k_year_83 (M.1 71) x4 i6)), some (.int (nI i6))] [] M Q) ?_ ?_ 0 (Nat.zero_le _)
  · skip
    refine G.sl [(.iload 6, 2, 6, 0, 0, 0), (.aload_n 0, 1, 0, 0, 0, 0), (.getfield 165, 3, 11, 23, 146, 0)] [] (pc2 := 89) (ls2 := [some (.ref 54), none, none, none, some (.int x4), some (.int (k_year_83 (M.1 71) x4 nf)), some (.int (nI nf))]) (st2 := [.int (M.1 54 23), .int (nI nf)]) (M2 := M) (Ps := []) (by decide +kernel) rfl rfl trivial ?_
    rw [cf]
    refine G.ic_ge (off := (24)) (tgt := 113) (by decide +kernel) rfl (fun _ => ?_) (fun h9 => absurd (nI_le (by omega) (by omega)) h9)
    refine G.loc (ls2 := [some (.ref 54), none, none, none, some (.int x4), some (.int (k_year_83 (M.1 71) x4 nf)), none]) (by simp [subL]) ?_
    exact hX
  · skip
    intro i6 hi ih
    show G z mX12_year (d + 7) 0 0 83 [some (.ref 54), none, none, none, some (.int x4), some (.int (k_year_83 (M.1 71) x4 i6)), some (.int (nI i6))] [] M Q
    refine G.sl [(.iload 6, 2, 6, 0, 0, 0), (.aload_n 0, 1, 0, 0, 0, 0), (.getfield 165, 3, 11, 23, 146, 0)] [] (pc2 := 89) (ls2 := [some (.ref 54), none, none, none, some (.int x4), some (.int (k_year_83 (M.1 71) x4 i6)), some (.int (nI i6))]) (st2 := [.int (M.1 54 23), .int (nI i6)]) (M2 := M) (Ps := []) (by decide +kernel) rfl rfl trivial ?_
    rw [cf]
    refine G.ic_ge (off := (24)) (tgt := 113) (by decide +kernel) rfl (fun h9 => absurd h9 (nI_ge (by omega) (by omega))) (fun _ => ?_)
    refine G.sl [(.iload 5, 2, 5, 0, 0, 0), (.aload_n 0, 1, 0, 0, 0, 0), (.getfield 65, 3, 11, 40, 163, 0), (.bipush 44, 2, 0, 0, 0, nI 44), (.iload 6, 2, 6, 0, 0, 0), (.iadd, 1, 0, 0, 0, 0), (.iaload, 1, 0, 0, 0, 0), (.iadd, 1, 0, 0, 0, 0), (.istore 5, 2, 5, 0, 0, 0), (.iinc 6 1, 3, 6, 0, 0, nI 1), (.goto (-27), 3, 83, 0, 0, 0)] [44 + i6] (pc2 := 83) (ls2 := [some (.ref 54), none, none, none, some (.int x4), some (.int ((k_year_83 (M.1 71) x4 i6) + (M.1 71 (44 + i6)))), some (.int ((nI i6) + nI 1))]) (st2 := []) (M2 := M) (Ps := [((nI 44) + (nI i6)) = nI (44 + i6) ∧ (44 + i6) < 51]) (by decide +kernel) rfl rfl ⟨⟨(nI_add _ _), (by omega)⟩, trivial⟩ ?_
    rw [nI_add i6 1]
    simp only [k_year_83] at ih
    exact ih
set_option maxHeartbeats 4000000 in
set_option maxRecDepth 3000 in
theorem lp_k_foundMore_54_4 (z : Zp) (d : Nat) (M : Mem) (Q : Rs → Prop) (nf : Nat) (hnf : nf ≤ 6) (cf : M.1 54 23 = nI nf) (hX : G z mX12_foundMore (d) 0 0 40 [none, some (.int (k_foundMore_4 (M.1 71) (M.1 72) nf)), none] [] M Q) : G z mX12_foundMore (d) 0 0 4 [some (.ref 54), some (.int (nI 0)), some (.int (nI 0))] [] M Q := by
  refine down (n := nf) (P := fun i2 => G z mX12_foundMore (d) 0 0 4 [some (.ref 54), some (.int (k_foundMore_4 (M.1 71) (M.1 72) i2)), some (.int (nI i2))] [] M Q) ?_ ?_ 0 (Nat.zero_le _)
  · skip
    refine G.sl [(.iload_n 2, 1, 2, 0, 0, 0), (.aload_n 0, 1, 0, 0, 0, 0), (.getfield 165, 3, 11, 23, 146, 0)] [] (pc2 := 9) (ls2 := [some (.ref 54), some (.int (k_foundMore_4 (M.1 71) (M.1 72) nf)), some (.int (nI nf))]) (st2 := [.int (M.1 54 23), .int (nI nf)]) (M2 := M) (Ps := []) (by decide +kernel) rfl rfl trivial ?_
    rw [cf]
    refine G.ic_ge (off := (31)) (tgt := 40) (by decide +kernel) rfl (fun _ => ?_) (fun h9 => absurd (nI_le (by omega) (by omega)) h9)
    refine G.loc (ls2 := [none, some (.int (k_foundMore_4 (M.1 71) (M.1 72) nf)), none]) (by simp [subL]) ?_
    exact hX
  · skip
    intro i2 hi ih
    show G z mX12_foundMore (d) 0 0 4 [some (.ref 54), some (.int (k_foundMore_4 (M.1 71) (M.1 72) i2)), some (.int (nI i2))] [] M Q
    refine G.sl [(.iload_n 2, 1, 2, 0, 0, 0), (.aload_n 0, 1, 0, 0, 0, 0), (.getfield 165, 3, 11, 23, 146, 0)] [] (pc2 := 9) (ls2 := [some (.ref 54), some (.int (k_foundMore_4 (M.1 71) (M.1 72) i2)), some (.int (nI i2))]) (st2 := [.int (M.1 54 23), .int (nI i2)]) (M2 := M) (Ps := []) (by decide +kernel) rfl rfl trivial ?_
    rw [cf]
    refine G.ic_ge (off := (31)) (tgt := 40) (by decide +kernel) rfl (fun h9 => absurd h9 (nI_ge (by omega) (by omega))) (fun _ => ?_)
    refine G.sl [(.iload_n 1, 1, 1, 0, 0, 0), (.aload_n 0, 1, 0, 0, 0, 0), (.getfield 68, 3, 11, 41, 164, 0), (.bipush 38, 2, 0, 0, 0, nI 38), (.iload_n 2, 1, 2, 0, 0, 0), (.iadd, 1, 0, 0, 0, 0), (.iaload, 1, 0, 0, 0, 0), (.aload_n 0, 1, 0, 0, 0, 0), (.getfield 65, 3, 11, 40, 163, 0), (.bipush 38, 2, 0, 0, 0, nI 38), (.iload_n 2, 1, 2, 0, 0, 0), (.iadd, 1, 0, 0, 0, 0), (.iaload, 1, 0, 0, 0, 0), (.isub, 1, 0, 0, 0, 0), (.iadd, 1, 0, 0, 0, 0), (.istore_n 1, 1, 1, 0, 0, 0), (.iinc 2 1, 3, 2, 0, 0, nI 1), (.goto (-33), 3, 4, 0, 0, 0)] [38 + i2, 38 + i2] (pc2 := 4) (ls2 := [some (.ref 54), some (.int ((k_foundMore_4 (M.1 71) (M.1 72) i2) + ((M.1 72 (38 + i2)) - (M.1 71 (38 + i2))))), some (.int ((nI i2) + nI 1))]) (st2 := []) (M2 := M) (Ps := [((nI 38) + (nI i2)) = nI (38 + i2) ∧ (38 + i2) < 51, ((nI 38) + (nI i2)) = nI (38 + i2) ∧ (38 + i2) < 51]) (by decide +kernel) rfl rfl ⟨⟨(nI_add _ _), (by omega)⟩, ⟨(nI_add _ _), (by omega)⟩, trivial⟩ ?_
    rw [nI_add i2 1]
    simp only [k_foundMore_4] at ih
    exact ih
set_option maxHeartbeats 4000000 in
set_option maxRecDepth 3000 in
theorem c_k_foundMore_54 (z : Zp) (d : Nat) (M : Mem) (nf : Nat) (hnf : nf ≤ 6) (cf : M.1 54 23 = nI nf) : GM z mX12_foundMore (d) [.ref 54] M (fun rs => rs = .inl (some (.int (k_foundMore (M.1 71) (M.1 72) nf)), M)) := by
  refine GM.of oX12_foundMore.1 (Nat.le_of_ble_eq_true rfl) ?_
  show G z mX12_foundMore (d) 0 0 0 [some (.ref 54), none, none] [] M _
  obtain ⟨Q, hQ⟩ : ∃ Q : Rs → Prop, Q = (fun rs => rs = .inl (some (.int (k_foundMore (M.1 71) (M.1 72) nf)), M)) := ⟨_, rfl⟩
  rw [← hQ]
  refine G.sl [(.iconst 0, 1, 0, 0, 0, nI 0), (.istore_n 1, 1, 1, 0, 0, 0), (.iconst 0, 1, 0, 0, 0, nI 0), (.istore_n 2, 1, 2, 0, 0, 0)] [] (pc2 := 4) (ls2 := [some (.ref 54), some (.int (nI 0)), some (.int (nI 0))]) (st2 := []) (M2 := M) (Ps := []) (by decide +kernel) rfl rfl trivial ?_
  refine lp_k_foundMore_54_4 z d M Q nf hnf cf ?_
  show G z mX12_foundMore (d) 0 0 40 [none, some (.int (k_foundMore_4 (M.1 71) (M.1 72) nf)), none] [] M Q
  refine G.sl [(.iload_n 1, 1, 1, 0, 0, 0)] [] (pc2 := 41) (ls2 := [none, some (.int (k_foundMore_4 (M.1 71) (M.1 72) nf)), none]) (st2 := [.int (k_foundMore_4 (M.1 71) (M.1 72) nf)]) (M2 := M) (Ps := []) (by decide +kernel) rfl rfl trivial ?_
  exact G.reti (by decide +kernel) rfl rfl (Nat.le_of_ble_eq_true rfl) (Nat.le_of_ble_eq_true rfl) ((by rw [hQ]; simp only [k_foundMore, mrow_self]))
set_option maxHeartbeats 4000000 in
set_option maxRecDepth 3000 in
theorem c_k_year_54 (z : Zp) (d : Nat) (M : Mem) (x1 : Int32) (x2 : Int32) (x3 : Int32) (x4 : Int32) (nr : Nat) (hnr : nr ≤ 12) (cr : M.1 54 21 = nI nr) (nt : Nat) (hnt : nt ≤ 10) (ct : M.1 54 22 = nI nt) (nf : Nat) (hnf : nf ≤ 6) (cf : M.1 54 23 = nI nf) (hk : k_year_ok (M.1 54) (M.1 55) (M.1 60) (M.1 61) (M.1 65) (M.1 66) (M.1 67) (M.1 68) (M.1 71) (M.1 72) nr nt nf x1 x2 x3 x4) : GM z mX12_year (d + 7) [.ref 54, .int x1, .int x2, .int x3, .int x4] M (fun rs => rs = .inl (some (.int ((k_year (M.1 54) (M.1 55) (M.1 60) (M.1 61) (M.1 65) (M.1 66) (M.1 67) (M.1 68) (M.1 71) (M.1 72) nr nt nf x1 x2 x3 x4).1)), mrow (mrow (mrow (mrow (mrow M 54 ((k_year (M.1 54) (M.1 55) (M.1 60) (M.1 61) (M.1 65) (M.1 66) (M.1 67) (M.1 68) (M.1 71) (M.1 72) nr nt nf x1 x2 x3 x4).2.1)) 55 ((k_year (M.1 54) (M.1 55) (M.1 60) (M.1 61) (M.1 65) (M.1 66) (M.1 67) (M.1 68) (M.1 71) (M.1 72) nr nt nf x1 x2 x3 x4).2.2.1)) 67 ((k_year (M.1 54) (M.1 55) (M.1 60) (M.1 61) (M.1 65) (M.1 66) (M.1 67) (M.1 68) (M.1 71) (M.1 72) nr nt nf x1 x2 x3 x4).2.2.2.1)) 68 ((k_year (M.1 54) (M.1 55) (M.1 60) (M.1 61) (M.1 65) (M.1 66) (M.1 67) (M.1 68) (M.1 71) (M.1 72) nr nt nf x1 x2 x3 x4).2.2.2.2.1)) 72 ((k_year (M.1 54) (M.1 55) (M.1 60) (M.1 61) (M.1 65) (M.1 66) (M.1 67) (M.1 68) (M.1 71) (M.1 72) nr nt nf x1 x2 x3 x4).2.2.2.2.2))) := by
  simp only [k_year_ok] at hk
  refine GM.of oX12_year.1 (Nat.le_of_ble_eq_true rfl) ?_
  show G z mX12_year (d + 7) 0 0 0 [some (.ref 54), some (.int x1), some (.int x2), some (.int x3), some (.int x4), none, none] [] M _
  obtain ⟨Q, hQ⟩ : ∃ Q : Rs → Prop, Q = (fun rs => rs = .inl (some (.int ((k_year (M.1 54) (M.1 55) (M.1 60) (M.1 61) (M.1 65) (M.1 66) (M.1 67) (M.1 68) (M.1 71) (M.1 72) nr nt nf x1 x2 x3 x4).1)), mrow (mrow (mrow (mrow (mrow M 54 ((k_year (M.1 54) (M.1 55) (M.1 60) (M.1 61) (M.1 65) (M.1 66) (M.1 67) (M.1 68) (M.1 71) (M.1 72) nr nt nf x1 x2 x3 x4).2.1)) 55 ((k_year (M.1 54) (M.1 55) (M.1 60) (M.1 61) (M.1 65) (M.1 66) (M.1 67) (M.1 68) (M.1 71) (M.1 72) nr nt nf x1 x2 x3 x4).2.2.1)) 67 ((k_year (M.1 54) (M.1 55) (M.1 60) (M.1 61) (M.1 65) (M.1 66) (M.1 67) (M.1 68) (M.1 71) (M.1 72) nr nt nf x1 x2 x3 x4).2.2.2.1)) 68 ((k_year (M.1 54) (M.1 55) (M.1 60) (M.1 61) (M.1 65) (M.1 66) (M.1 67) (M.1 68) (M.1 71) (M.1 72) nr nt nf x1 x2 x3 x4).2.2.2.2.1)) 72 ((k_year (M.1 54) (M.1 55) (M.1 60) (M.1 61) (M.1 65) (M.1 66) (M.1 67) (M.1 68) (M.1 71) (M.1 72) nr nt nf x1 x2 x3 x4).2.2.2.2.2))) := ⟨_, rfl⟩
  rw [← hQ]
  refine G.sl [(.aload_n 0, 1, 0, 0, 0, 0), (.iconst 0, 1, 0, 0, 0, nI 0), (.putfield 3, 3, 11, 0, 123, 0), (.aload_n 0, 1, 0, 0, 0, 0), (.iload_n 2, 1, 2, 0, 0, 0), (.iload_n 3, 1, 3, 0, 0, 0)] [] (pc2 := 8) (ls2 := [some (.ref 54), some (.int x1), some (.int x2), some (.int x3), some (.int x4), none, none]) (st2 := [.int x3, .int x2, .ref 54]) (M2 := mput M 54 0 (nI 0)) (Ps := []) (by decide +kernel) rfl rfl trivial ?_
  refine G.mem (M' := mrow M 54 (upd (M.1 54) 0 (nI 0))) (by first | rfl | (simp only [mput, mrow_same, mrow_hit, mrow_miss, mrow_sw, idr_eq, ne_eq, Nat.reduceEqDiff, not_false_eq_true, Nat.reduceLT, reduceCtorEq]; done)) ?_
  obtain ⟨k1, hk⟩ := hk
  have t2 : GM z mX12_isYear (d + 6) [.int x2, .int x3] (mrow M 54 (upd (M.1 54) 0 (nI 0))) (fun rs => rs = .inl (some (.int (k_isYear x2 x3)), mrow M 54 (upd (M.1 54) 0 (nI 0)))) := by
    have q9 := c_k_isYear z (d + 6) (mrow M 54 (upd (M.1 54) 0 (nI 0))) x2 x3
    try simp only [mput, mrow_same, mrow_hit, mrow_miss, mrow_sw, idr_eq, ne_eq, Nat.reduceEqDiff, not_false_eq_true, Nat.reduceLT, reduceCtorEq] at q9
    exact q9
  refine G.callS (as := [.int x2, .int x3]) (rest := [.ref 54]) oX12_isYear lk_EvenFindersModel_439 (by decide +kernel) rfl (Nat.le_of_ble_eq_true rfl) rfl ⟨Nat.le_of_ble_eq_true rfl, Nat.le_of_ble_eq_true rfl⟩ t2 (fun v9 N9 h3 => ?_) (fun E9 N9 h3 => by cases h3)
  cases h3
  show G z mX12_year (d + 7) 0 0 11 [some (.ref 54), some (.int x1), some (.int x2), some (.int x3), some (.int x4), none, none] [.int (k_isYear x2 x3), .ref 54] (mrow M 54 (upd (M.1 54) 0 (nI 0))) Q
  refine G.if_eq (off := (17)) (tgt := 28) (by decide +kernel) rfl (fun c4 => ?_) (fun c4 => ?_)
  · skip
    rw [if_pos c4] at hk
    refine G.sl [(.iconst 0, 1, 0, 0, 0, nI 0), (.iconst 1, 1, 0, 0, 0, nI 1), (.iconst 1, 1, 0, 0, 0, nI 1)] [] (pc2 := 31) (ls2 := [some (.ref 54), some (.int x1), some (.int x2), some (.int x3), some (.int x4), none, none]) (st2 := [.int (nI 1), .int (nI 1), .int (nI 0), .ref 54]) (M2 := mrow M 54 (upd (M.1 54) 0 (nI 0))) (Ps := []) (by decide +kernel) rfl rfl trivial ?_
    have t5 : GM z mX12_may (d + 6) [.ref 54, .int (nI 0), .int (nI 1), .int (nI 1)] (mrow M 54 (upd (M.1 54) 0 (nI 0))) (fun rs => rs = .inl (some (.int (nI 0)), mrow (mrow M 54 (upd (upd (M.1 54) 0 (nI 0)) 0 (nI 1))) 55 (upd (M.1 55) 1 ((M.1 55 1) + nI 1)))) := by
      have q9 := m_may_1_f z (d + 6) (mrow M 54 (upd (M.1 54) 0 (nI 0))) (nI 1) (by first | rfl | (simp only [mput, mrow_same, mrow_hit, mrow_miss, mrow_sw, idr_eq, ne_eq, Nat.reduceEqDiff, not_false_eq_true, Nat.reduceLT, reduceCtorEq, pk_us]; done)) (by decide)
      try simp only [mput, mrow_same, mrow_hit, mrow_miss, mrow_sw, idr_eq, ne_eq, Nat.reduceEqDiff, not_false_eq_true, Nat.reduceLT, reduceCtorEq] at q9
      exact q9
    refine G.callV (as := [.int (nI 0), .int (nI 1), .int (nI 1)]) (rest := []) (a := 54) oX12_may lk_EvenFindersModel_213 (by decide +kernel) rfl rfl ⟨rfl, rfl⟩ (Nat.le_of_ble_eq_true rfl) rfl ⟨Nat.le_of_ble_eq_true rfl, Nat.le_of_ble_eq_true rfl⟩ t5 (fun v9 N9 h6 => ?_) (fun E9 N9 h6 => by cases h6)
    cases h6
    show G z mX12_year (d + 7) 0 0 34 [some (.ref 54), some (.int x1), some (.int x2), some (.int x3), some (.int x4), none, none] [.int (nI 0)] (mrow (mrow M 54 (upd (upd (M.1 54) 0 (nI 0)) 0 (nI 1))) 55 (upd (M.1 55) 1 ((M.1 55 1) + nI 1))) Q
    refine G.if_ne (off := (5)) (tgt := 39) (by decide +kernel) rfl (fun h9 => absurd (by decide) h9) (fun _ => ?_)
    refine G.sl [(.iconst 0, 1, 0, 0, 0, nI 0)] [] (pc2 := 38) (ls2 := [some (.ref 54), some (.int x1), some (.int x2), some (.int x3), some (.int x4), none, none]) (st2 := [.int (nI 0)]) (M2 := mrow (mrow M 54 (upd (upd (M.1 54) 0 (nI 0)) 0 (nI 1))) 55 (upd (M.1 55) 1 ((M.1 55 1) + nI 1))) (Ps := []) (by decide +kernel) rfl rfl trivial ?_
    refine G.mem (M' := mrow (mrow (mrow (mrow (mrow M 54 (upd (upd (M.1 54) 0 (nI 0)) 0 (nI 1))) 55 (upd (M.1 55) 1 ((M.1 55 1) + nI 1))) 67 (M.1 67)) 68 (M.1 68)) 72 (M.1 72)) (((((mrow_id (N := mrow (mrow M 54 (upd (upd (M.1 54) 0 (nI 0)) 0 (nI 1))) 55 (upd (M.1 55) 1 ((M.1 55 1) + nI 1))) (c := 67) (f := M.1 67) (by first | rfl | (simp only [mput, mrow_same, mrow_hit, mrow_miss, mrow_sw, idr_eq, ne_eq, Nat.reduceEqDiff, not_false_eq_true, Nat.reduceLT, reduceCtorEq]; done))).symm).trans (mrow_id (N := mrow (mrow (mrow M 54 (upd (upd (M.1 54) 0 (nI 0)) 0 (nI 1))) 55 (upd (M.1 55) 1 ((M.1 55 1) + nI 1))) 67 (M.1 67)) (c := 68) (f := M.1 68) (by first | rfl | (simp only [mput, mrow_same, mrow_hit, mrow_miss, mrow_sw, idr_eq, ne_eq, Nat.reduceEqDiff, not_false_eq_true, Nat.reduceLT, reduceCtorEq]; done))).symm).trans (mrow_id (N := mrow (mrow (mrow (mrow M 54 (upd (upd (M.1 54) 0 (nI 0)) 0 (nI 1))) 55 (upd (M.1 55) 1 ((M.1 55 1) + nI 1))) 67 (M.1 67)) 68 (M.1 68)) (c := 72) (f := M.1 72) (by first | rfl | (simp only [mput, mrow_same, mrow_hit, mrow_miss, mrow_sw, idr_eq, ne_eq, Nat.reduceEqDiff, not_false_eq_true, Nat.reduceLT, reduceCtorEq]; done))).symm).trans (by first | rfl | (simp only [mput, mrow_same, mrow_hit, mrow_miss, mrow_sw, idr_eq, ne_eq, Nat.reduceEqDiff, not_false_eq_true, Nat.reduceLT, reduceCtorEq]; done))) ?_
    exact G.reti (by decide +kernel) rfl rfl (Nat.le_of_ble_eq_true rfl) (Nat.le_of_ble_eq_true rfl) ((by rw [hQ]; simp only [k_year, if_pos c4, mrow_self]))
  · skip
    rw [if_neg c4] at hk
    refine G.sl [(.iload 4, 2, 4, 0, 0, 0), (.iconst 0, 1, 0, 0, 0, nI 0), (.iconst 3, 1, 0, 0, 0, nI 3)] [] (pc2 := 18) (ls2 := [some (.ref 54), some (.int x1), some (.int x2), some (.int x3), some (.int x4), none, none]) (st2 := [.int (nI 3), .int (nI 0), .int x4, .ref 54]) (M2 := mrow M 54 (upd (M.1 54) 0 (nI 0))) (Ps := []) (by decide +kernel) rfl rfl trivial ?_
    obtain ⟨k7, hk⟩ := hk
    have t8 : GM z mX12_within (d + 6) [.int x4, .int (nI 0), .int (nI 3)] (mrow M 54 (upd (M.1 54) 0 (nI 0))) (fun rs => rs = .inl (some (.int (k_within x4 (nI 0) (nI 3))), mrow M 54 (upd (M.1 54) 0 (nI 0)))) := by
      have q9 := c_k_within z (d + 6) (mrow M 54 (upd (M.1 54) 0 (nI 0))) x4 (nI 0) (nI 3)
      try simp only [mput, mrow_same, mrow_hit, mrow_miss, mrow_sw, idr_eq, ne_eq, Nat.reduceEqDiff, not_false_eq_true, Nat.reduceLT, reduceCtorEq] at q9
      exact q9
    refine G.callS (as := [.int x4, .int (nI 0), .int (nI 3)]) (rest := [.ref 54]) oX12_within lk_EvenFindersModel_379 (by decide +kernel) rfl (Nat.le_of_ble_eq_true rfl) rfl ⟨Nat.le_of_ble_eq_true rfl, Nat.le_of_ble_eq_true rfl⟩ t8 (fun v9 N9 h9 => ?_) (fun E9 N9 h9 => by cases h9)
    cases h9
    show G z mX12_year (d + 7) 0 0 21 [some (.ref 54), some (.int x1), some (.int x2), some (.int x3), some (.int x4), none, none] [.int (k_within x4 (nI 0) (nI 3)), .ref 54] (mrow M 54 (upd (M.1 54) 0 (nI 0))) Q
    refine G.if_eq (off := (7)) (tgt := 28) (by decide +kernel) rfl (fun c10 => ?_) (fun c10 => ?_)
    · skip
      rw [if_pos c10] at hk
      refine G.sl [(.iconst 0, 1, 0, 0, 0, nI 0), (.iconst 1, 1, 0, 0, 0, nI 1), (.iconst 1, 1, 0, 0, 0, nI 1)] [] (pc2 := 31) (ls2 := [some (.ref 54), some (.int x1), some (.int x2), some (.int x3), some (.int x4), none, none]) (st2 := [.int (nI 1), .int (nI 1), .int (nI 0), .ref 54]) (M2 := mrow M 54 (upd (M.1 54) 0 (nI 0))) (Ps := []) (by decide +kernel) rfl rfl trivial ?_
      have t11 : GM z mX12_may (d + 6) [.ref 54, .int (nI 0), .int (nI 1), .int (nI 1)] (mrow M 54 (upd (M.1 54) 0 (nI 0))) (fun rs => rs = .inl (some (.int (nI 0)), mrow (mrow M 54 (upd (upd (M.1 54) 0 (nI 0)) 0 (nI 1))) 55 (upd (M.1 55) 1 ((M.1 55 1) + nI 1)))) := by
        have q9 := m_may_1_f z (d + 6) (mrow M 54 (upd (M.1 54) 0 (nI 0))) (nI 1) (by first | rfl | (simp only [mput, mrow_same, mrow_hit, mrow_miss, mrow_sw, idr_eq, ne_eq, Nat.reduceEqDiff, not_false_eq_true, Nat.reduceLT, reduceCtorEq, pk_us]; done)) (by decide)
        try simp only [mput, mrow_same, mrow_hit, mrow_miss, mrow_sw, idr_eq, ne_eq, Nat.reduceEqDiff, not_false_eq_true, Nat.reduceLT, reduceCtorEq] at q9
        exact q9
      refine G.callV (as := [.int (nI 0), .int (nI 1), .int (nI 1)]) (rest := []) (a := 54) oX12_may lk_EvenFindersModel_213 (by decide +kernel) rfl rfl ⟨rfl, rfl⟩ (Nat.le_of_ble_eq_true rfl) rfl ⟨Nat.le_of_ble_eq_true rfl, Nat.le_of_ble_eq_true rfl⟩ t11 (fun v9 N9 h12 => ?_) (fun E9 N9 h12 => by cases h12)
      cases h12
      show G z mX12_year (d + 7) 0 0 34 [some (.ref 54), some (.int x1), some (.int x2), some (.int x3), some (.int x4), none, none] [.int (nI 0)] (mrow (mrow M 54 (upd (upd (M.1 54) 0 (nI 0)) 0 (nI 1))) 55 (upd (M.1 55) 1 ((M.1 55 1) + nI 1))) Q
      refine G.if_ne (off := (5)) (tgt := 39) (by decide +kernel) rfl (fun h9 => absurd (by decide) h9) (fun _ => ?_)
      refine G.sl [(.iconst 0, 1, 0, 0, 0, nI 0)] [] (pc2 := 38) (ls2 := [some (.ref 54), some (.int x1), some (.int x2), some (.int x3), some (.int x4), none, none]) (st2 := [.int (nI 0)]) (M2 := mrow (mrow M 54 (upd (upd (M.1 54) 0 (nI 0)) 0 (nI 1))) 55 (upd (M.1 55) 1 ((M.1 55 1) + nI 1))) (Ps := []) (by decide +kernel) rfl rfl trivial ?_
      refine G.mem (M' := mrow (mrow (mrow (mrow (mrow M 54 (upd (upd (M.1 54) 0 (nI 0)) 0 (nI 1))) 55 (upd (M.1 55) 1 ((M.1 55 1) + nI 1))) 67 (M.1 67)) 68 (M.1 68)) 72 (M.1 72)) (((((mrow_id (N := mrow (mrow M 54 (upd (upd (M.1 54) 0 (nI 0)) 0 (nI 1))) 55 (upd (M.1 55) 1 ((M.1 55 1) + nI 1))) (c := 67) (f := M.1 67) (by first | rfl | (simp only [mput, mrow_same, mrow_hit, mrow_miss, mrow_sw, idr_eq, ne_eq, Nat.reduceEqDiff, not_false_eq_true, Nat.reduceLT, reduceCtorEq]; done))).symm).trans (mrow_id (N := mrow (mrow (mrow M 54 (upd (upd (M.1 54) 0 (nI 0)) 0 (nI 1))) 55 (upd (M.1 55) 1 ((M.1 55 1) + nI 1))) 67 (M.1 67)) (c := 68) (f := M.1 68) (by first | rfl | (simp only [mput, mrow_same, mrow_hit, mrow_miss, mrow_sw, idr_eq, ne_eq, Nat.reduceEqDiff, not_false_eq_true, Nat.reduceLT, reduceCtorEq]; done))).symm).trans (mrow_id (N := mrow (mrow (mrow (mrow M 54 (upd (upd (M.1 54) 0 (nI 0)) 0 (nI 1))) 55 (upd (M.1 55) 1 ((M.1 55 1) + nI 1))) 67 (M.1 67)) 68 (M.1 68)) (c := 72) (f := M.1 72) (by first | rfl | (simp only [mput, mrow_same, mrow_hit, mrow_miss, mrow_sw, idr_eq, ne_eq, Nat.reduceEqDiff, not_false_eq_true, Nat.reduceLT, reduceCtorEq]; done))).symm).trans (by first | rfl | (simp only [mput, mrow_same, mrow_hit, mrow_miss, mrow_sw, idr_eq, ne_eq, Nat.reduceEqDiff, not_false_eq_true, Nat.reduceLT, reduceCtorEq]; done))) ?_
      exact G.reti (by decide +kernel) rfl rfl (Nat.le_of_ble_eq_true rfl) (Nat.le_of_ble_eq_true rfl) ((by rw [hQ]; simp only [k_year, if_neg c4, if_pos c10, mrow_self]))
    · skip
      rw [if_neg c10] at hk
      refine G.sl [(.iconst 1, 1, 0, 0, 0, nI 1), (.goto 4, 3, 29, 0, 0, 0), (.iconst 1, 1, 0, 0, 0, nI 1), (.iconst 1, 1, 0, 0, 0, nI 1)] [] (pc2 := 31) (ls2 := [some (.ref 54), some (.int x1), some (.int x2), some (.int x3), some (.int x4), none, none]) (st2 := [.int (nI 1), .int (nI 1), .int (nI 1), .ref 54]) (M2 := mrow M 54 (upd (M.1 54) 0 (nI 0))) (Ps := []) (by decide +kernel) rfl rfl trivial ?_
      have t13 : GM z mX12_may (d + 6) [.ref 54, .int (nI 1), .int (nI 1), .int (nI 1)] (mrow M 54 (upd (M.1 54) 0 (nI 0))) (fun rs => rs = .inl (some (.int (nI 1)), mrow M 54 (upd (M.1 54) 0 (nI 0)))) := by
        have q9 := m_may_1_t z (d + 6) (mrow M 54 (upd (M.1 54) 0 (nI 0))) (nI 1) (by first | rfl | (simp only [mput, mrow_same, mrow_hit, mrow_miss, mrow_sw, idr_eq, ne_eq, Nat.reduceEqDiff, not_false_eq_true, Nat.reduceLT, reduceCtorEq, pk_us]; done))
        try simp only [mput, mrow_same, mrow_hit, mrow_miss, mrow_sw, idr_eq, ne_eq, Nat.reduceEqDiff, not_false_eq_true, Nat.reduceLT, reduceCtorEq] at q9
        exact q9
      refine G.callV (as := [.int (nI 1), .int (nI 1), .int (nI 1)]) (rest := []) (a := 54) oX12_may lk_EvenFindersModel_213 (by decide +kernel) rfl rfl ⟨rfl, rfl⟩ (Nat.le_of_ble_eq_true rfl) rfl ⟨Nat.le_of_ble_eq_true rfl, Nat.le_of_ble_eq_true rfl⟩ t13 (fun v9 N9 h14 => ?_) (fun E9 N9 h14 => by cases h14)
      cases h14
      show G z mX12_year (d + 7) 0 0 34 [some (.ref 54), some (.int x1), some (.int x2), some (.int x3), some (.int x4), none, none] [.int (nI 1)] (mrow M 54 (upd (M.1 54) 0 (nI 0))) Q
      refine G.if_ne (off := (5)) (tgt := 39) (by decide +kernel) rfl (fun _ => ?_) (fun h9 => absurd h9 (by decide))
      refine G.sl [(.aload_n 0, 1, 0, 0, 0, 0), (.iload_n 1, 1, 1, 0, 0, 0), (.iload_n 2, 1, 2, 0, 0, 0), (.iload_n 3, 1, 3, 0, 0, 0)] [] (pc2 := 43) (ls2 := [some (.ref 54), some (.int x1), some (.int x2), some (.int x3), some (.int x4), none, none]) (st2 := [.int x3, .int x2, .int x1, .ref 54]) (M2 := mrow M 54 (upd (M.1 54) 0 (nI 0))) (Ps := []) (by decide +kernel) rfl rfl trivial ?_
      obtain ⟨k15, hk⟩ := hk
      rcases g16 : k_yearGoes (upd (M.1 54) 0 (nI 0)) (M.1 60) (M.1 61) (M.1 65) (M.1 66) (M.1 67) (M.1 68) (M.1 71) (M.1 72) nr nt nf x1 x2 x3 with ⟨u17, r18, r19, r20, r21⟩
      try simp only [g16] at hk
      have t22 : GM z mX12_yearGoes (d + 6) [.ref 54, .int x1, .int x2, .int x3] (mrow M 54 (upd (M.1 54) 0 (nI 0))) (fun rs => rs = .inl (none, mrow (mrow (mrow (mrow M 54 r18) 67 r19) 68 r20) 72 r21)) := by
        have q9 := c_k_yearGoes_54 z d (mrow M 54 (upd (M.1 54) 0 (nI 0))) x1 x2 x3 nr hnr cr nt hnt ct nf hnf cf k15
        try simp only [mput, mrow_same, mrow_hit, mrow_miss, mrow_sw, idr_eq, ne_eq, Nat.reduceEqDiff, not_false_eq_true, Nat.reduceLT, reduceCtorEq, g16] at q9
        exact q9
      refine G.callV (as := [.int x1, .int x2, .int x3]) (rest := []) (a := 54) oX12_yearGoes lk_EvenFindersModel_442 (by decide +kernel) rfl rfl ⟨rfl, rfl⟩ (Nat.le_of_ble_eq_true rfl) rfl ⟨Nat.le_of_ble_eq_true rfl, Nat.le_of_ble_eq_true rfl⟩ t22 (fun v9 N9 h23 => ?_) (fun E9 N9 h23 => by cases h23)
      cases h23
      show G z mX12_year (d + 7) 0 0 46 [some (.ref 54), some (.int x1), some (.int x2), some (.int x3), some (.int x4), none, none] [] (mrow (mrow (mrow (mrow M 54 r18) 67 r19) 68 r20) 72 r21) Q
      refine G.sl [(.iload 4, 2, 4, 0, 0, 0), (.iconst 1, 1, 0, 0, 0, nI 1)] [] (pc2 := 49) (ls2 := [some (.ref 54), some (.int x1), some (.int x2), some (.int x3), some (.int x4), none, none]) (st2 := [.int (nI 1), .int x4]) (M2 := mrow (mrow (mrow (mrow M 54 r18) 67 r19) 68 r20) 72 r21) (Ps := []) (by decide +kernel) rfl rfl trivial ?_
      refine G.ic_eq (off := (9)) (tgt := 58) (by decide +kernel) rfl (fun c24 => ?_) (fun c24 => ?_)
      · skip
        rw [if_pos c24] at hk
        refine G.sl [(.iload 4, 2, 4, 0, 0, 0), (.iconst 1, 1, 0, 0, 0, nI 1)] [] (pc2 := 61) (ls2 := [some (.ref 54), some (.int x1), some (.int x2), some (.int x3), some (.int x4), none, none]) (st2 := [.int (nI 1), .int x4]) (M2 := mrow (mrow (mrow (mrow M 54 r18) 67 r19) 68 r20) 72 r21) (Ps := []) (by decide +kernel) rfl rfl trivial ?_
        refine G.ic_ne (off := (10)) (tgt := 71) (by decide +kernel) rfl (fun h9 => absurd c24 h9) (fun _ => ?_)
        refine G.sl [(.aload_n 0, 1, 0, 0, 0, 0)] [] (pc2 := 65) (ls2 := [some (.ref 54), some (.int x1), some (.int x2), some (.int x3), some (.int x4), none, none]) (st2 := [.ref 54]) (M2 := mrow (mrow (mrow (mrow M 54 r18) 67 r19) 68 r20) 72 r21) (Ps := []) (by decide +kernel) rfl rfl trivial ?_
        obtain ⟨k25, k26, hk⟩ := hk
        have t28 : GM z mX12_allHeld (d + 6) [.ref 54] (mrow (mrow (mrow (mrow M 54 r18) 67 r19) 68 r20) 72 r21) (fun rs => rs = .inl (some (.int (k_allHeld r21 (ix (r18 22)))), mrow (mrow (mrow (mrow M 54 r18) 67 r19) 68 r20) 72 r21)) := by
          have q9 := c_k_allHeld_54 z (d + 5) (mrow (mrow (mrow (mrow M 54 r18) 67 r19) 68 r20) 72 r21) (ix (r18 22)) k26 (ixE k25)
          try simp only [mput, mrow_same, mrow_hit, mrow_miss, mrow_sw, idr_eq, ne_eq, Nat.reduceEqDiff, not_false_eq_true, Nat.reduceLT, reduceCtorEq] at q9
          exact q9
        refine G.callV (as := []) (rest := []) (a := 54) oX12_allHeld lk_EvenFindersModel_382 (by decide +kernel) rfl rfl ⟨rfl, rfl⟩ (Nat.le_of_ble_eq_true rfl) rfl ⟨Nat.le_of_ble_eq_true rfl, Nat.le_of_ble_eq_true rfl⟩ t28 (fun v9 N9 h29 => ?_) (fun E9 N9 h29 => by cases h29)
        cases h29
        show G z mX12_year (d + 7) 0 0 68 [some (.ref 54), some (.int x1), some (.int x2), some (.int x3), some (.int x4), none, none] [.int (k_allHeld r21 (ix (r18 22)))] (mrow (mrow (mrow (mrow M 54 r18) 67 r19) 68 r20) 72 r21) Q
        refine G.sl [(.goto 8, 3, 76, 0, 0, 0)] [] (pc2 := 76) (ls2 := [some (.ref 54), some (.int x1), some (.int x2), some (.int x3), some (.int x4), none, none]) (st2 := [.int (k_allHeld r21 (ix (r18 22)))]) (M2 := mrow (mrow (mrow (mrow M 54 r18) 67 r19) 68 r20) 72 r21) (Ps := []) (by decide +kernel) rfl rfl trivial ?_
        refine G.mem (M' := mrow (mrow (mrow (mrow (mrow M 54 r18) 55 (M.1 55)) 67 r19) 68 r20) 72 r21) (((mrow_id (N := mrow (mrow (mrow (mrow M 54 r18) 67 r19) 68 r20) 72 r21) (c := 55) (f := M.1 55) (by first | rfl | (simp only [mput, mrow_same, mrow_hit, mrow_miss, mrow_sw, idr_eq, ne_eq, Nat.reduceEqDiff, not_false_eq_true, Nat.reduceLT, reduceCtorEq]; done))).symm).trans (by first | rfl | (simp only [mput, mrow_same, mrow_hit, mrow_miss, mrow_sw, idr_eq, ne_eq, Nat.reduceEqDiff, not_false_eq_true, Nat.reduceLT, reduceCtorEq]; done))) ?_
        exact G.reti (by decide +kernel) rfl rfl (Nat.le_of_ble_eq_true rfl) (Nat.le_of_ble_eq_true rfl) ((by rw [hQ]; simp only [k_year, if_neg c4, if_neg c10, g16, if_pos c24, mrow_self]))
      · skip
        rw [if_neg c24] at hk
        refine G.sl [(.iload 4, 2, 4, 0, 0, 0), (.iconst 3, 1, 0, 0, 0, nI 3)] [] (pc2 := 55) (ls2 := [some (.ref 54), some (.int x1), some (.int x2), some (.int x3), some (.int x4), none, none]) (st2 := [.int (nI 3), .int x4]) (M2 := mrow (mrow (mrow (mrow M 54 r18) 67 r19) 68 r20) 72 r21) (Ps := []) (by decide +kernel) rfl rfl trivial ?_
        refine G.ic_ne (off := (22)) (tgt := 77) (by decide +kernel) rfl (fun c30 => ?_) (fun c30 => ?_)
        · skip
          rw [if_neg c30] at hk
          refine G.sl [(.iconst 0, 1, 0, 0, 0, nI 0), (.istore 5, 2, 5, 0, 0, 0), (.iconst 0, 1, 0, 0, 0, nI 0), (.istore 6, 2, 6, 0, 0, 0)] [] (pc2 := 83) (ls2 := [some (.ref 54), some (.int x1), some (.int x2), some (.int x3), some (.int x4), some (.int (nI 0)), some (.int (nI 0))]) (st2 := []) (M2 := mrow (mrow (mrow (mrow M 54 r18) 67 r19) 68 r20) 72 r21) (Ps := []) (by decide +kernel) rfl rfl trivial ?_
          refine G.loc (ls2 := [some (.ref 54), none, none, none, some (.int x4), some (.int (nI 0)), some (.int (nI 0))]) (by simp [subL]) ?_
          obtain ⟨k31, k32, hk⟩ := hk
          refine lp_k_year_54_83 z d (mrow (mrow (mrow (mrow M 54 r18) 67 r19) 68 r20) 72 r21) Q x4 (ix (r18 23)) k32 (ixE k31) ?_
          show G z mX12_year (d + 7) 0 0 113 [some (.ref 54), none, none, none, some (.int x4), some (.int (k_year_83 (M.1 71) x4 (ix (r18 23)))), none] [] (mrow (mrow (mrow (mrow M 54 r18) 67 r19) 68 r20) 72 r21) Q
          refine G.sl [(.iload 4, 2, 4, 0, 0, 0)] [] (pc2 := 115) (ls2 := [some (.ref 54), none, none, none, some (.int x4), some (.int (k_year_83 (M.1 71) x4 (ix (r18 23)))), none]) (st2 := [.int x4]) (M2 := mrow (mrow (mrow (mrow M 54 r18) 67 r19) 68 r20) 72 r21) (Ps := []) (by decide +kernel) rfl rfl trivial ?_
          refine G.if_ne (off := (10)) (tgt := 125) (by decide +kernel) rfl (fun c34 => ?_) (fun c34 => ?_)
          · skip
            refine G.sl [(.aload_n 0, 1, 0, 0, 0, 0), (.bipush 44, 2, 0, 0, 0, nI 44)] [] (pc2 := 128) (ls2 := [some (.ref 54), none, none, none, some (.int x4), some (.int (k_year_83 (M.1 71) x4 (ix (r18 23)))), none]) (st2 := [.int (nI 44), .ref 54]) (M2 := mrow (mrow (mrow (mrow M 54 r18) 67 r19) 68 r20) 72 r21) (Ps := []) (by decide +kernel) rfl rfl trivial ?_
            have t36 : GM z mX12_sumOf (d + 6) [.ref 54, .int (nI 44)] (mrow (mrow (mrow (mrow M 54 r18) 67 r19) 68 r20) 72 r21) (fun rs => rs = .inl (some (.int (k_sumOf_44 r21 (ix (r18 23)))), mrow (mrow (mrow (mrow M 54 r18) 67 r19) 68 r20) 72 r21)) := by
              have q9 := c_k_sumOf_44_54 z (d + 6) (mrow (mrow (mrow (mrow M 54 r18) 67 r19) 68 r20) 72 r21) (ix (r18 23)) (by omega) (ixE k31)
              try simp only [mput, mrow_same, mrow_hit, mrow_miss, mrow_sw, idr_eq, ne_eq, Nat.reduceEqDiff, not_false_eq_true, Nat.reduceLT, reduceCtorEq] at q9
              exact q9
            refine G.callV (as := [.int (nI 44)]) (rest := []) (a := 54) oX12_sumOf lk_EvenFindersModel_391 (by decide +kernel) rfl rfl ⟨rfl, rfl⟩ (Nat.le_of_ble_eq_true rfl) rfl ⟨Nat.le_of_ble_eq_true rfl, Nat.le_of_ble_eq_true rfl⟩ t36 (fun v9 N9 h37 => ?_) (fun E9 N9 h37 => by cases h37)
            cases h37
            show G z mX12_year (d + 7) 0 0 131 [some (.ref 54), none, none, none, some (.int x4), some (.int (k_year_83 (M.1 71) x4 (ix (r18 23)))), none] [.int (k_sumOf_44 r21 (ix (r18 23)))] (mrow (mrow (mrow (mrow M 54 r18) 67 r19) 68 r20) 72 r21) Q
            refine G.sl [(.iload 5, 2, 5, 0, 0, 0), (.isub, 1, 0, 0, 0, 0)] [] (pc2 := 134) (ls2 := [some (.ref 54), none, none, none, some (.int x4), some (.int (k_year_83 (M.1 71) x4 (ix (r18 23)))), none]) (st2 := [.int ((k_sumOf_44 r21 (ix (r18 23))) - (k_year_83 (M.1 71) x4 (ix (r18 23))))]) (M2 := mrow (mrow (mrow (mrow M 54 r18) 67 r19) 68 r20) 72 r21) (Ps := []) (by decide +kernel) rfl rfl trivial ?_
            refine G.mem (M' := mrow (mrow (mrow (mrow (mrow M 54 r18) 55 (M.1 55)) 67 r19) 68 r20) 72 r21) (((mrow_id (N := mrow (mrow (mrow (mrow M 54 r18) 67 r19) 68 r20) 72 r21) (c := 55) (f := M.1 55) (by first | rfl | (simp only [mput, mrow_same, mrow_hit, mrow_miss, mrow_sw, idr_eq, ne_eq, Nat.reduceEqDiff, not_false_eq_true, Nat.reduceLT, reduceCtorEq]; done))).symm).trans (by first | rfl | (simp only [mput, mrow_same, mrow_hit, mrow_miss, mrow_sw, idr_eq, ne_eq, Nat.reduceEqDiff, not_false_eq_true, Nat.reduceLT, reduceCtorEq]; done))) ?_
            exact G.reti (by decide +kernel) rfl rfl (Nat.le_of_ble_eq_true rfl) (Nat.le_of_ble_eq_true rfl) ((by rw [hQ]; simp only [k_year, if_neg c4, if_neg c10, g16, if_neg c24, if_neg c30, if_neg c34, mrow_self]))
          · skip
            refine G.sl [(.aload_n 0, 1, 0, 0, 0, 0)] [] (pc2 := 119) (ls2 := [some (.ref 54), none, none, none, some (.int x4), some (.int (k_year_83 (M.1 71) x4 (ix (r18 23)))), none]) (st2 := [.ref 54]) (M2 := mrow (mrow (mrow (mrow M 54 r18) 67 r19) 68 r20) 72 r21) (Ps := []) (by decide +kernel) rfl rfl trivial ?_
            have t39 : GM z mX12_foundMore (d + 6) [.ref 54] (mrow (mrow (mrow (mrow M 54 r18) 67 r19) 68 r20) 72 r21) (fun rs => rs = .inl (some (.int (k_foundMore (M.1 71) r21 (ix (r18 23)))), mrow (mrow (mrow (mrow M 54 r18) 67 r19) 68 r20) 72 r21)) := by
              have q9 := c_k_foundMore_54 z (d + 6) (mrow (mrow (mrow (mrow M 54 r18) 67 r19) 68 r20) 72 r21) (ix (r18 23)) (by omega) (ixE k31)
              try simp only [mput, mrow_same, mrow_hit, mrow_miss, mrow_sw, idr_eq, ne_eq, Nat.reduceEqDiff, not_false_eq_true, Nat.reduceLT, reduceCtorEq] at q9
              exact q9
            refine G.callV (as := []) (rest := []) (a := 54) oX12_foundMore lk_EvenFindersModel_445 (by decide +kernel) rfl rfl ⟨rfl, rfl⟩ (Nat.le_of_ble_eq_true rfl) rfl ⟨Nat.le_of_ble_eq_true rfl, Nat.le_of_ble_eq_true rfl⟩ t39 (fun v9 N9 h40 => ?_) (fun E9 N9 h40 => by cases h40)
            cases h40
            show G z mX12_year (d + 7) 0 0 122 [some (.ref 54), none, none, none, some (.int x4), some (.int (k_year_83 (M.1 71) x4 (ix (r18 23)))), none] [.int (k_foundMore (M.1 71) r21 (ix (r18 23)))] (mrow (mrow (mrow (mrow M 54 r18) 67 r19) 68 r20) 72 r21) Q
            refine G.sl [(.goto 12, 3, 134, 0, 0, 0)] [] (pc2 := 134) (ls2 := [some (.ref 54), none, none, none, some (.int x4), some (.int (k_year_83 (M.1 71) x4 (ix (r18 23)))), none]) (st2 := [.int (k_foundMore (M.1 71) r21 (ix (r18 23)))]) (M2 := mrow (mrow (mrow (mrow M 54 r18) 67 r19) 68 r20) 72 r21) (Ps := []) (by decide +kernel) rfl rfl trivial ?_
            refine G.mem (M' := mrow (mrow (mrow (mrow (mrow M 54 r18) 55 (M.1 55)) 67 r19) 68 r20) 72 r21) (((mrow_id (N := mrow (mrow (mrow (mrow M 54 r18) 67 r19) 68 r20) 72 r21) (c := 55) (f := M.1 55) (by first | rfl | (simp only [mput, mrow_same, mrow_hit, mrow_miss, mrow_sw, idr_eq, ne_eq, Nat.reduceEqDiff, not_false_eq_true, Nat.reduceLT, reduceCtorEq]; done))).symm).trans (by first | rfl | (simp only [mput, mrow_same, mrow_hit, mrow_miss, mrow_sw, idr_eq, ne_eq, Nat.reduceEqDiff, not_false_eq_true, Nat.reduceLT, reduceCtorEq]; done))) ?_
            exact G.reti (by decide +kernel) rfl rfl (Nat.le_of_ble_eq_true rfl) (Nat.le_of_ble_eq_true rfl) ((by rw [hQ]; simp only [k_year, if_neg c4, if_neg c10, g16, if_neg c24, if_neg c30, if_pos c34, mrow_self]))
        · skip
          rw [if_pos c30] at hk
          refine G.sl [(.iload 4, 2, 4, 0, 0, 0), (.iconst 1, 1, 0, 0, 0, nI 1)] [] (pc2 := 61) (ls2 := [some (.ref 54), some (.int x1), some (.int x2), some (.int x3), some (.int x4), none, none]) (st2 := [.int (nI 1), .int x4]) (M2 := mrow (mrow (mrow (mrow M 54 r18) 67 r19) 68 r20) 72 r21) (Ps := []) (by decide +kernel) rfl rfl trivial ?_
          refine G.ic_ne (off := (10)) (tgt := 71) (by decide +kernel) rfl (fun _ => ?_) (fun h9 => absurd h9 c24)
          refine G.sl [(.aload_n 0, 1, 0, 0, 0, 0), (.iconst 0, 1, 0, 0, 0, nI 0)] [] (pc2 := 73) (ls2 := [some (.ref 54), some (.int x1), some (.int x2), some (.int x3), some (.int x4), none, none]) (st2 := [.int (nI 0), .ref 54]) (M2 := mrow (mrow (mrow (mrow M 54 r18) 67 r19) 68 r20) 72 r21) (Ps := []) (by decide +kernel) rfl rfl trivial ?_
          obtain ⟨k41, k42, hk⟩ := hk
          have t44 : GM z mX12_owing (d + 6) [.ref 54, .int (nI 0)] (mrow (mrow (mrow (mrow M 54 r18) 67 r19) 68 r20) 72 r21) (fun rs => rs = .inl (some (.int (k_owing r21 (ix (r18 23)) (nI 0))), mrow (mrow (mrow (mrow M 54 r18) 67 r19) 68 r20) 72 r21)) := by
            have q9 := c_k_owing_54 z (d + 6) (mrow (mrow (mrow (mrow M 54 r18) 67 r19) 68 r20) 72 r21) (nI 0) (ix (r18 23)) k42 (ixE k41)
            try simp only [mput, mrow_same, mrow_hit, mrow_miss, mrow_sw, idr_eq, ne_eq, Nat.reduceEqDiff, not_false_eq_true, Nat.reduceLT, reduceCtorEq] at q9
            exact q9
          refine G.callV (as := [.int (nI 0)]) (rest := []) (a := 54) oX12_owing lk_EvenFindersModel_385 (by decide +kernel) rfl rfl ⟨rfl, rfl⟩ (Nat.le_of_ble_eq_true rfl) rfl ⟨Nat.le_of_ble_eq_true rfl, Nat.le_of_ble_eq_true rfl⟩ t44 (fun v9 N9 h45 => ?_) (fun E9 N9 h45 => by cases h45)
          cases h45
          show G z mX12_year (d + 7) 0 0 76 [some (.ref 54), some (.int x1), some (.int x2), some (.int x3), some (.int x4), none, none] [.int (k_owing r21 (ix (r18 23)) (nI 0))] (mrow (mrow (mrow (mrow M 54 r18) 67 r19) 68 r20) 72 r21) Q
          refine G.mem (M' := mrow (mrow (mrow (mrow (mrow M 54 r18) 55 (M.1 55)) 67 r19) 68 r20) 72 r21) (((mrow_id (N := mrow (mrow (mrow (mrow M 54 r18) 67 r19) 68 r20) 72 r21) (c := 55) (f := M.1 55) (by first | rfl | (simp only [mput, mrow_same, mrow_hit, mrow_miss, mrow_sw, idr_eq, ne_eq, Nat.reduceEqDiff, not_false_eq_true, Nat.reduceLT, reduceCtorEq]; done))).symm).trans (by first | rfl | (simp only [mput, mrow_same, mrow_hit, mrow_miss, mrow_sw, idr_eq, ne_eq, Nat.reduceEqDiff, not_false_eq_true, Nat.reduceLT, reduceCtorEq]; done))) ?_
          exact G.reti (by decide +kernel) rfl rfl (Nat.le_of_ble_eq_true rfl) (Nat.le_of_ble_eq_true rfl) ((by rw [hQ]; simp only [k_year, if_neg c4, if_neg c10, g16, if_neg c24, if_pos c30, mrow_self]))
set_option maxHeartbeats 4000000 in
set_option maxRecDepth 3000 in
theorem lp_k_span_54_77 (z : Zp) (d : Nat) (M : Mem) (Q : Rs → Prop) (x1 : Int32) (x2 : Int32) (x3 : Int32) (x4 : Int32) (x5 : Int32) (x6 : Int32) : ∀ (k0 : Nat) (s7 : Int32) (s8 : Int32) (s9 : Int32) (s10 : Int32) (q54 : (Nat → Int32)) (q67 : (Nat → Int32)) (q68 : (Nat → Int32)) (q72 : (Nat → Int32)), k_span_77_ok (M.1 60) (M.1 61) (M.1 65) (M.1 66) (M.1 71) x1 x2 x3 x4 x5 x6 k0 s7 s8 s9 s10 q54 q67 q68 q72 → (match k_span_77 (M.1 60) (M.1 61) (M.1 65) (M.1 66) (M.1 71) x1 x2 x3 x4 x5 x6 k0 s7 s8 s9 s10 q54 q67 q68 q72 with | (s7', s8', s9', s10', q54', q67', q68', q72') => G z mX12_span (d + 7) 0 0 167 [none, none, none, none, none, some (.int x5), none, some (.int (s7')), some (.int (s8')), some (.int (s9')), none, none] [] (mrow (mrow (mrow (mrow M 54 (q54')) 67 (q67')) 68 (q68')) 72 (q72')) Q) → G z mX12_span (d + 7) 0 0 77 [some (.ref 54), some (.int x1), some (.int x2), some (.int x3), some (.int x4), some (.int x5), some (.int x6), some (.int s7), some (.int s8), some (.int s9), some (.int s10), none] [] (mrow (mrow (mrow (mrow M 54 q54) 67 q67) 68 q68) 72 q72) Q := by
  intro k0
  induction k0 with
  | zero =>
      intro s7 s8 s9 s10 q54 q67 q68 q72 hk hX
      exact (by simpa only [k_span_77_ok] using hk : False).elim
  | succ k0 ih =>
      intro s7 s8 s9 s10 q54 q67 q68 q72 hk hX
      simp only [k_span_77_ok] at hk
      refine G.sl [(.iload 10, 2, 10, 0, 0, 0), (.iload_n 2, 1, 2, 0, 0, 0)] [] (pc2 := 80) (ls2 := [some (.ref 54), some (.int x1), some (.int x2), some (.int x3), some (.int x4), some (.int x5), some (.int x6), some (.int s7), some (.int s8), some (.int s9), some (.int s10), none]) (st2 := [.int x2, .int s10]) (M2 := mrow (mrow (mrow (mrow M 54 q54) 67 q67) 68 q68) 72 q72) (Ps := []) (by decide +kernel) rfl rfl trivial ?_
      refine G.ic_ge (off := (87)) (tgt := 167) (by decide +kernel) rfl (fun c27 => ?_) (fun c27 => ?_)
      · skip
        rw [if_pos c27] at hk
        refine G.loc (ls2 := [none, none, none, none, none, some (.int x5), none, some (.int s7), some (.int s8), some (.int s9), none, none]) (by simp [subL]) ?_
        simp only [k_span_77, if_pos c27] at hX
        exact hX
      · skip
        rw [if_neg c27] at hk
        refine G.sl [(.aload_n 0, 1, 0, 0, 0, 0), (.iload_n 1, 1, 1, 0, 0, 0), (.iload 10, 2, 10, 0, 0, 0), (.iadd, 1, 0, 0, 0, 0), (.iload_n 3, 1, 3, 0, 0, 0), (.iload 4, 2, 4, 0, 0, 0)] [] (pc2 := 91) (ls2 := [some (.ref 54), some (.int x1), some (.int x2), some (.int x3), some (.int x4), some (.int x5), some (.int x6), some (.int s7), some (.int s8), some (.int s9), some (.int s10), none]) (st2 := [.int x4, .int x3, .int (x1 + s10), .ref 54]) (M2 := mrow (mrow (mrow (mrow M 54 q54) 67 q67) 68 q68) 72 q72) (Ps := []) (by decide +kernel) rfl rfl trivial ?_
        obtain ⟨k28, k29, k30, k31, k32, k33, hk⟩ := hk
        obtain ⟨k34, hk⟩ := hk
        rcases g35 : k_yearGoes q54 (M.1 60) (M.1 61) (M.1 65) (M.1 66) q67 q68 (M.1 71) q72 (ix (q54 21)) (ix (q54 22)) (ix (q54 23)) (x1 + s10) x3 x4 with ⟨u36, r37, r38, r39, r40⟩
        try simp only [g35] at hk
        have t41 : GM z mX12_yearGoes (d + 6) [.ref 54, .int (x1 + s10), .int x3, .int x4] (mrow (mrow (mrow (mrow M 54 q54) 67 q67) 68 q68) 72 q72) (fun rs => rs = .inl (none, mrow (mrow (mrow (mrow M 54 r37) 67 r38) 68 r39) 72 r40)) := by
          have q9 := c_k_yearGoes_54 z d (mrow (mrow (mrow (mrow M 54 q54) 67 q67) 68 q68) 72 q72) (x1 + s10) x3 x4 (ix (q54 21)) k29 (ixE k28) (ix (q54 22)) k31 (ixE k30) (ix (q54 23)) k33 (ixE k32) k34
          try simp only [mput, mrow_same, mrow_hit, mrow_miss, mrow_sw, idr_eq, ne_eq, Nat.reduceEqDiff, not_false_eq_true, Nat.reduceLT, reduceCtorEq, g35] at q9
          exact q9
        refine G.callV (as := [.int (x1 + s10), .int x3, .int x4]) (rest := []) (a := 54) oX12_yearGoes lk_EvenFindersModel_442 (by decide +kernel) rfl rfl ⟨rfl, rfl⟩ (Nat.le_of_ble_eq_true rfl) rfl ⟨Nat.le_of_ble_eq_true rfl, Nat.le_of_ble_eq_true rfl⟩ t41 (fun v9 N9 h42 => ?_) (fun E9 N9 h42 => by cases h42)
        cases h42
        show G z mX12_span (d + 7) 0 0 94 [some (.ref 54), some (.int x1), some (.int x2), some (.int x3), some (.int x4), some (.int x5), some (.int x6), some (.int s7), some (.int s8), some (.int s9), some (.int s10), none] [] (mrow (mrow (mrow (mrow M 54 r37) 67 r38) 68 r39) 72 r40) Q
        refine G.sl [(.aload_n 0, 1, 0, 0, 0, 0)] [] (pc2 := 95) (ls2 := [some (.ref 54), some (.int x1), some (.int x2), some (.int x3), some (.int x4), some (.int x5), some (.int x6), some (.int s7), some (.int s8), some (.int s9), some (.int s10), none]) (st2 := [.ref 54]) (M2 := mrow (mrow (mrow (mrow M 54 r37) 67 r38) 68 r39) 72 r40) (Ps := []) (by decide +kernel) rfl rfl trivial ?_
        obtain ⟨k43, k44, hk⟩ := hk
        obtain ⟨k45, hk⟩ := hk
        have t46 : GM z mX12_foundMore (d + 6) [.ref 54] (mrow (mrow (mrow (mrow M 54 r37) 67 r38) 68 r39) 72 r40) (fun rs => rs = .inl (some (.int (k_foundMore (M.1 71) r40 (ix (r37 23)))), mrow (mrow (mrow (mrow M 54 r37) 67 r38) 68 r39) 72 r40)) := by
          have q9 := c_k_foundMore_54 z (d + 6) (mrow (mrow (mrow (mrow M 54 r37) 67 r38) 68 r39) 72 r40) (ix (r37 23)) k44 (ixE k43)
          try simp only [mput, mrow_same, mrow_hit, mrow_miss, mrow_sw, idr_eq, ne_eq, Nat.reduceEqDiff, not_false_eq_true, Nat.reduceLT, reduceCtorEq] at q9
          exact q9
        refine G.callV (as := []) (rest := []) (a := 54) oX12_foundMore lk_EvenFindersModel_445 (by decide +kernel) rfl rfl ⟨rfl, rfl⟩ (Nat.le_of_ble_eq_true rfl) rfl ⟨Nat.le_of_ble_eq_true rfl, Nat.le_of_ble_eq_true rfl⟩ t46 (fun v9 N9 h47 => ?_) (fun E9 N9 h47 => by cases h47)
        cases h47
        show G z mX12_span (d + 7) 0 0 98 [some (.ref 54), some (.int x1), some (.int x2), some (.int x3), some (.int x4), some (.int x5), some (.int x6), some (.int s7), some (.int s8), some (.int s9), some (.int s10), none] [.int (k_foundMore (M.1 71) r40 (ix (r37 23)))] (mrow (mrow (mrow (mrow M 54 r37) 67 r38) 68 r39) 72 r40) Q
        refine G.sl [(.istore 11, 2, 11, 0, 0, 0), (.iload 7, 2, 7, 0, 0, 0), (.iconst (-1), 1, 0, 0, 0, (-1))] [] (pc2 := 103) (ls2 := [some (.ref 54), some (.int x1), some (.int x2), some (.int x3), some (.int x4), some (.int x5), some (.int x6), some (.int s7), some (.int s8), some (.int s9), some (.int s10), some (.int (k_foundMore (M.1 71) r40 (ix (r37 23))))]) (st2 := [.int ((-1)), .int s7]) (M2 := mrow (mrow (mrow (mrow M 54 r37) 67 r38) 68 r39) 72 r40) (Ps := []) (by decide +kernel) rfl rfl trivial ?_
        refine G.ic_eq (off := (10)) (tgt := 113) (by decide +kernel) rfl (fun c48 => ?_) (fun c48 => ?_)
        · skip
          rw [if_pos c48] at hk
          refine G.sl [(.iload 11, 2, 11, 0, 0, 0), (.goto 5, 3, 120, 0, 0, 0), (.istore 7, 2, 7, 0, 0, 0), (.iload 11, 2, 11, 0, 0, 0), (.iload 8, 2, 8, 0, 0, 0)] [] (pc2 := 126) (ls2 := [some (.ref 54), some (.int x1), some (.int x2), some (.int x3), some (.int x4), some (.int x5), some (.int x6), some (.int (k_foundMore (M.1 71) r40 (ix (r37 23)))), some (.int s8), some (.int s9), some (.int s10), some (.int (k_foundMore (M.1 71) r40 (ix (r37 23))))]) (st2 := [.int s8, .int (k_foundMore (M.1 71) r40 (ix (r37 23)))]) (M2 := mrow (mrow (mrow (mrow M 54 r37) 67 r38) 68 r39) 72 r40) (Ps := []) (by decide +kernel) rfl rfl trivial ?_
          refine G.ic_le (off := (8)) (tgt := 134) (by decide +kernel) rfl (fun c49 => ?_) (fun c49 => ?_)
          · skip
            rw [if_pos c49] at hk
            obtain ⟨k50, k51, hk⟩ := hk
            refine G.sl [(.iload 8, 2, 8, 0, 0, 0), (.istore 8, 2, 8, 0, 0, 0), (.iload 9, 2, 9, 0, 0, 0), (.aload_n 0, 1, 0, 0, 0, 0), (.getfield 68, 3, 11, 41, 164, 0), (.bipush 26, 2, 0, 0, 0, nI 26), (.iload 6, 2, 6, 0, 0, 0), (.iadd, 1, 0, 0, 0, 0), (.iaload, 1, 0, 0, 0, 0)] [26 + (ix x6)] (pc2 := 150) (ls2 := [some (.ref 54), some (.int x1), some (.int x2), some (.int x3), some (.int x4), some (.int x5), some (.int x6), some (.int (k_foundMore (M.1 71) r40 (ix (r37 23)))), some (.int s8), some (.int s9), some (.int s10), some (.int (k_foundMore (M.1 71) r40 (ix (r37 23))))]) (st2 := [.int (r40 (26 + (ix x6))), .int s9]) (M2 := mrow (mrow (mrow (mrow M 54 r37) 67 r38) 68 r39) 72 r40) (Ps := [((nI 26) + x6) = nI (26 + (ix x6)) ∧ (26 + (ix x6)) < 51]) (by decide +kernel) rfl rfl ⟨⟨(nAdd rfl (ixE k50)), k51⟩, trivial⟩ ?_
            refine G.if_ne (off := (7)) (tgt := 157) (by decide +kernel) rfl (fun c52 => ?_) (fun c52 => ?_)
            · skip
              rw [if_neg c52] at hk
              refine G.sl [(.iconst 0, 1, 0, 0, 0, nI 0), (.iadd, 1, 0, 0, 0, 0), (.istore 9, 2, 9, 0, 0, 0), (.iinc 10 1, 3, 10, 0, 0, nI 1), (.goto (-87), 3, 77, 0, 0, 0)] [] (pc2 := 77) (ls2 := [some (.ref 54), some (.int x1), some (.int x2), some (.int x3), some (.int x4), some (.int x5), some (.int x6), some (.int (k_foundMore (M.1 71) r40 (ix (r37 23)))), some (.int s8), some (.int (s9 + (nI 0))), some (.int (s10 + nI 1)), some (.int (k_foundMore (M.1 71) r40 (ix (r37 23))))]) (st2 := []) (M2 := mrow (mrow (mrow (mrow M 54 r37) 67 r38) 68 r39) 72 r40) (Ps := []) (by decide +kernel) rfl rfl trivial ?_
              refine G.loc (ls2 := [some (.ref 54), some (.int x1), some (.int x2), some (.int x3), some (.int x4), some (.int x5), some (.int x6), some (.int (k_foundMore (M.1 71) r40 (ix (r37 23)))), some (.int s8), some (.int (s9 + (nI 0))), some (.int (s10 + nI 1)), none]) (by simp [subL]) ?_
              simp only [k_span_77, if_neg c27, g35, if_pos c48, if_pos c49, if_neg c52] at hX
              exact ih (k_foundMore (M.1 71) r40 (ix (r37 23))) s8 (s9 + (nI 0)) (s10 + nI 1) r37 r38 r39 r40 hk hX
            · skip
              rw [if_pos c52] at hk
              refine G.sl [(.iconst 1, 1, 0, 0, 0, nI 1), (.goto 4, 3, 158, 0, 0, 0), (.iadd, 1, 0, 0, 0, 0), (.istore 9, 2, 9, 0, 0, 0), (.iinc 10 1, 3, 10, 0, 0, nI 1), (.goto (-87), 3, 77, 0, 0, 0)] [] (pc2 := 77) (ls2 := [some (.ref 54), some (.int x1), some (.int x2), some (.int x3), some (.int x4), some (.int x5), some (.int x6), some (.int (k_foundMore (M.1 71) r40 (ix (r37 23)))), some (.int s8), some (.int (s9 + (nI 1))), some (.int (s10 + nI 1)), some (.int (k_foundMore (M.1 71) r40 (ix (r37 23))))]) (st2 := []) (M2 := mrow (mrow (mrow (mrow M 54 r37) 67 r38) 68 r39) 72 r40) (Ps := []) (by decide +kernel) rfl rfl trivial ?_
              refine G.loc (ls2 := [some (.ref 54), some (.int x1), some (.int x2), some (.int x3), some (.int x4), some (.int x5), some (.int x6), some (.int (k_foundMore (M.1 71) r40 (ix (r37 23)))), some (.int s8), some (.int (s9 + (nI 1))), some (.int (s10 + nI 1)), none]) (by simp [subL]) ?_
              simp only [k_span_77, if_neg c27, g35, if_pos c48, if_pos c49, if_pos c52] at hX
              exact ih (k_foundMore (M.1 71) r40 (ix (r37 23))) s8 (s9 + (nI 1)) (s10 + nI 1) r37 r38 r39 r40 hk hX
          · skip
            rw [if_neg c49] at hk
            obtain ⟨k53, k54, hk⟩ := hk
            refine G.sl [(.iload 11, 2, 11, 0, 0, 0), (.goto 5, 3, 136, 0, 0, 0), (.istore 8, 2, 8, 0, 0, 0), (.iload 9, 2, 9, 0, 0, 0), (.aload_n 0, 1, 0, 0, 0, 0), (.getfield 68, 3, 11, 41, 164, 0), (.bipush 26, 2, 0, 0, 0, nI 26), (.iload 6, 2, 6, 0, 0, 0), (.iadd, 1, 0, 0, 0, 0), (.iaload, 1, 0, 0, 0, 0)] [26 + (ix x6)] (pc2 := 150) (ls2 := [some (.ref 54), some (.int x1), some (.int x2), some (.int x3), some (.int x4), some (.int x5), some (.int x6), some (.int (k_foundMore (M.1 71) r40 (ix (r37 23)))), some (.int (k_foundMore (M.1 71) r40 (ix (r37 23)))), some (.int s9), some (.int s10), some (.int (k_foundMore (M.1 71) r40 (ix (r37 23))))]) (st2 := [.int (r40 (26 + (ix x6))), .int s9]) (M2 := mrow (mrow (mrow (mrow M 54 r37) 67 r38) 68 r39) 72 r40) (Ps := [((nI 26) + x6) = nI (26 + (ix x6)) ∧ (26 + (ix x6)) < 51]) (by decide +kernel) rfl rfl ⟨⟨(nAdd rfl (ixE k53)), k54⟩, trivial⟩ ?_
            refine G.if_ne (off := (7)) (tgt := 157) (by decide +kernel) rfl (fun c55 => ?_) (fun c55 => ?_)
            · skip
              rw [if_neg c55] at hk
              refine G.sl [(.iconst 0, 1, 0, 0, 0, nI 0), (.iadd, 1, 0, 0, 0, 0), (.istore 9, 2, 9, 0, 0, 0), (.iinc 10 1, 3, 10, 0, 0, nI 1), (.goto (-87), 3, 77, 0, 0, 0)] [] (pc2 := 77) (ls2 := [some (.ref 54), some (.int x1), some (.int x2), some (.int x3), some (.int x4), some (.int x5), some (.int x6), some (.int (k_foundMore (M.1 71) r40 (ix (r37 23)))), some (.int (k_foundMore (M.1 71) r40 (ix (r37 23)))), some (.int (s9 + (nI 0))), some (.int (s10 + nI 1)), some (.int (k_foundMore (M.1 71) r40 (ix (r37 23))))]) (st2 := []) (M2 := mrow (mrow (mrow (mrow M 54 r37) 67 r38) 68 r39) 72 r40) (Ps := []) (by decide +kernel) rfl rfl trivial ?_
              refine G.loc (ls2 := [some (.ref 54), some (.int x1), some (.int x2), some (.int x3), some (.int x4), some (.int x5), some (.int x6), some (.int (k_foundMore (M.1 71) r40 (ix (r37 23)))), some (.int (k_foundMore (M.1 71) r40 (ix (r37 23)))), some (.int (s9 + (nI 0))), some (.int (s10 + nI 1)), none]) (by simp [subL]) ?_
              simp only [k_span_77, if_neg c27, g35, if_pos c48, if_neg c49, if_neg c55] at hX
              exact ih (k_foundMore (M.1 71) r40 (ix (r37 23))) (k_foundMore (M.1 71) r40 (ix (r37 23))) (s9 + (nI 0)) (s10 + nI 1) r37 r38 r39 r40 hk hX
            · skip
              rw [if_pos c55] at hk
              refine G.sl [(.iconst 1, 1, 0, 0, 0, nI 1), (.goto 4, 3, 158, 0, 0, 0), (.iadd, 1, 0, 0, 0, 0), (.istore 9, 2, 9, 0, 0, 0), (.iinc 10 1, 3, 10, 0, 0, nI 1), (.goto (-87), 3, 77, 0, 0, 0)] [] (pc2 := 77) (ls2 := [some (.ref 54), some (.int x1), some (.int x2), some (.int x3), some (.int x4), some (.int x5), some (.int x6), some (.int (k_foundMore (M.1 71) r40 (ix (r37 23)))), some (.int (k_foundMore (M.1 71) r40 (ix (r37 23)))), some (.int (s9 + (nI 1))), some (.int (s10 + nI 1)), some (.int (k_foundMore (M.1 71) r40 (ix (r37 23))))]) (st2 := []) (M2 := mrow (mrow (mrow (mrow M 54 r37) 67 r38) 68 r39) 72 r40) (Ps := []) (by decide +kernel) rfl rfl trivial ?_
              refine G.loc (ls2 := [some (.ref 54), some (.int x1), some (.int x2), some (.int x3), some (.int x4), some (.int x5), some (.int x6), some (.int (k_foundMore (M.1 71) r40 (ix (r37 23)))), some (.int (k_foundMore (M.1 71) r40 (ix (r37 23)))), some (.int (s9 + (nI 1))), some (.int (s10 + nI 1)), none]) (by simp [subL]) ?_
              simp only [k_span_77, if_neg c27, g35, if_pos c48, if_neg c49, if_pos c55] at hX
              exact ih (k_foundMore (M.1 71) r40 (ix (r37 23))) (k_foundMore (M.1 71) r40 (ix (r37 23))) (s9 + (nI 1)) (s10 + nI 1) r37 r38 r39 r40 hk hX
        · skip
          rw [if_neg c48] at hk
          refine G.sl [(.iload 11, 2, 11, 0, 0, 0), (.iload 7, 2, 7, 0, 0, 0)] [] (pc2 := 110) (ls2 := [some (.ref 54), some (.int x1), some (.int x2), some (.int x3), some (.int x4), some (.int x5), some (.int x6), some (.int s7), some (.int s8), some (.int s9), some (.int s10), some (.int (k_foundMore (M.1 71) r40 (ix (r37 23))))]) (st2 := [.int s7, .int (k_foundMore (M.1 71) r40 (ix (r37 23)))]) (M2 := mrow (mrow (mrow (mrow M 54 r37) 67 r38) 68 r39) 72 r40) (Ps := []) (by decide +kernel) rfl rfl trivial ?_
          refine G.ic_ge (off := (8)) (tgt := 118) (by decide +kernel) rfl (fun c56 => ?_) (fun c56 => ?_)
          · skip
            rw [if_pos c56] at hk
            refine G.sl [(.iload 7, 2, 7, 0, 0, 0), (.istore 7, 2, 7, 0, 0, 0), (.iload 11, 2, 11, 0, 0, 0), (.iload 8, 2, 8, 0, 0, 0)] [] (pc2 := 126) (ls2 := [some (.ref 54), some (.int x1), some (.int x2), some (.int x3), some (.int x4), some (.int x5), some (.int x6), some (.int s7), some (.int s8), some (.int s9), some (.int s10), some (.int (k_foundMore (M.1 71) r40 (ix (r37 23))))]) (st2 := [.int s8, .int (k_foundMore (M.1 71) r40 (ix (r37 23)))]) (M2 := mrow (mrow (mrow (mrow M 54 r37) 67 r38) 68 r39) 72 r40) (Ps := []) (by decide +kernel) rfl rfl trivial ?_
            refine G.ic_le (off := (8)) (tgt := 134) (by decide +kernel) rfl (fun c57 => ?_) (fun c57 => ?_)
            · skip
              rw [if_pos c57] at hk
              obtain ⟨k58, k59, hk⟩ := hk
              refine G.sl [(.iload 8, 2, 8, 0, 0, 0), (.istore 8, 2, 8, 0, 0, 0), (.iload 9, 2, 9, 0, 0, 0), (.aload_n 0, 1, 0, 0, 0, 0), (.getfield 68, 3, 11, 41, 164, 0), (.bipush 26, 2, 0, 0, 0, nI 26), (.iload 6, 2, 6, 0, 0, 0), (.iadd, 1, 0, 0, 0, 0), (.iaload, 1, 0, 0, 0, 0)] [26 + (ix x6)] (pc2 := 150) (ls2 := [some (.ref 54), some (.int x1), some (.int x2), some (.int x3), some (.int x4), some (.int x5), some (.int x6), some (.int s7), some (.int s8), some (.int s9), some (.int s10), some (.int (k_foundMore (M.1 71) r40 (ix (r37 23))))]) (st2 := [.int (r40 (26 + (ix x6))), .int s9]) (M2 := mrow (mrow (mrow (mrow M 54 r37) 67 r38) 68 r39) 72 r40) (Ps := [((nI 26) + x6) = nI (26 + (ix x6)) ∧ (26 + (ix x6)) < 51]) (by decide +kernel) rfl rfl ⟨⟨(nAdd rfl (ixE k58)), k59⟩, trivial⟩ ?_
              refine G.if_ne (off := (7)) (tgt := 157) (by decide +kernel) rfl (fun c60 => ?_) (fun c60 => ?_)
              · skip
                rw [if_neg c60] at hk
                refine G.sl [(.iconst 0, 1, 0, 0, 0, nI 0), (.iadd, 1, 0, 0, 0, 0), (.istore 9, 2, 9, 0, 0, 0), (.iinc 10 1, 3, 10, 0, 0, nI 1), (.goto (-87), 3, 77, 0, 0, 0)] [] (pc2 := 77) (ls2 := [some (.ref 54), some (.int x1), some (.int x2), some (.int x3), some (.int x4), some (.int x5), some (.int x6), some (.int s7), some (.int s8), some (.int (s9 + (nI 0))), some (.int (s10 + nI 1)), some (.int (k_foundMore (M.1 71) r40 (ix (r37 23))))]) (st2 := []) (M2 := mrow (mrow (mrow (mrow M 54 r37) 67 r38) 68 r39) 72 r40) (Ps := []) (by decide +kernel) rfl rfl trivial ?_
                refine G.loc (ls2 := [some (.ref 54), some (.int x1), some (.int x2), some (.int x3), some (.int x4), some (.int x5), some (.int x6), some (.int s7), some (.int s8), some (.int (s9 + (nI 0))), some (.int (s10 + nI 1)), none]) (by simp [subL]) ?_
                simp only [k_span_77, if_neg c27, g35, if_neg c48, if_pos c56, if_pos c57, if_neg c60] at hX
                exact ih s7 s8 (s9 + (nI 0)) (s10 + nI 1) r37 r38 r39 r40 hk hX
              · skip
                rw [if_pos c60] at hk
                refine G.sl [(.iconst 1, 1, 0, 0, 0, nI 1), (.goto 4, 3, 158, 0, 0, 0), (.iadd, 1, 0, 0, 0, 0), (.istore 9, 2, 9, 0, 0, 0), (.iinc 10 1, 3, 10, 0, 0, nI 1), (.goto (-87), 3, 77, 0, 0, 0)] [] (pc2 := 77) (ls2 := [some (.ref 54), some (.int x1), some (.int x2), some (.int x3), some (.int x4), some (.int x5), some (.int x6), some (.int s7), some (.int s8), some (.int (s9 + (nI 1))), some (.int (s10 + nI 1)), some (.int (k_foundMore (M.1 71) r40 (ix (r37 23))))]) (st2 := []) (M2 := mrow (mrow (mrow (mrow M 54 r37) 67 r38) 68 r39) 72 r40) (Ps := []) (by decide +kernel) rfl rfl trivial ?_
                refine G.loc (ls2 := [some (.ref 54), some (.int x1), some (.int x2), some (.int x3), some (.int x4), some (.int x5), some (.int x6), some (.int s7), some (.int s8), some (.int (s9 + (nI 1))), some (.int (s10 + nI 1)), none]) (by simp [subL]) ?_
                simp only [k_span_77, if_neg c27, g35, if_neg c48, if_pos c56, if_pos c57, if_pos c60] at hX
                exact ih s7 s8 (s9 + (nI 1)) (s10 + nI 1) r37 r38 r39 r40 hk hX
            · skip
              rw [if_neg c57] at hk
              obtain ⟨k61, k62, hk⟩ := hk
              refine G.sl [(.iload 11, 2, 11, 0, 0, 0), (.goto 5, 3, 136, 0, 0, 0), (.istore 8, 2, 8, 0, 0, 0), (.iload 9, 2, 9, 0, 0, 0), (.aload_n 0, 1, 0, 0, 0, 0), (.getfield 68, 3, 11, 41, 164, 0), (.bipush 26, 2, 0, 0, 0, nI 26), (.iload 6, 2, 6, 0, 0, 0), (.iadd, 1, 0, 0, 0, 0), (.iaload, 1, 0, 0, 0, 0)] [26 + (ix x6)] (pc2 := 150) (ls2 := [some (.ref 54), some (.int x1), some (.int x2), some (.int x3), some (.int x4), some (.int x5), some (.int x6), some (.int s7), some (.int (k_foundMore (M.1 71) r40 (ix (r37 23)))), some (.int s9), some (.int s10), some (.int (k_foundMore (M.1 71) r40 (ix (r37 23))))]) (st2 := [.int (r40 (26 + (ix x6))), .int s9]) (M2 := mrow (mrow (mrow (mrow M 54 r37) 67 r38) 68 r39) 72 r40) (Ps := [((nI 26) + x6) = nI (26 + (ix x6)) ∧ (26 + (ix x6)) < 51]) (by decide +kernel) rfl rfl ⟨⟨(nAdd rfl (ixE k61)), k62⟩, trivial⟩ ?_
              refine G.if_ne (off := (7)) (tgt := 157) (by decide +kernel) rfl (fun c63 => ?_) (fun c63 => ?_)
              · skip
                rw [if_neg c63] at hk
                refine G.sl [(.iconst 0, 1, 0, 0, 0, nI 0), (.iadd, 1, 0, 0, 0, 0), (.istore 9, 2, 9, 0, 0, 0), (.iinc 10 1, 3, 10, 0, 0, nI 1), (.goto (-87), 3, 77, 0, 0, 0)] [] (pc2 := 77) (ls2 := [some (.ref 54), some (.int x1), some (.int x2), some (.int x3), some (.int x4), some (.int x5), some (.int x6), some (.int s7), some (.int (k_foundMore (M.1 71) r40 (ix (r37 23)))), some (.int (s9 + (nI 0))), some (.int (s10 + nI 1)), some (.int (k_foundMore (M.1 71) r40 (ix (r37 23))))]) (st2 := []) (M2 := mrow (mrow (mrow (mrow M 54 r37) 67 r38) 68 r39) 72 r40) (Ps := []) (by decide +kernel) rfl rfl trivial ?_
                refine G.loc (ls2 := [some (.ref 54), some (.int x1), some (.int x2), some (.int x3), some (.int x4), some (.int x5), some (.int x6), some (.int s7), some (.int (k_foundMore (M.1 71) r40 (ix (r37 23)))), some (.int (s9 + (nI 0))), some (.int (s10 + nI 1)), none]) (by simp [subL]) ?_
                simp only [k_span_77, if_neg c27, g35, if_neg c48, if_pos c56, if_neg c57, if_neg c63] at hX
                exact ih s7 (k_foundMore (M.1 71) r40 (ix (r37 23))) (s9 + (nI 0)) (s10 + nI 1) r37 r38 r39 r40 hk hX
              · skip
                rw [if_pos c63] at hk
                refine G.sl [(.iconst 1, 1, 0, 0, 0, nI 1), (.goto 4, 3, 158, 0, 0, 0), (.iadd, 1, 0, 0, 0, 0), (.istore 9, 2, 9, 0, 0, 0), (.iinc 10 1, 3, 10, 0, 0, nI 1), (.goto (-87), 3, 77, 0, 0, 0)] [] (pc2 := 77) (ls2 := [some (.ref 54), some (.int x1), some (.int x2), some (.int x3), some (.int x4), some (.int x5), some (.int x6), some (.int s7), some (.int (k_foundMore (M.1 71) r40 (ix (r37 23)))), some (.int (s9 + (nI 1))), some (.int (s10 + nI 1)), some (.int (k_foundMore (M.1 71) r40 (ix (r37 23))))]) (st2 := []) (M2 := mrow (mrow (mrow (mrow M 54 r37) 67 r38) 68 r39) 72 r40) (Ps := []) (by decide +kernel) rfl rfl trivial ?_
                refine G.loc (ls2 := [some (.ref 54), some (.int x1), some (.int x2), some (.int x3), some (.int x4), some (.int x5), some (.int x6), some (.int s7), some (.int (k_foundMore (M.1 71) r40 (ix (r37 23)))), some (.int (s9 + (nI 1))), some (.int (s10 + nI 1)), none]) (by simp [subL]) ?_
                simp only [k_span_77, if_neg c27, g35, if_neg c48, if_pos c56, if_neg c57, if_pos c63] at hX
                exact ih s7 (k_foundMore (M.1 71) r40 (ix (r37 23))) (s9 + (nI 1)) (s10 + nI 1) r37 r38 r39 r40 hk hX
          · skip
            rw [if_neg c56] at hk
            refine G.sl [(.iload 11, 2, 11, 0, 0, 0), (.goto 5, 3, 120, 0, 0, 0), (.istore 7, 2, 7, 0, 0, 0), (.iload 11, 2, 11, 0, 0, 0), (.iload 8, 2, 8, 0, 0, 0)] [] (pc2 := 126) (ls2 := [some (.ref 54), some (.int x1), some (.int x2), some (.int x3), some (.int x4), some (.int x5), some (.int x6), some (.int (k_foundMore (M.1 71) r40 (ix (r37 23)))), some (.int s8), some (.int s9), some (.int s10), some (.int (k_foundMore (M.1 71) r40 (ix (r37 23))))]) (st2 := [.int s8, .int (k_foundMore (M.1 71) r40 (ix (r37 23)))]) (M2 := mrow (mrow (mrow (mrow M 54 r37) 67 r38) 68 r39) 72 r40) (Ps := []) (by decide +kernel) rfl rfl trivial ?_
            refine G.ic_le (off := (8)) (tgt := 134) (by decide +kernel) rfl (fun c64 => ?_) (fun c64 => ?_)
            · skip
              rw [if_pos c64] at hk
              obtain ⟨k65, k66, hk⟩ := hk
              refine G.sl [(.iload 8, 2, 8, 0, 0, 0), (.istore 8, 2, 8, 0, 0, 0), (.iload 9, 2, 9, 0, 0, 0), (.aload_n 0, 1, 0, 0, 0, 0), (.getfield 68, 3, 11, 41, 164, 0), (.bipush 26, 2, 0, 0, 0, nI 26), (.iload 6, 2, 6, 0, 0, 0), (.iadd, 1, 0, 0, 0, 0), (.iaload, 1, 0, 0, 0, 0)] [26 + (ix x6)] (pc2 := 150) (ls2 := [some (.ref 54), some (.int x1), some (.int x2), some (.int x3), some (.int x4), some (.int x5), some (.int x6), some (.int (k_foundMore (M.1 71) r40 (ix (r37 23)))), some (.int s8), some (.int s9), some (.int s10), some (.int (k_foundMore (M.1 71) r40 (ix (r37 23))))]) (st2 := [.int (r40 (26 + (ix x6))), .int s9]) (M2 := mrow (mrow (mrow (mrow M 54 r37) 67 r38) 68 r39) 72 r40) (Ps := [((nI 26) + x6) = nI (26 + (ix x6)) ∧ (26 + (ix x6)) < 51]) (by decide +kernel) rfl rfl ⟨⟨(nAdd rfl (ixE k65)), k66⟩, trivial⟩ ?_
              refine G.if_ne (off := (7)) (tgt := 157) (by decide +kernel) rfl (fun c67 => ?_) (fun c67 => ?_)
              · skip
                rw [if_neg c67] at hk
                refine G.sl [(.iconst 0, 1, 0, 0, 0, nI 0), (.iadd, 1, 0, 0, 0, 0), (.istore 9, 2, 9, 0, 0, 0), (.iinc 10 1, 3, 10, 0, 0, nI 1), (.goto (-87), 3, 77, 0, 0, 0)] [] (pc2 := 77) (ls2 := [some (.ref 54), some (.int x1), some (.int x2), some (.int x3), some (.int x4), some (.int x5), some (.int x6), some (.int (k_foundMore (M.1 71) r40 (ix (r37 23)))), some (.int s8), some (.int (s9 + (nI 0))), some (.int (s10 + nI 1)), some (.int (k_foundMore (M.1 71) r40 (ix (r37 23))))]) (st2 := []) (M2 := mrow (mrow (mrow (mrow M 54 r37) 67 r38) 68 r39) 72 r40) (Ps := []) (by decide +kernel) rfl rfl trivial ?_
                refine G.loc (ls2 := [some (.ref 54), some (.int x1), some (.int x2), some (.int x3), some (.int x4), some (.int x5), some (.int x6), some (.int (k_foundMore (M.1 71) r40 (ix (r37 23)))), some (.int s8), some (.int (s9 + (nI 0))), some (.int (s10 + nI 1)), none]) (by simp [subL]) ?_
                simp only [k_span_77, if_neg c27, g35, if_neg c48, if_neg c56, if_pos c64, if_neg c67] at hX
                exact ih (k_foundMore (M.1 71) r40 (ix (r37 23))) s8 (s9 + (nI 0)) (s10 + nI 1) r37 r38 r39 r40 hk hX
              · skip
                rw [if_pos c67] at hk
                refine G.sl [(.iconst 1, 1, 0, 0, 0, nI 1), (.goto 4, 3, 158, 0, 0, 0), (.iadd, 1, 0, 0, 0, 0), (.istore 9, 2, 9, 0, 0, 0), (.iinc 10 1, 3, 10, 0, 0, nI 1), (.goto (-87), 3, 77, 0, 0, 0)] [] (pc2 := 77) (ls2 := [some (.ref 54), some (.int x1), some (.int x2), some (.int x3), some (.int x4), some (.int x5), some (.int x6), some (.int (k_foundMore (M.1 71) r40 (ix (r37 23)))), some (.int s8), some (.int (s9 + (nI 1))), some (.int (s10 + nI 1)), some (.int (k_foundMore (M.1 71) r40 (ix (r37 23))))]) (st2 := []) (M2 := mrow (mrow (mrow (mrow M 54 r37) 67 r38) 68 r39) 72 r40) (Ps := []) (by decide +kernel) rfl rfl trivial ?_
                refine G.loc (ls2 := [some (.ref 54), some (.int x1), some (.int x2), some (.int x3), some (.int x4), some (.int x5), some (.int x6), some (.int (k_foundMore (M.1 71) r40 (ix (r37 23)))), some (.int s8), some (.int (s9 + (nI 1))), some (.int (s10 + nI 1)), none]) (by simp [subL]) ?_
                simp only [k_span_77, if_neg c27, g35, if_neg c48, if_neg c56, if_pos c64, if_pos c67] at hX
                exact ih (k_foundMore (M.1 71) r40 (ix (r37 23))) s8 (s9 + (nI 1)) (s10 + nI 1) r37 r38 r39 r40 hk hX
            · skip
              rw [if_neg c64] at hk
              obtain ⟨k68, k69, hk⟩ := hk
              refine G.sl [(.iload 11, 2, 11, 0, 0, 0), (.goto 5, 3, 136, 0, 0, 0), (.istore 8, 2, 8, 0, 0, 0), (.iload 9, 2, 9, 0, 0, 0), (.aload_n 0, 1, 0, 0, 0, 0), (.getfield 68, 3, 11, 41, 164, 0), (.bipush 26, 2, 0, 0, 0, nI 26), (.iload 6, 2, 6, 0, 0, 0), (.iadd, 1, 0, 0, 0, 0), (.iaload, 1, 0, 0, 0, 0)] [26 + (ix x6)] (pc2 := 150) (ls2 := [some (.ref 54), some (.int x1), some (.int x2), some (.int x3), some (.int x4), some (.int x5), some (.int x6), some (.int (k_foundMore (M.1 71) r40 (ix (r37 23)))), some (.int (k_foundMore (M.1 71) r40 (ix (r37 23)))), some (.int s9), some (.int s10), some (.int (k_foundMore (M.1 71) r40 (ix (r37 23))))]) (st2 := [.int (r40 (26 + (ix x6))), .int s9]) (M2 := mrow (mrow (mrow (mrow M 54 r37) 67 r38) 68 r39) 72 r40) (Ps := [((nI 26) + x6) = nI (26 + (ix x6)) ∧ (26 + (ix x6)) < 51]) (by decide +kernel) rfl rfl ⟨⟨(nAdd rfl (ixE k68)), k69⟩, trivial⟩ ?_
              refine G.if_ne (off := (7)) (tgt := 157) (by decide +kernel) rfl (fun c70 => ?_) (fun c70 => ?_)
              · skip
                rw [if_neg c70] at hk
                refine G.sl [(.iconst 0, 1, 0, 0, 0, nI 0), (.iadd, 1, 0, 0, 0, 0), (.istore 9, 2, 9, 0, 0, 0), (.iinc 10 1, 3, 10, 0, 0, nI 1), (.goto (-87), 3, 77, 0, 0, 0)] [] (pc2 := 77) (ls2 := [some (.ref 54), some (.int x1), some (.int x2), some (.int x3), some (.int x4), some (.int x5), some (.int x6), some (.int (k_foundMore (M.1 71) r40 (ix (r37 23)))), some (.int (k_foundMore (M.1 71) r40 (ix (r37 23)))), some (.int (s9 + (nI 0))), some (.int (s10 + nI 1)), some (.int (k_foundMore (M.1 71) r40 (ix (r37 23))))]) (st2 := []) (M2 := mrow (mrow (mrow (mrow M 54 r37) 67 r38) 68 r39) 72 r40) (Ps := []) (by decide +kernel) rfl rfl trivial ?_
                refine G.loc (ls2 := [some (.ref 54), some (.int x1), some (.int x2), some (.int x3), some (.int x4), some (.int x5), some (.int x6), some (.int (k_foundMore (M.1 71) r40 (ix (r37 23)))), some (.int (k_foundMore (M.1 71) r40 (ix (r37 23)))), some (.int (s9 + (nI 0))), some (.int (s10 + nI 1)), none]) (by simp [subL]) ?_
                simp only [k_span_77, if_neg c27, g35, if_neg c48, if_neg c56, if_neg c64, if_neg c70] at hX
                exact ih (k_foundMore (M.1 71) r40 (ix (r37 23))) (k_foundMore (M.1 71) r40 (ix (r37 23))) (s9 + (nI 0)) (s10 + nI 1) r37 r38 r39 r40 hk hX
              · skip
                rw [if_pos c70] at hk
                refine G.sl [(.iconst 1, 1, 0, 0, 0, nI 1), (.goto 4, 3, 158, 0, 0, 0), (.iadd, 1, 0, 0, 0, 0), (.istore 9, 2, 9, 0, 0, 0), (.iinc 10 1, 3, 10, 0, 0, nI 1), (.goto (-87), 3, 77, 0, 0, 0)] [] (pc2 := 77) (ls2 := [some (.ref 54), some (.int x1), some (.int x2), some (.int x3), some (.int x4), some (.int x5), some (.int x6), some (.int (k_foundMore (M.1 71) r40 (ix (r37 23)))), some (.int (k_foundMore (M.1 71) r40 (ix (r37 23)))), some (.int (s9 + (nI 1))), some (.int (s10 + nI 1)), some (.int (k_foundMore (M.1 71) r40 (ix (r37 23))))]) (st2 := []) (M2 := mrow (mrow (mrow (mrow M 54 r37) 67 r38) 68 r39) 72 r40) (Ps := []) (by decide +kernel) rfl rfl trivial ?_
                refine G.loc (ls2 := [some (.ref 54), some (.int x1), some (.int x2), some (.int x3), some (.int x4), some (.int x5), some (.int x6), some (.int (k_foundMore (M.1 71) r40 (ix (r37 23)))), some (.int (k_foundMore (M.1 71) r40 (ix (r37 23)))), some (.int (s9 + (nI 1))), some (.int (s10 + nI 1)), none]) (by simp [subL]) ?_
                simp only [k_span_77, if_neg c27, g35, if_neg c48, if_neg c56, if_neg c64, if_pos c70] at hX
                exact ih (k_foundMore (M.1 71) r40 (ix (r37 23))) (k_foundMore (M.1 71) r40 (ix (r37 23))) (s9 + (nI 1)) (s10 + nI 1) r37 r38 r39 r40 hk hX
set_option maxHeartbeats 4000000 in
set_option maxRecDepth 3000 in
theorem c_k_span_54 (z : Zp) (d : Nat) (M : Mem) (x1 : Int32) (x2 : Int32) (x3 : Int32) (x4 : Int32) (x5 : Int32) (x6 : Int32) (nf : Nat) (hnf : nf ≤ 6) (cf : M.1 54 23 = nI nf) (hk : k_span_ok (M.1 54) (M.1 55) (M.1 60) (M.1 61) (M.1 65) (M.1 66) (M.1 67) (M.1 68) (M.1 71) (M.1 72) nf x1 x2 x3 x4 x5 x6) : GM z mX12_span (d + 7) [.ref 54, .int x1, .int x2, .int x3, .int x4, .int x5, .int x6] M (fun rs => rs = .inl (some (.int ((k_span (M.1 54) (M.1 55) (M.1 60) (M.1 61) (M.1 65) (M.1 66) (M.1 67) (M.1 68) (M.1 71) (M.1 72) nf x1 x2 x3 x4 x5 x6).1)), mrow (mrow (mrow (mrow (mrow M 54 ((k_span (M.1 54) (M.1 55) (M.1 60) (M.1 61) (M.1 65) (M.1 66) (M.1 67) (M.1 68) (M.1 71) (M.1 72) nf x1 x2 x3 x4 x5 x6).2.1)) 55 ((k_span (M.1 54) (M.1 55) (M.1 60) (M.1 61) (M.1 65) (M.1 66) (M.1 67) (M.1 68) (M.1 71) (M.1 72) nf x1 x2 x3 x4 x5 x6).2.2.1)) 67 ((k_span (M.1 54) (M.1 55) (M.1 60) (M.1 61) (M.1 65) (M.1 66) (M.1 67) (M.1 68) (M.1 71) (M.1 72) nf x1 x2 x3 x4 x5 x6).2.2.2.1)) 68 ((k_span (M.1 54) (M.1 55) (M.1 60) (M.1 61) (M.1 65) (M.1 66) (M.1 67) (M.1 68) (M.1 71) (M.1 72) nf x1 x2 x3 x4 x5 x6).2.2.2.2.1)) 72 ((k_span (M.1 54) (M.1 55) (M.1 60) (M.1 61) (M.1 65) (M.1 66) (M.1 67) (M.1 68) (M.1 71) (M.1 72) nf x1 x2 x3 x4 x5 x6).2.2.2.2.2))) := by
  simp only [k_span_ok] at hk
  refine GM.of oX12_span.1 (Nat.le_of_ble_eq_true rfl) ?_
  show G z mX12_span (d + 7) 0 0 0 [some (.ref 54), some (.int x1), some (.int x2), some (.int x3), some (.int x4), some (.int x5), some (.int x6), none, none, none, none, none] [] M _
  obtain ⟨Q, hQ⟩ : ∃ Q : Rs → Prop, Q = (fun rs => rs = .inl (some (.int ((k_span (M.1 54) (M.1 55) (M.1 60) (M.1 61) (M.1 65) (M.1 66) (M.1 67) (M.1 68) (M.1 71) (M.1 72) nf x1 x2 x3 x4 x5 x6).1)), mrow (mrow (mrow (mrow (mrow M 54 ((k_span (M.1 54) (M.1 55) (M.1 60) (M.1 61) (M.1 65) (M.1 66) (M.1 67) (M.1 68) (M.1 71) (M.1 72) nf x1 x2 x3 x4 x5 x6).2.1)) 55 ((k_span (M.1 54) (M.1 55) (M.1 60) (M.1 61) (M.1 65) (M.1 66) (M.1 67) (M.1 68) (M.1 71) (M.1 72) nf x1 x2 x3 x4 x5 x6).2.2.1)) 67 ((k_span (M.1 54) (M.1 55) (M.1 60) (M.1 61) (M.1 65) (M.1 66) (M.1 67) (M.1 68) (M.1 71) (M.1 72) nf x1 x2 x3 x4 x5 x6).2.2.2.1)) 68 ((k_span (M.1 54) (M.1 55) (M.1 60) (M.1 61) (M.1 65) (M.1 66) (M.1 67) (M.1 68) (M.1 71) (M.1 72) nf x1 x2 x3 x4 x5 x6).2.2.2.2.1)) 72 ((k_span (M.1 54) (M.1 55) (M.1 60) (M.1 61) (M.1 65) (M.1 66) (M.1 67) (M.1 68) (M.1 71) (M.1 72) nf x1 x2 x3 x4 x5 x6).2.2.2.2.2))) := ⟨_, rfl⟩
  rw [← hQ]
  refine G.sl [(.aload_n 0, 1, 0, 0, 0, 0), (.iconst 0, 1, 0, 0, 0, nI 0), (.putfield 3, 3, 11, 0, 123, 0), (.aload_n 0, 1, 0, 0, 0, 0), (.iload_n 2, 1, 2, 0, 0, 0), (.iconst 1, 1, 0, 0, 0, nI 1), (.bipush 20, 2, 0, 0, 0, nI 20)] [] (pc2 := 10) (ls2 := [some (.ref 54), some (.int x1), some (.int x2), some (.int x3), some (.int x4), some (.int x5), some (.int x6), none, none, none, none, none]) (st2 := [.int (nI 20), .int (nI 1), .int x2, .ref 54]) (M2 := mput M 54 0 (nI 0)) (Ps := []) (by decide +kernel) rfl rfl trivial ?_
  refine G.mem (M' := mrow M 54 (upd (M.1 54) 0 (nI 0))) (by first | rfl | (simp only [mput, mrow_same, mrow_hit, mrow_miss, mrow_sw, idr_eq, ne_eq, Nat.reduceEqDiff, not_false_eq_true, Nat.reduceLT, reduceCtorEq]; done)) ?_
  obtain ⟨k1, hk⟩ := hk
  have t2 : GM z mX12_within (d + 6) [.int x2, .int (nI 1), .int (nI 20)] (mrow M 54 (upd (M.1 54) 0 (nI 0))) (fun rs => rs = .inl (some (.int (k_within x2 (nI 1) (nI 20))), mrow M 54 (upd (M.1 54) 0 (nI 0)))) := by
    have q9 := c_k_within z (d + 6) (mrow M 54 (upd (M.1 54) 0 (nI 0))) x2 (nI 1) (nI 20)
    try simp only [mput, mrow_same, mrow_hit, mrow_miss, mrow_sw, idr_eq, ne_eq, Nat.reduceEqDiff, not_false_eq_true, Nat.reduceLT, reduceCtorEq] at q9
    exact q9
  refine G.callS (as := [.int x2, .int (nI 1), .int (nI 20)]) (rest := [.ref 54]) oX12_within lk_EvenFindersModel_379 (by decide +kernel) rfl (Nat.le_of_ble_eq_true rfl) rfl ⟨Nat.le_of_ble_eq_true rfl, Nat.le_of_ble_eq_true rfl⟩ t2 (fun v9 N9 h3 => ?_) (fun E9 N9 h3 => by cases h3)
  cases h3
  show G z mX12_span (d + 7) 0 0 13 [some (.ref 54), some (.int x1), some (.int x2), some (.int x3), some (.int x4), some (.int x5), some (.int x6), none, none, none, none, none] [.int (k_within x2 (nI 1) (nI 20)), .ref 54] (mrow M 54 (upd (M.1 54) 0 (nI 0))) Q
  refine G.if_eq (off := (41)) (tgt := 54) (by decide +kernel) rfl (fun c4 => ?_) (fun c4 => ?_)
  · skip
    rw [if_pos c4] at hk
    refine G.sl [(.iconst 0, 1, 0, 0, 0, nI 0), (.iconst 1, 1, 0, 0, 0, nI 1), (.iconst 1, 1, 0, 0, 0, nI 1)] [] (pc2 := 57) (ls2 := [some (.ref 54), some (.int x1), some (.int x2), some (.int x3), some (.int x4), some (.int x5), some (.int x6), none, none, none, none, none]) (st2 := [.int (nI 1), .int (nI 1), .int (nI 0), .ref 54]) (M2 := mrow M 54 (upd (M.1 54) 0 (nI 0))) (Ps := []) (by decide +kernel) rfl rfl trivial ?_
    have t5 : GM z mX12_may (d + 6) [.ref 54, .int (nI 0), .int (nI 1), .int (nI 1)] (mrow M 54 (upd (M.1 54) 0 (nI 0))) (fun rs => rs = .inl (some (.int (nI 0)), mrow (mrow M 54 (upd (upd (M.1 54) 0 (nI 0)) 0 (nI 1))) 55 (upd (M.1 55) 1 ((M.1 55 1) + nI 1)))) := by
      have q9 := m_may_1_f z (d + 6) (mrow M 54 (upd (M.1 54) 0 (nI 0))) (nI 1) (by first | rfl | (simp only [mput, mrow_same, mrow_hit, mrow_miss, mrow_sw, idr_eq, ne_eq, Nat.reduceEqDiff, not_false_eq_true, Nat.reduceLT, reduceCtorEq, pk_us]; done)) (by decide)
      try simp only [mput, mrow_same, mrow_hit, mrow_miss, mrow_sw, idr_eq, ne_eq, Nat.reduceEqDiff, not_false_eq_true, Nat.reduceLT, reduceCtorEq] at q9
      exact q9
    refine G.callV (as := [.int (nI 0), .int (nI 1), .int (nI 1)]) (rest := []) (a := 54) oX12_may lk_EvenFindersModel_213 (by decide +kernel) rfl rfl ⟨rfl, rfl⟩ (Nat.le_of_ble_eq_true rfl) rfl ⟨Nat.le_of_ble_eq_true rfl, Nat.le_of_ble_eq_true rfl⟩ t5 (fun v9 N9 h6 => ?_) (fun E9 N9 h6 => by cases h6)
    cases h6
    show G z mX12_span (d + 7) 0 0 60 [some (.ref 54), some (.int x1), some (.int x2), some (.int x3), some (.int x4), some (.int x5), some (.int x6), none, none, none, none, none] [.int (nI 0)] (mrow (mrow M 54 (upd (upd (M.1 54) 0 (nI 0)) 0 (nI 1))) 55 (upd (M.1 55) 1 ((M.1 55 1) + nI 1))) Q
    refine G.if_ne (off := (5)) (tgt := 65) (by decide +kernel) rfl (fun h9 => absurd (by decide) h9) (fun _ => ?_)
    refine G.sl [(.iconst 0, 1, 0, 0, 0, nI 0)] [] (pc2 := 64) (ls2 := [some (.ref 54), some (.int x1), some (.int x2), some (.int x3), some (.int x4), some (.int x5), some (.int x6), none, none, none, none, none]) (st2 := [.int (nI 0)]) (M2 := mrow (mrow M 54 (upd (upd (M.1 54) 0 (nI 0)) 0 (nI 1))) 55 (upd (M.1 55) 1 ((M.1 55 1) + nI 1))) (Ps := []) (by decide +kernel) rfl rfl trivial ?_
    refine G.mem (M' := mrow (mrow (mrow (mrow (mrow M 54 (upd (upd (M.1 54) 0 (nI 0)) 0 (nI 1))) 55 (upd (M.1 55) 1 ((M.1 55 1) + nI 1))) 67 (M.1 67)) 68 (M.1 68)) 72 (M.1 72)) (((((mrow_id (N := mrow (mrow M 54 (upd (upd (M.1 54) 0 (nI 0)) 0 (nI 1))) 55 (upd (M.1 55) 1 ((M.1 55 1) + nI 1))) (c := 67) (f := M.1 67) (by first | rfl | (simp only [mput, mrow_same, mrow_hit, mrow_miss, mrow_sw, idr_eq, ne_eq, Nat.reduceEqDiff, not_false_eq_true, Nat.reduceLT, reduceCtorEq]; done))).symm).trans (mrow_id (N := mrow (mrow (mrow M 54 (upd (upd (M.1 54) 0 (nI 0)) 0 (nI 1))) 55 (upd (M.1 55) 1 ((M.1 55 1) + nI 1))) 67 (M.1 67)) (c := 68) (f := M.1 68) (by first | rfl | (simp only [mput, mrow_same, mrow_hit, mrow_miss, mrow_sw, idr_eq, ne_eq, Nat.reduceEqDiff, not_false_eq_true, Nat.reduceLT, reduceCtorEq]; done))).symm).trans (mrow_id (N := mrow (mrow (mrow (mrow M 54 (upd (upd (M.1 54) 0 (nI 0)) 0 (nI 1))) 55 (upd (M.1 55) 1 ((M.1 55 1) + nI 1))) 67 (M.1 67)) 68 (M.1 68)) (c := 72) (f := M.1 72) (by first | rfl | (simp only [mput, mrow_same, mrow_hit, mrow_miss, mrow_sw, idr_eq, ne_eq, Nat.reduceEqDiff, not_false_eq_true, Nat.reduceLT, reduceCtorEq]; done))).symm).trans (by first | rfl | (simp only [mput, mrow_same, mrow_hit, mrow_miss, mrow_sw, idr_eq, ne_eq, Nat.reduceEqDiff, not_false_eq_true, Nat.reduceLT, reduceCtorEq]; done))) ?_
    exact G.reti (by decide +kernel) rfl rfl (Nat.le_of_ble_eq_true rfl) (Nat.le_of_ble_eq_true rfl) ((by rw [hQ]; simp only [k_span, if_pos c4, mrow_self]))
  · skip
    rw [if_neg c4] at hk
    refine G.sl [(.iload_n 3, 1, 3, 0, 0, 0), (.iload 4, 2, 4, 0, 0, 0)] [] (pc2 := 19) (ls2 := [some (.ref 54), some (.int x1), some (.int x2), some (.int x3), some (.int x4), some (.int x5), some (.int x6), none, none, none, none, none]) (st2 := [.int x4, .int x3, .ref 54]) (M2 := mrow M 54 (upd (M.1 54) 0 (nI 0))) (Ps := []) (by decide +kernel) rfl rfl trivial ?_
    obtain ⟨k7, hk⟩ := hk
    have t8 : GM z mX12_isYear (d + 6) [.int x3, .int x4] (mrow M 54 (upd (M.1 54) 0 (nI 0))) (fun rs => rs = .inl (some (.int (k_isYear x3 x4)), mrow M 54 (upd (M.1 54) 0 (nI 0)))) := by
      have q9 := c_k_isYear z (d + 6) (mrow M 54 (upd (M.1 54) 0 (nI 0))) x3 x4
      try simp only [mput, mrow_same, mrow_hit, mrow_miss, mrow_sw, idr_eq, ne_eq, Nat.reduceEqDiff, not_false_eq_true, Nat.reduceLT, reduceCtorEq] at q9
      exact q9
    refine G.callS (as := [.int x3, .int x4]) (rest := [.ref 54]) oX12_isYear lk_EvenFindersModel_439 (by decide +kernel) rfl (Nat.le_of_ble_eq_true rfl) rfl ⟨Nat.le_of_ble_eq_true rfl, Nat.le_of_ble_eq_true rfl⟩ t8 (fun v9 N9 h9 => ?_) (fun E9 N9 h9 => by cases h9)
    cases h9
    show G z mX12_span (d + 7) 0 0 22 [some (.ref 54), some (.int x1), some (.int x2), some (.int x3), some (.int x4), some (.int x5), some (.int x6), none, none, none, none, none] [.int (k_isYear x3 x4), .ref 54] (mrow M 54 (upd (M.1 54) 0 (nI 0))) Q
    refine G.if_eq (off := (32)) (tgt := 54) (by decide +kernel) rfl (fun c10 => ?_) (fun c10 => ?_)
    · skip
      rw [if_pos c10] at hk
      refine G.sl [(.iconst 0, 1, 0, 0, 0, nI 0), (.iconst 1, 1, 0, 0, 0, nI 1), (.iconst 1, 1, 0, 0, 0, nI 1)] [] (pc2 := 57) (ls2 := [some (.ref 54), some (.int x1), some (.int x2), some (.int x3), some (.int x4), some (.int x5), some (.int x6), none, none, none, none, none]) (st2 := [.int (nI 1), .int (nI 1), .int (nI 0), .ref 54]) (M2 := mrow M 54 (upd (M.1 54) 0 (nI 0))) (Ps := []) (by decide +kernel) rfl rfl trivial ?_
      have t11 : GM z mX12_may (d + 6) [.ref 54, .int (nI 0), .int (nI 1), .int (nI 1)] (mrow M 54 (upd (M.1 54) 0 (nI 0))) (fun rs => rs = .inl (some (.int (nI 0)), mrow (mrow M 54 (upd (upd (M.1 54) 0 (nI 0)) 0 (nI 1))) 55 (upd (M.1 55) 1 ((M.1 55 1) + nI 1)))) := by
        have q9 := m_may_1_f z (d + 6) (mrow M 54 (upd (M.1 54) 0 (nI 0))) (nI 1) (by first | rfl | (simp only [mput, mrow_same, mrow_hit, mrow_miss, mrow_sw, idr_eq, ne_eq, Nat.reduceEqDiff, not_false_eq_true, Nat.reduceLT, reduceCtorEq, pk_us]; done)) (by decide)
        try simp only [mput, mrow_same, mrow_hit, mrow_miss, mrow_sw, idr_eq, ne_eq, Nat.reduceEqDiff, not_false_eq_true, Nat.reduceLT, reduceCtorEq] at q9
        exact q9
      refine G.callV (as := [.int (nI 0), .int (nI 1), .int (nI 1)]) (rest := []) (a := 54) oX12_may lk_EvenFindersModel_213 (by decide +kernel) rfl rfl ⟨rfl, rfl⟩ (Nat.le_of_ble_eq_true rfl) rfl ⟨Nat.le_of_ble_eq_true rfl, Nat.le_of_ble_eq_true rfl⟩ t11 (fun v9 N9 h12 => ?_) (fun E9 N9 h12 => by cases h12)
      cases h12
      show G z mX12_span (d + 7) 0 0 60 [some (.ref 54), some (.int x1), some (.int x2), some (.int x3), some (.int x4), some (.int x5), some (.int x6), none, none, none, none, none] [.int (nI 0)] (mrow (mrow M 54 (upd (upd (M.1 54) 0 (nI 0)) 0 (nI 1))) 55 (upd (M.1 55) 1 ((M.1 55 1) + nI 1))) Q
      refine G.if_ne (off := (5)) (tgt := 65) (by decide +kernel) rfl (fun h9 => absurd (by decide) h9) (fun _ => ?_)
      refine G.sl [(.iconst 0, 1, 0, 0, 0, nI 0)] [] (pc2 := 64) (ls2 := [some (.ref 54), some (.int x1), some (.int x2), some (.int x3), some (.int x4), some (.int x5), some (.int x6), none, none, none, none, none]) (st2 := [.int (nI 0)]) (M2 := mrow (mrow M 54 (upd (upd (M.1 54) 0 (nI 0)) 0 (nI 1))) 55 (upd (M.1 55) 1 ((M.1 55 1) + nI 1))) (Ps := []) (by decide +kernel) rfl rfl trivial ?_
      refine G.mem (M' := mrow (mrow (mrow (mrow (mrow M 54 (upd (upd (M.1 54) 0 (nI 0)) 0 (nI 1))) 55 (upd (M.1 55) 1 ((M.1 55 1) + nI 1))) 67 (M.1 67)) 68 (M.1 68)) 72 (M.1 72)) (((((mrow_id (N := mrow (mrow M 54 (upd (upd (M.1 54) 0 (nI 0)) 0 (nI 1))) 55 (upd (M.1 55) 1 ((M.1 55 1) + nI 1))) (c := 67) (f := M.1 67) (by first | rfl | (simp only [mput, mrow_same, mrow_hit, mrow_miss, mrow_sw, idr_eq, ne_eq, Nat.reduceEqDiff, not_false_eq_true, Nat.reduceLT, reduceCtorEq]; done))).symm).trans (mrow_id (N := mrow (mrow (mrow M 54 (upd (upd (M.1 54) 0 (nI 0)) 0 (nI 1))) 55 (upd (M.1 55) 1 ((M.1 55 1) + nI 1))) 67 (M.1 67)) (c := 68) (f := M.1 68) (by first | rfl | (simp only [mput, mrow_same, mrow_hit, mrow_miss, mrow_sw, idr_eq, ne_eq, Nat.reduceEqDiff, not_false_eq_true, Nat.reduceLT, reduceCtorEq]; done))).symm).trans (mrow_id (N := mrow (mrow (mrow (mrow M 54 (upd (upd (M.1 54) 0 (nI 0)) 0 (nI 1))) 55 (upd (M.1 55) 1 ((M.1 55 1) + nI 1))) 67 (M.1 67)) 68 (M.1 68)) (c := 72) (f := M.1 72) (by first | rfl | (simp only [mput, mrow_same, mrow_hit, mrow_miss, mrow_sw, idr_eq, ne_eq, Nat.reduceEqDiff, not_false_eq_true, Nat.reduceLT, reduceCtorEq]; done))).symm).trans (by first | rfl | (simp only [mput, mrow_same, mrow_hit, mrow_miss, mrow_sw, idr_eq, ne_eq, Nat.reduceEqDiff, not_false_eq_true, Nat.reduceLT, reduceCtorEq]; done))) ?_
      exact G.reti (by decide +kernel) rfl rfl (Nat.le_of_ble_eq_true rfl) (Nat.le_of_ble_eq_true rfl) ((by rw [hQ]; simp only [k_span, if_neg c4, if_pos c10, mrow_self]))
    · skip
      rw [if_neg c10] at hk
      refine G.sl [(.iload 5, 2, 5, 0, 0, 0), (.iconst 0, 1, 0, 0, 0, nI 0), (.iconst 2, 1, 0, 0, 0, nI 2)] [] (pc2 := 29) (ls2 := [some (.ref 54), some (.int x1), some (.int x2), some (.int x3), some (.int x4), some (.int x5), some (.int x6), none, none, none, none, none]) (st2 := [.int (nI 2), .int (nI 0), .int x5, .ref 54]) (M2 := mrow M 54 (upd (M.1 54) 0 (nI 0))) (Ps := []) (by decide +kernel) rfl rfl trivial ?_
      obtain ⟨k13, hk⟩ := hk
      have t14 : GM z mX12_within (d + 6) [.int x5, .int (nI 0), .int (nI 2)] (mrow M 54 (upd (M.1 54) 0 (nI 0))) (fun rs => rs = .inl (some (.int (k_within x5 (nI 0) (nI 2))), mrow M 54 (upd (M.1 54) 0 (nI 0)))) := by
        have q9 := c_k_within z (d + 6) (mrow M 54 (upd (M.1 54) 0 (nI 0))) x5 (nI 0) (nI 2)
        try simp only [mput, mrow_same, mrow_hit, mrow_miss, mrow_sw, idr_eq, ne_eq, Nat.reduceEqDiff, not_false_eq_true, Nat.reduceLT, reduceCtorEq] at q9
        exact q9
      refine G.callS (as := [.int x5, .int (nI 0), .int (nI 2)]) (rest := [.ref 54]) oX12_within lk_EvenFindersModel_379 (by decide +kernel) rfl (Nat.le_of_ble_eq_true rfl) rfl ⟨Nat.le_of_ble_eq_true rfl, Nat.le_of_ble_eq_true rfl⟩ t14 (fun v9 N9 h15 => ?_) (fun E9 N9 h15 => by cases h15)
      cases h15
      show G z mX12_span (d + 7) 0 0 32 [some (.ref 54), some (.int x1), some (.int x2), some (.int x3), some (.int x4), some (.int x5), some (.int x6), none, none, none, none, none] [.int (k_within x5 (nI 0) (nI 2)), .ref 54] (mrow M 54 (upd (M.1 54) 0 (nI 0))) Q
      refine G.if_eq (off := (22)) (tgt := 54) (by decide +kernel) rfl (fun c16 => ?_) (fun c16 => ?_)
      · skip
        rw [if_pos c16] at hk
        refine G.sl [(.iconst 0, 1, 0, 0, 0, nI 0), (.iconst 1, 1, 0, 0, 0, nI 1), (.iconst 1, 1, 0, 0, 0, nI 1)] [] (pc2 := 57) (ls2 := [some (.ref 54), some (.int x1), some (.int x2), some (.int x3), some (.int x4), some (.int x5), some (.int x6), none, none, none, none, none]) (st2 := [.int (nI 1), .int (nI 1), .int (nI 0), .ref 54]) (M2 := mrow M 54 (upd (M.1 54) 0 (nI 0))) (Ps := []) (by decide +kernel) rfl rfl trivial ?_
        have t17 : GM z mX12_may (d + 6) [.ref 54, .int (nI 0), .int (nI 1), .int (nI 1)] (mrow M 54 (upd (M.1 54) 0 (nI 0))) (fun rs => rs = .inl (some (.int (nI 0)), mrow (mrow M 54 (upd (upd (M.1 54) 0 (nI 0)) 0 (nI 1))) 55 (upd (M.1 55) 1 ((M.1 55 1) + nI 1)))) := by
          have q9 := m_may_1_f z (d + 6) (mrow M 54 (upd (M.1 54) 0 (nI 0))) (nI 1) (by first | rfl | (simp only [mput, mrow_same, mrow_hit, mrow_miss, mrow_sw, idr_eq, ne_eq, Nat.reduceEqDiff, not_false_eq_true, Nat.reduceLT, reduceCtorEq, pk_us]; done)) (by decide)
          try simp only [mput, mrow_same, mrow_hit, mrow_miss, mrow_sw, idr_eq, ne_eq, Nat.reduceEqDiff, not_false_eq_true, Nat.reduceLT, reduceCtorEq] at q9
          exact q9
        refine G.callV (as := [.int (nI 0), .int (nI 1), .int (nI 1)]) (rest := []) (a := 54) oX12_may lk_EvenFindersModel_213 (by decide +kernel) rfl rfl ⟨rfl, rfl⟩ (Nat.le_of_ble_eq_true rfl) rfl ⟨Nat.le_of_ble_eq_true rfl, Nat.le_of_ble_eq_true rfl⟩ t17 (fun v9 N9 h18 => ?_) (fun E9 N9 h18 => by cases h18)
        cases h18
        show G z mX12_span (d + 7) 0 0 60 [some (.ref 54), some (.int x1), some (.int x2), some (.int x3), some (.int x4), some (.int x5), some (.int x6), none, none, none, none, none] [.int (nI 0)] (mrow (mrow M 54 (upd (upd (M.1 54) 0 (nI 0)) 0 (nI 1))) 55 (upd (M.1 55) 1 ((M.1 55 1) + nI 1))) Q
        refine G.if_ne (off := (5)) (tgt := 65) (by decide +kernel) rfl (fun h9 => absurd (by decide) h9) (fun _ => ?_)
        refine G.sl [(.iconst 0, 1, 0, 0, 0, nI 0)] [] (pc2 := 64) (ls2 := [some (.ref 54), some (.int x1), some (.int x2), some (.int x3), some (.int x4), some (.int x5), some (.int x6), none, none, none, none, none]) (st2 := [.int (nI 0)]) (M2 := mrow (mrow M 54 (upd (upd (M.1 54) 0 (nI 0)) 0 (nI 1))) 55 (upd (M.1 55) 1 ((M.1 55 1) + nI 1))) (Ps := []) (by decide +kernel) rfl rfl trivial ?_
        refine G.mem (M' := mrow (mrow (mrow (mrow (mrow M 54 (upd (upd (M.1 54) 0 (nI 0)) 0 (nI 1))) 55 (upd (M.1 55) 1 ((M.1 55 1) + nI 1))) 67 (M.1 67)) 68 (M.1 68)) 72 (M.1 72)) (((((mrow_id (N := mrow (mrow M 54 (upd (upd (M.1 54) 0 (nI 0)) 0 (nI 1))) 55 (upd (M.1 55) 1 ((M.1 55 1) + nI 1))) (c := 67) (f := M.1 67) (by first | rfl | (simp only [mput, mrow_same, mrow_hit, mrow_miss, mrow_sw, idr_eq, ne_eq, Nat.reduceEqDiff, not_false_eq_true, Nat.reduceLT, reduceCtorEq]; done))).symm).trans (mrow_id (N := mrow (mrow (mrow M 54 (upd (upd (M.1 54) 0 (nI 0)) 0 (nI 1))) 55 (upd (M.1 55) 1 ((M.1 55 1) + nI 1))) 67 (M.1 67)) (c := 68) (f := M.1 68) (by first | rfl | (simp only [mput, mrow_same, mrow_hit, mrow_miss, mrow_sw, idr_eq, ne_eq, Nat.reduceEqDiff, not_false_eq_true, Nat.reduceLT, reduceCtorEq]; done))).symm).trans (mrow_id (N := mrow (mrow (mrow (mrow M 54 (upd (upd (M.1 54) 0 (nI 0)) 0 (nI 1))) 55 (upd (M.1 55) 1 ((M.1 55 1) + nI 1))) 67 (M.1 67)) 68 (M.1 68)) (c := 72) (f := M.1 72) (by first | rfl | (simp only [mput, mrow_same, mrow_hit, mrow_miss, mrow_sw, idr_eq, ne_eq, Nat.reduceEqDiff, not_false_eq_true, Nat.reduceLT, reduceCtorEq]; done))).symm).trans (by first | rfl | (simp only [mput, mrow_same, mrow_hit, mrow_miss, mrow_sw, idr_eq, ne_eq, Nat.reduceEqDiff, not_false_eq_true, Nat.reduceLT, reduceCtorEq]; done))) ?_
        exact G.reti (by decide +kernel) rfl rfl (Nat.le_of_ble_eq_true rfl) (Nat.le_of_ble_eq_true rfl) ((by rw [hQ]; simp only [k_span, if_neg c4, if_neg c10, if_pos c16, mrow_self]))
      · skip
        rw [if_neg c16] at hk
        refine G.sl [(.iload 6, 2, 6, 0, 0, 0), (.iconst 0, 1, 0, 0, 0, nI 0), (.aload_n 0, 1, 0, 0, 0, 0), (.getfield 165, 3, 11, 23, 146, 0), (.iconst 1, 1, 0, 0, 0, nI 1), (.isub, 1, 0, 0, 0, 0)] [] (pc2 := 44) (ls2 := [some (.ref 54), some (.int x1), some (.int x2), some (.int x3), some (.int x4), some (.int x5), some (.int x6), none, none, none, none, none]) (st2 := [.int ((M.1 54 23) - (nI 1)), .int (nI 0), .int x6, .ref 54]) (M2 := mrow M 54 (upd (M.1 54) 0 (nI 0))) (Ps := []) (by decide +kernel) rfl rfl trivial ?_
        rw [cf]
        obtain ⟨k19, hk⟩ := hk
        have t20 : GM z mX12_within (d + 6) [.int x6, .int (nI 0), .int ((nI nf) - (nI 1))] (mrow M 54 (upd (M.1 54) 0 (nI 0))) (fun rs => rs = .inl (some (.int (k_within x6 (nI 0) ((nI nf) - (nI 1)))), mrow M 54 (upd (M.1 54) 0 (nI 0)))) := by
          have q9 := c_k_within z (d + 6) (mrow M 54 (upd (M.1 54) 0 (nI 0))) x6 (nI 0) ((nI nf) - (nI 1))
          try simp only [mput, mrow_same, mrow_hit, mrow_miss, mrow_sw, idr_eq, ne_eq, Nat.reduceEqDiff, not_false_eq_true, Nat.reduceLT, reduceCtorEq] at q9
          exact q9
        refine G.callS (as := [.int x6, .int (nI 0), .int ((nI nf) - (nI 1))]) (rest := [.ref 54]) oX12_within lk_EvenFindersModel_379 (by decide +kernel) rfl (Nat.le_of_ble_eq_true rfl) rfl ⟨Nat.le_of_ble_eq_true rfl, Nat.le_of_ble_eq_true rfl⟩ t20 (fun v9 N9 h21 => ?_) (fun E9 N9 h21 => by cases h21)
        cases h21
        show G z mX12_span (d + 7) 0 0 47 [some (.ref 54), some (.int x1), some (.int x2), some (.int x3), some (.int x4), some (.int x5), some (.int x6), none, none, none, none, none] [.int (k_within x6 (nI 0) ((nI nf) - (nI 1))), .ref 54] (mrow M 54 (upd (M.1 54) 0 (nI 0))) Q
        refine G.if_eq (off := (7)) (tgt := 54) (by decide +kernel) rfl (fun c22 => ?_) (fun c22 => ?_)
        · skip
          rw [if_pos c22] at hk
          refine G.sl [(.iconst 0, 1, 0, 0, 0, nI 0), (.iconst 1, 1, 0, 0, 0, nI 1), (.iconst 1, 1, 0, 0, 0, nI 1)] [] (pc2 := 57) (ls2 := [some (.ref 54), some (.int x1), some (.int x2), some (.int x3), some (.int x4), some (.int x5), some (.int x6), none, none, none, none, none]) (st2 := [.int (nI 1), .int (nI 1), .int (nI 0), .ref 54]) (M2 := mrow M 54 (upd (M.1 54) 0 (nI 0))) (Ps := []) (by decide +kernel) rfl rfl trivial ?_
          have t23 : GM z mX12_may (d + 6) [.ref 54, .int (nI 0), .int (nI 1), .int (nI 1)] (mrow M 54 (upd (M.1 54) 0 (nI 0))) (fun rs => rs = .inl (some (.int (nI 0)), mrow (mrow M 54 (upd (upd (M.1 54) 0 (nI 0)) 0 (nI 1))) 55 (upd (M.1 55) 1 ((M.1 55 1) + nI 1)))) := by
            have q9 := m_may_1_f z (d + 6) (mrow M 54 (upd (M.1 54) 0 (nI 0))) (nI 1) (by first | rfl | (simp only [mput, mrow_same, mrow_hit, mrow_miss, mrow_sw, idr_eq, ne_eq, Nat.reduceEqDiff, not_false_eq_true, Nat.reduceLT, reduceCtorEq, pk_us]; done)) (by decide)
            try simp only [mput, mrow_same, mrow_hit, mrow_miss, mrow_sw, idr_eq, ne_eq, Nat.reduceEqDiff, not_false_eq_true, Nat.reduceLT, reduceCtorEq] at q9
            exact q9
          refine G.callV (as := [.int (nI 0), .int (nI 1), .int (nI 1)]) (rest := []) (a := 54) oX12_may lk_EvenFindersModel_213 (by decide +kernel) rfl rfl ⟨rfl, rfl⟩ (Nat.le_of_ble_eq_true rfl) rfl ⟨Nat.le_of_ble_eq_true rfl, Nat.le_of_ble_eq_true rfl⟩ t23 (fun v9 N9 h24 => ?_) (fun E9 N9 h24 => by cases h24)
          cases h24
          show G z mX12_span (d + 7) 0 0 60 [some (.ref 54), some (.int x1), some (.int x2), some (.int x3), some (.int x4), some (.int x5), some (.int x6), none, none, none, none, none] [.int (nI 0)] (mrow (mrow M 54 (upd (upd (M.1 54) 0 (nI 0)) 0 (nI 1))) 55 (upd (M.1 55) 1 ((M.1 55 1) + nI 1))) Q
          refine G.if_ne (off := (5)) (tgt := 65) (by decide +kernel) rfl (fun h9 => absurd (by decide) h9) (fun _ => ?_)
          refine G.sl [(.iconst 0, 1, 0, 0, 0, nI 0)] [] (pc2 := 64) (ls2 := [some (.ref 54), some (.int x1), some (.int x2), some (.int x3), some (.int x4), some (.int x5), some (.int x6), none, none, none, none, none]) (st2 := [.int (nI 0)]) (M2 := mrow (mrow M 54 (upd (upd (M.1 54) 0 (nI 0)) 0 (nI 1))) 55 (upd (M.1 55) 1 ((M.1 55 1) + nI 1))) (Ps := []) (by decide +kernel) rfl rfl trivial ?_
          refine G.mem (M' := mrow (mrow (mrow (mrow (mrow M 54 (upd (upd (M.1 54) 0 (nI 0)) 0 (nI 1))) 55 (upd (M.1 55) 1 ((M.1 55 1) + nI 1))) 67 (M.1 67)) 68 (M.1 68)) 72 (M.1 72)) (((((mrow_id (N := mrow (mrow M 54 (upd (upd (M.1 54) 0 (nI 0)) 0 (nI 1))) 55 (upd (M.1 55) 1 ((M.1 55 1) + nI 1))) (c := 67) (f := M.1 67) (by first | rfl | (simp only [mput, mrow_same, mrow_hit, mrow_miss, mrow_sw, idr_eq, ne_eq, Nat.reduceEqDiff, not_false_eq_true, Nat.reduceLT, reduceCtorEq]; done))).symm).trans (mrow_id (N := mrow (mrow (mrow M 54 (upd (upd (M.1 54) 0 (nI 0)) 0 (nI 1))) 55 (upd (M.1 55) 1 ((M.1 55 1) + nI 1))) 67 (M.1 67)) (c := 68) (f := M.1 68) (by first | rfl | (simp only [mput, mrow_same, mrow_hit, mrow_miss, mrow_sw, idr_eq, ne_eq, Nat.reduceEqDiff, not_false_eq_true, Nat.reduceLT, reduceCtorEq]; done))).symm).trans (mrow_id (N := mrow (mrow (mrow (mrow M 54 (upd (upd (M.1 54) 0 (nI 0)) 0 (nI 1))) 55 (upd (M.1 55) 1 ((M.1 55 1) + nI 1))) 67 (M.1 67)) 68 (M.1 68)) (c := 72) (f := M.1 72) (by first | rfl | (simp only [mput, mrow_same, mrow_hit, mrow_miss, mrow_sw, idr_eq, ne_eq, Nat.reduceEqDiff, not_false_eq_true, Nat.reduceLT, reduceCtorEq]; done))).symm).trans (by first | rfl | (simp only [mput, mrow_same, mrow_hit, mrow_miss, mrow_sw, idr_eq, ne_eq, Nat.reduceEqDiff, not_false_eq_true, Nat.reduceLT, reduceCtorEq]; done))) ?_
          exact G.reti (by decide +kernel) rfl rfl (Nat.le_of_ble_eq_true rfl) (Nat.le_of_ble_eq_true rfl) ((by rw [hQ]; simp only [k_span, if_neg c4, if_neg c10, if_neg c16, if_pos c22, mrow_self]))
        · skip
          rw [if_neg c22] at hk
          refine G.sl [(.iconst 1, 1, 0, 0, 0, nI 1), (.goto 4, 3, 55, 0, 0, 0), (.iconst 1, 1, 0, 0, 0, nI 1), (.iconst 1, 1, 0, 0, 0, nI 1)] [] (pc2 := 57) (ls2 := [some (.ref 54), some (.int x1), some (.int x2), some (.int x3), some (.int x4), some (.int x5), some (.int x6), none, none, none, none, none]) (st2 := [.int (nI 1), .int (nI 1), .int (nI 1), .ref 54]) (M2 := mrow M 54 (upd (M.1 54) 0 (nI 0))) (Ps := []) (by decide +kernel) rfl rfl trivial ?_
          have t25 : GM z mX12_may (d + 6) [.ref 54, .int (nI 1), .int (nI 1), .int (nI 1)] (mrow M 54 (upd (M.1 54) 0 (nI 0))) (fun rs => rs = .inl (some (.int (nI 1)), mrow M 54 (upd (M.1 54) 0 (nI 0)))) := by
            have q9 := m_may_1_t z (d + 6) (mrow M 54 (upd (M.1 54) 0 (nI 0))) (nI 1) (by first | rfl | (simp only [mput, mrow_same, mrow_hit, mrow_miss, mrow_sw, idr_eq, ne_eq, Nat.reduceEqDiff, not_false_eq_true, Nat.reduceLT, reduceCtorEq, pk_us]; done))
            try simp only [mput, mrow_same, mrow_hit, mrow_miss, mrow_sw, idr_eq, ne_eq, Nat.reduceEqDiff, not_false_eq_true, Nat.reduceLT, reduceCtorEq] at q9
            exact q9
          refine G.callV (as := [.int (nI 1), .int (nI 1), .int (nI 1)]) (rest := []) (a := 54) oX12_may lk_EvenFindersModel_213 (by decide +kernel) rfl rfl ⟨rfl, rfl⟩ (Nat.le_of_ble_eq_true rfl) rfl ⟨Nat.le_of_ble_eq_true rfl, Nat.le_of_ble_eq_true rfl⟩ t25 (fun v9 N9 h26 => ?_) (fun E9 N9 h26 => by cases h26)
          cases h26
          show G z mX12_span (d + 7) 0 0 60 [some (.ref 54), some (.int x1), some (.int x2), some (.int x3), some (.int x4), some (.int x5), some (.int x6), none, none, none, none, none] [.int (nI 1)] (mrow M 54 (upd (M.1 54) 0 (nI 0))) Q
          refine G.if_ne (off := (5)) (tgt := 65) (by decide +kernel) rfl (fun _ => ?_) (fun h9 => absurd h9 (by decide))
          refine G.sl [(.iconst (-1), 1, 0, 0, 0, (-1)), (.istore 7, 2, 7, 0, 0, 0), (.iconst 0, 1, 0, 0, 0, nI 0), (.istore 8, 2, 8, 0, 0, 0), (.iconst 0, 1, 0, 0, 0, nI 0), (.istore 9, 2, 9, 0, 0, 0), (.iconst 0, 1, 0, 0, 0, nI 0), (.istore 10, 2, 10, 0, 0, 0)] [] (pc2 := 77) (ls2 := [some (.ref 54), some (.int x1), some (.int x2), some (.int x3), some (.int x4), some (.int x5), some (.int x6), some (.int ((-1))), some (.int (nI 0)), some (.int (nI 0)), some (.int (nI 0)), none]) (st2 := []) (M2 := mrow M 54 (upd (M.1 54) 0 (nI 0))) (Ps := []) (by decide +kernel) rfl rfl trivial ?_
          obtain ⟨k71, hk⟩ := hk
          refine G.mem (M' := mrow (mrow (mrow (mrow (mrow M 54 (upd (M.1 54) 0 (nI 0))) 54 ((mrow M 54 (upd (M.1 54) 0 (nI 0))).1 54)) 67 ((mrow M 54 (upd (M.1 54) 0 (nI 0))).1 67)) 68 ((mrow M 54 (upd (M.1 54) 0 (nI 0))).1 68)) 72 ((mrow M 54 (upd (M.1 54) 0 (nI 0))).1 72)) (by simp only [mrow_self]) ?_
          refine lp_k_span_54_77 z d (mrow M 54 (upd (M.1 54) 0 (nI 0))) Q x1 x2 x3 x4 x5 x6 FU ((-1)) (nI 0) (nI 0) (nI 0) ((mrow M 54 (upd (M.1 54) 0 (nI 0))).1 54) ((mrow M 54 (upd (M.1 54) 0 (nI 0))).1 67) ((mrow M 54 (upd (M.1 54) 0 (nI 0))).1 68) ((mrow M 54 (upd (M.1 54) 0 (nI 0))).1 72) (by first | (simp only [mput, mrow_same, mrow_hit, mrow_miss, mrow_sw, idr_eq, ne_eq, Nat.reduceEqDiff, not_false_eq_true, Nat.reduceLT, reduceCtorEq]; exact k71) | exact k71) ?_
          try simp only [mput, mrow_same, mrow_hit, mrow_miss, mrow_sw, idr_eq, ne_eq, Nat.reduceEqDiff, not_false_eq_true, Nat.reduceLT, reduceCtorEq]
          rcases g72 : k_span_77 (M.1 60) (M.1 61) (M.1 65) (M.1 66) (M.1 71) x1 x2 x3 x4 x5 x6 FU ((-1)) (nI 0) (nI 0) (nI 0) (upd (M.1 54) 0 (nI 0)) (M.1 67) (M.1 68) (M.1 72) with ⟨v73, v74, v75, v76, r77, r78, r79, r80⟩
          show G z mX12_span (d + 7) 0 0 167 [none, none, none, none, none, some (.int x5), none, some (.int v73), some (.int v74), some (.int v75), none, none] [] (mrow (mrow (mrow (mrow M 54 r77) 67 r78) 68 r79) 72 r80) Q
          refine G.sl [(.iload 5, 2, 5, 0, 0, 0)] [] (pc2 := 169) (ls2 := [none, none, none, none, none, some (.int x5), none, some (.int v73), some (.int v74), some (.int v75), none, none]) (st2 := [.int x5]) (M2 := mrow (mrow (mrow (mrow M 54 r77) 67 r78) 68 r79) 72 r80) (Ps := []) (by decide +kernel) rfl rfl trivial ?_
          refine G.if_ne (off := (8)) (tgt := 177) (by decide +kernel) rfl (fun c81 => ?_) (fun c81 => ?_)
          · skip
            refine G.sl [(.iload 5, 2, 5, 0, 0, 0), (.iconst 1, 1, 0, 0, 0, nI 1)] [] (pc2 := 180) (ls2 := [none, none, none, none, none, some (.int x5), none, some (.int v73), some (.int v74), some (.int v75), none, none]) (st2 := [.int (nI 1), .int x5]) (M2 := mrow (mrow (mrow (mrow M 54 r77) 67 r78) 68 r79) 72 r80) (Ps := []) (by decide +kernel) rfl rfl trivial ?_
            refine G.ic_ne (off := (8)) (tgt := 188) (by decide +kernel) rfl (fun c82 => ?_) (fun c82 => ?_)
            · skip
              refine G.sl [(.iload 9, 2, 9, 0, 0, 0)] [] (pc2 := 190) (ls2 := [none, none, none, none, none, some (.int x5), none, some (.int v73), some (.int v74), some (.int v75), none, none]) (st2 := [.int v75]) (M2 := mrow (mrow (mrow (mrow M 54 r77) 67 r78) 68 r79) 72 r80) (Ps := []) (by decide +kernel) rfl rfl trivial ?_
              refine G.mem (M' := mrow (mrow (mrow (mrow (mrow M 54 r77) 55 (M.1 55)) 67 r78) 68 r79) 72 r80) (((mrow_id (N := mrow (mrow (mrow (mrow M 54 r77) 67 r78) 68 r79) 72 r80) (c := 55) (f := M.1 55) (by first | rfl | (simp only [mput, mrow_same, mrow_hit, mrow_miss, mrow_sw, idr_eq, ne_eq, Nat.reduceEqDiff, not_false_eq_true, Nat.reduceLT, reduceCtorEq]; done))).symm).trans (by first | rfl | (simp only [mput, mrow_same, mrow_hit, mrow_miss, mrow_sw, idr_eq, ne_eq, Nat.reduceEqDiff, not_false_eq_true, Nat.reduceLT, reduceCtorEq]; done))) ?_
              exact G.reti (by decide +kernel) rfl rfl (Nat.le_of_ble_eq_true rfl) (Nat.le_of_ble_eq_true rfl) ((by rw [hQ]; simp only [k_span, if_neg c4, if_neg c10, if_neg c16, if_neg c22, g72, if_neg c81, if_neg c82, mrow_self]))
            · skip
              refine G.sl [(.iload 8, 2, 8, 0, 0, 0), (.goto 5, 3, 190, 0, 0, 0)] [] (pc2 := 190) (ls2 := [none, none, none, none, none, some (.int x5), none, some (.int v73), some (.int v74), some (.int v75), none, none]) (st2 := [.int v74]) (M2 := mrow (mrow (mrow (mrow M 54 r77) 67 r78) 68 r79) 72 r80) (Ps := []) (by decide +kernel) rfl rfl trivial ?_
              refine G.mem (M' := mrow (mrow (mrow (mrow (mrow M 54 r77) 55 (M.1 55)) 67 r78) 68 r79) 72 r80) (((mrow_id (N := mrow (mrow (mrow (mrow M 54 r77) 67 r78) 68 r79) 72 r80) (c := 55) (f := M.1 55) (by first | rfl | (simp only [mput, mrow_same, mrow_hit, mrow_miss, mrow_sw, idr_eq, ne_eq, Nat.reduceEqDiff, not_false_eq_true, Nat.reduceLT, reduceCtorEq]; done))).symm).trans (by first | rfl | (simp only [mput, mrow_same, mrow_hit, mrow_miss, mrow_sw, idr_eq, ne_eq, Nat.reduceEqDiff, not_false_eq_true, Nat.reduceLT, reduceCtorEq]; done))) ?_
              exact G.reti (by decide +kernel) rfl rfl (Nat.le_of_ble_eq_true rfl) (Nat.le_of_ble_eq_true rfl) ((by rw [hQ]; simp only [k_span, if_neg c4, if_neg c10, if_neg c16, if_neg c22, g72, if_neg c81, if_pos c82, mrow_self]))
          · skip
            refine G.sl [(.iload 7, 2, 7, 0, 0, 0), (.goto 16, 3, 190, 0, 0, 0)] [] (pc2 := 190) (ls2 := [none, none, none, none, none, some (.int x5), none, some (.int v73), some (.int v74), some (.int v75), none, none]) (st2 := [.int v73]) (M2 := mrow (mrow (mrow (mrow M 54 r77) 67 r78) 68 r79) 72 r80) (Ps := []) (by decide +kernel) rfl rfl trivial ?_
            refine G.mem (M' := mrow (mrow (mrow (mrow (mrow M 54 r77) 55 (M.1 55)) 67 r78) 68 r79) 72 r80) (((mrow_id (N := mrow (mrow (mrow (mrow M 54 r77) 67 r78) 68 r79) 72 r80) (c := 55) (f := M.1 55) (by first | rfl | (simp only [mput, mrow_same, mrow_hit, mrow_miss, mrow_sw, idr_eq, ne_eq, Nat.reduceEqDiff, not_false_eq_true, Nat.reduceLT, reduceCtorEq]; done))).symm).trans (by first | rfl | (simp only [mput, mrow_same, mrow_hit, mrow_miss, mrow_sw, idr_eq, ne_eq, Nat.reduceEqDiff, not_false_eq_true, Nat.reduceLT, reduceCtorEq]; done))) ?_
            exact G.reti (by decide +kernel) rfl rfl (Nat.le_of_ble_eq_true rfl) (Nat.le_of_ble_eq_true rfl) ((by rw [hQ]; simp only [k_span, if_neg c4, if_neg c10, if_neg c16, if_neg c22, g72, if_pos c81, mrow_self]))
