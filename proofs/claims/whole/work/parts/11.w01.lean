set_option maxHeartbeats 4000000 in
set_option maxRecDepth 3000 in
theorem c_v_shorten_3 (z : Zp) (d : Nat) (M : Mem) (n1 : Nat) (n2 : Nat) (x3 : Int32) (b1 : n1 < 8) (b2 : n2 < 8) : GM z mX7_shorten (d + 1) [.ref 3, .int (nI n1), .int (nI n2), .int x3] M (fun rs => rs = .inl (none, mrow M 11 ((v_shorten (M.1 11) n1 n2 x3).2))) := by
  refine GM.of oX7_shorten.1 (Nat.le_of_ble_eq_true rfl) ?_
  show G z mX7_shorten (d + 1) 0 0 0 [some (.ref 3), some (.int (nI n1)), some (.int (nI n2)), some (.int x3), none] [] M _
  obtain ⟨Q, hQ⟩ : ∃ Q : Rs → Prop, Q = (fun rs => rs = .inl (none, mrow M 11 ((v_shorten (M.1 11) n1 n2 x3).2))) := ⟨_, rfl⟩
  rw [← hQ]
  refine G.sl [(.iload_n 1, 1, 1, 0, 0, 0), (.bipush 8, 2, 0, 0, 0, nI 8), (.imul, 1, 0, 0, 0, 0), (.iload_n 2, 1, 2, 0, 0, 0), (.iadd, 1, 0, 0, 0, 0), (.istore 4, 2, 4, 0, 0, 0), (.aload_n 0, 1, 0, 0, 0, 0), (.getfield 33, 3, 6, 11, 52, 0), (.iload 4, 2, 4, 0, 0, 0), (.aload_n 0, 1, 0, 0, 0, 0), (.getfield 33, 3, 6, 11, 52, 0), (.iload 4, 2, 4, 0, 0, 0), (.iaload, 1, 0, 0, 0, 0), (.iload_n 3, 1, 3, 0, 0, 0)] [(n1 * 8) + n2] (pc2 := 22) (ls2 := [some (.ref 3), some (.int (nI n1)), some (.int (nI n2)), some (.int x3), some (.int (((nI n1) * (nI 8)) + (nI n2)))]) (st2 := [.int x3, .int (M.1 11 ((n1 * 8) + n2)), .int (((nI n1) * (nI 8)) + (nI n2)), .ref 11]) (M2 := M) (Ps := [(((nI n1) * (nI 8)) + (nI n2)) = nI ((n1 * 8) + n2) ∧ ((n1 * 8) + n2) < 64]) (by decide +kernel) rfl rfl ⟨⟨(nAdd (pk_mul _ _) rfl), (by omega)⟩, trivial⟩ ?_
  refine G.mmin lm_EvenFinders_Town_121 (by decide +kernel) (Nat.le_of_ble_eq_true rfl) (Nat.le_of_ble_eq_true rfl) (Nat.le_of_ble_eq_true rfl) ?_
  refine G.sl [(.iastore, 1, 0, 0, 0, 0)] [(n1 * 8) + n2] (pc2 := 26) (ls2 := [some (.ref 3), some (.int (nI n1)), some (.int (nI n2)), some (.int x3), some (.int (((nI n1) * (nI 8)) + (nI n2)))]) (st2 := []) (M2 := mput M 11 ((n1 * 8) + n2) (if x3 < (M.1 11 ((n1 * 8) + n2)) then x3 else (M.1 11 ((n1 * 8) + n2)))) (Ps := [(((nI n1) * (nI 8)) + (nI n2)) = nI ((n1 * 8) + n2) ∧ ((n1 * 8) + n2) < 64]) (by decide +kernel) rfl rfl ⟨⟨(nAdd (pk_mul _ _) rfl), (by omega)⟩, trivial⟩ ?_
  refine G.mem (M' := mrow M 11 (upd (M.1 11) ((n1 * 8) + n2) (if x3 < (M.1 11 ((n1 * 8) + n2)) then x3 else (M.1 11 ((n1 * 8) + n2))))) (by first | rfl | (simp only [mput, mrow_same, mrow_hit, mrow_miss, mrow_sw, idr_eq, ne_eq, Nat.reduceEqDiff, not_false_eq_true, Nat.reduceLT, reduceCtorEq]; done)) ?_
  exact G.retv (by decide +kernel) rfl (Nat.le_of_ble_eq_true rfl) (Nat.le_of_ble_eq_true rfl) ((by rw [hQ]; simp only [v_shorten, mrow_self]))
set_option maxHeartbeats 4000000 in
set_option maxRecDepth 3000 in
theorem lp_J7_fill_53178_L64_11_5 (z : Zp) (d : Nat) (M : Mem) (Q : Rs → Prop) (nn : Nat) (x1 : Int32) (hnn : nn = 64) (hX : G z mJ7_fill_53178 (d) 0 0 20 [none, none, none, none] [] (mrow M 11 (J7_fill_53178_L64_5 (M.1 11) x1 nn)) Q) : G z mJ7_fill_53178 (d) 0 0 5 [some (.ref 11), some (.int x1), some (.int (nI 0)), some (.int (nI 64))] [] M Q := by
  refine G.mem (M' := mrow M 11 (M.1 11)) (by simp only [mrow_self]) ?_
  refine down (n := nn) (P := fun i2 => G z mJ7_fill_53178 (d) 0 0 5 [some (.ref 11), some (.int x1), some (.int (nI i2)), some (.int (nI 64))] [] (mrow M 11 (J7_fill_53178_L64_5 (M.1 11) x1 i2)) Q) ?_ ?_ 0 (Nat.zero_le _)
  · skip
    refine G.sl [(.iload_n 2, 1, 2, 0, 0, 0), (.iload_n 3, 1, 3, 0, 0, 0)] [] (pc2 := 7) (ls2 := [some (.ref 11), some (.int x1), some (.int (nI nn)), some (.int (nI 64))]) (st2 := [.int (nI 64), .int (nI nn)]) (M2 := mrow M 11 (J7_fill_53178_L64_5 (M.1 11) x1 nn)) (Ps := []) (by decide +kernel) rfl rfl trivial ?_
    refine G.ic_ge (off := (13)) (tgt := 20) (by decide +kernel) rfl (fun _ => ?_) (fun h9 => absurd (nI_le (by omega) (by omega)) h9)
    refine G.loc (ls2 := [none, none, none, none]) (by simp [subL]) ?_
    exact hX
  · skip
    intro i2 hi ih
    show G z mJ7_fill_53178 (d) 0 0 5 [some (.ref 11), some (.int x1), some (.int (nI i2)), some (.int (nI 64))] [] (mrow M 11 (J7_fill_53178_L64_5 (M.1 11) x1 i2)) Q
    refine G.sl [(.iload_n 2, 1, 2, 0, 0, 0), (.iload_n 3, 1, 3, 0, 0, 0)] [] (pc2 := 7) (ls2 := [some (.ref 11), some (.int x1), some (.int (nI i2)), some (.int (nI 64))]) (st2 := [.int (nI 64), .int (nI i2)]) (M2 := mrow M 11 (J7_fill_53178_L64_5 (M.1 11) x1 i2)) (Ps := []) (by decide +kernel) rfl rfl trivial ?_
    refine G.ic_ge (off := (13)) (tgt := 20) (by decide +kernel) rfl (fun h9 => absurd h9 (nI_ge (by omega) (by omega))) (fun _ => ?_)
    refine G.sl [(.aload_n 0, 1, 0, 0, 0, 0), (.iload_n 2, 1, 2, 0, 0, 0), (.iload_n 1, 1, 1, 0, 0, 0), (.iastore, 1, 0, 0, 0, 0), (.iinc 2 1, 3, 2, 0, 0, nI 1), (.goto (-12), 3, 5, 0, 0, 0)] [i2] (pc2 := 5) (ls2 := [some (.ref 11), some (.int x1), some (.int ((nI i2) + nI 1)), some (.int (nI 64))]) (st2 := []) (M2 := mput (mrow M 11 (J7_fill_53178_L64_5 (M.1 11) x1 i2)) 11 i2 x1) (Ps := [(nI i2) = nI i2 ∧ i2 < 64]) (by decide +kernel) rfl rfl ⟨⟨rfl, (by omega)⟩, trivial⟩ ?_
    refine G.mem (M' := mrow M 11 (upd (J7_fill_53178_L64_5 (M.1 11) x1 i2) i2 x1)) (by first | rfl | (simp only [mput, mrow_same, mrow_hit, mrow_miss, mrow_sw, idr_eq, ne_eq, Nat.reduceEqDiff, not_false_eq_true, Nat.reduceLT, reduceCtorEq]; done)) ?_
    rw [nI_add i2 1]
    simp only [J7_fill_53178_L64_5] at ih
    exact ih
set_option maxHeartbeats 4000000 in
set_option maxRecDepth 3000 in
theorem c_J7_fill_53178_L64_11 (z : Zp) (d : Nat) (M : Mem) (x1 : Int32) : GM z mJ7_fill_53178 (d) [.ref 11, .int x1] M (fun rs => rs = .inl (none, mrow M 11 ((J7_fill_53178_L64 (M.1 11) x1).2))) := by
  refine GM.of oJ7_fill_53178.1 (Nat.le_of_ble_eq_true rfl) ?_
  show G z mJ7_fill_53178 (d) 0 0 0 [some (.ref 11), some (.int x1), none, none] [] M _
  obtain ⟨Q, hQ⟩ : ∃ Q : Rs → Prop, Q = (fun rs => rs = .inl (none, mrow M 11 ((J7_fill_53178_L64 (M.1 11) x1).2))) := ⟨_, rfl⟩
  rw [← hQ]
  refine G.sl [(.iconst 0, 1, 0, 0, 0, nI 0), (.istore_n 2, 1, 2, 0, 0, 0), (.aload_n 0, 1, 0, 0, 0, 0), (.arraylength, 1, 0, 0, 0, 0), (.istore_n 3, 1, 3, 0, 0, 0)] [] (pc2 := 5) (ls2 := [some (.ref 11), some (.int x1), some (.int (nI 0)), some (.int (nI 64))]) (st2 := []) (M2 := M) (Ps := []) (by decide +kernel) rfl rfl trivial ?_
  refine lp_J7_fill_53178_L64_11_5 z d M Q (cN 64) x1 (cN_eq 64) ?_
  try simp only [mput, mrow_same, mrow_hit, mrow_miss, mrow_sw, idr_eq, ne_eq, Nat.reduceEqDiff, not_false_eq_true, Nat.reduceLT, reduceCtorEq]
  show G z mJ7_fill_53178 (d) 0 0 20 [none, none, none, none] [] (mrow M 11 (J7_fill_53178_L64_5 (M.1 11) x1 (cN 64))) Q
  exact G.retv (by decide +kernel) rfl (Nat.le_of_ble_eq_true rfl) (Nat.le_of_ble_eq_true rfl) ((by rw [hQ]; simp only [J7_fill_53178_L64, mrow_self]))
set_option maxHeartbeats 4000000 in
set_option maxRecDepth 3000 in
theorem lp_v_measure_3_12 (z : Zp) (d : Nat) (M : Mem) (Q : Rs → Prop) (np : Nat) (hnp : np ≤ 8) (hp : M.1 3 0 = nI np) (hX : G z mX7_measure (d + 2) 0 0 38 [some (.ref 3), none, none, none] [] (mrow M 11 (v_measure_12 (M.1 11) np)) Q) : G z mX7_measure (d + 2) 0 0 12 [some (.ref 3), some (.int (nI 0)), none, none] [] M Q := by
  refine G.mem (M' := mrow M 11 (M.1 11)) (by simp only [mrow_self]) ?_
  refine down (n := np) (P := fun i1 => G z mX7_measure (d + 2) 0 0 12 [some (.ref 3), some (.int (nI i1)), none, none] [] (mrow M 11 (v_measure_12 (M.1 11) i1)) Q) ?_ ?_ 0 (Nat.zero_le _)
  · skip
    refine G.sl [(.iload_n 1, 1, 1, 0, 0, 0), (.aload_n 0, 1, 0, 0, 0, 0), (.getfield 36, 3, 6, 0, 14, 0)] [] (pc2 := 17) (ls2 := [some (.ref 3), some (.int (nI np)), none, none]) (st2 := [.int (M.1 3 0), .int (nI np)]) (M2 := mrow M 11 (v_measure_12 (M.1 11) np)) (Ps := []) (by decide +kernel) rfl rfl trivial ?_
    rw [hp]
    refine G.ic_ge (off := (21)) (tgt := 38) (by decide +kernel) rfl (fun _ => ?_) (fun h9 => absurd (nI_le (by omega) (by omega)) h9)
    refine G.loc (ls2 := [some (.ref 3), none, none, none]) (by simp [subL]) ?_
    exact hX
  · skip
    intro i1 hi ih
    show G z mX7_measure (d + 2) 0 0 12 [some (.ref 3), some (.int (nI i1)), none, none] [] (mrow M 11 (v_measure_12 (M.1 11) i1)) Q
    refine G.sl [(.iload_n 1, 1, 1, 0, 0, 0), (.aload_n 0, 1, 0, 0, 0, 0), (.getfield 36, 3, 6, 0, 14, 0)] [] (pc2 := 17) (ls2 := [some (.ref 3), some (.int (nI i1)), none, none]) (st2 := [.int (M.1 3 0), .int (nI i1)]) (M2 := mrow M 11 (v_measure_12 (M.1 11) i1)) (Ps := []) (by decide +kernel) rfl rfl trivial ?_
    rw [hp]
    refine G.ic_ge (off := (21)) (tgt := 38) (by decide +kernel) rfl (fun h9 => absurd h9 (nI_ge (by omega) (by omega))) (fun _ => ?_)
    refine G.sl [(.aload_n 0, 1, 0, 0, 0, 0), (.getfield 33, 3, 6, 11, 52, 0), (.iload_n 1, 1, 1, 0, 0, 0), (.bipush 8, 2, 0, 0, 0, nI 8), (.imul, 1, 0, 0, 0, 0), (.iload_n 1, 1, 1, 0, 0, 0), (.iadd, 1, 0, 0, 0, 0), (.iconst 0, 1, 0, 0, 0, nI 0), (.iastore, 1, 0, 0, 0, 0), (.iinc 1 1, 3, 1, 0, 0, nI 1), (.goto (-23), 3, 12, 0, 0, 0)] [(i1 * 8) + i1] (pc2 := 12) (ls2 := [some (.ref 3), some (.int ((nI i1) + nI 1)), none, none]) (st2 := []) (M2 := mput (mrow M 11 (v_measure_12 (M.1 11) i1)) 11 ((i1 * 8) + i1) (nI 0)) (Ps := [(((nI i1) * (nI 8)) + (nI i1)) = nI ((i1 * 8) + i1) ∧ ((i1 * 8) + i1) < 64]) (by decide +kernel) rfl rfl ⟨⟨(nAdd (pk_mul _ _) rfl), (by omega)⟩, trivial⟩ ?_
    refine G.mem (M' := mrow M 11 (upd (v_measure_12 (M.1 11) i1) ((i1 * 8) + i1) (nI 0))) (by first | rfl | (simp only [mput, mrow_same, mrow_hit, mrow_miss, mrow_sw, idr_eq, ne_eq, Nat.reduceEqDiff, not_false_eq_true, Nat.reduceLT, reduceCtorEq]; done)) ?_
    rw [nI_add i1 1]
    simp only [v_measure_12] at ih
    exact ih
set_option maxHeartbeats 4000000 in
set_option maxRecDepth 3000 in
theorem lp_v_measure_3_40 (z : Zp) (d : Nat) (M : Mem) (Q : Rs → Prop) (nr : Nat) (hnr : nr ≤ 12) (hr : M.1 3 1 = nI nr) (hk : ∀ i1, i1 < nr → v_measure_40_ok (M.1 4) (M.1 5) (M.1 6) (M.1 11) i1) (hX : G z mX7_measure (d + 2) 0 0 98 [some (.ref 3), none, none, none] [] (mrow M 11 (v_measure_40 (M.1 4) (M.1 5) (M.1 6) (M.1 11) nr)) Q) : G z mX7_measure (d + 2) 0 0 40 [some (.ref 3), some (.int (nI 0)), none, none] [] M Q := by
  refine G.mem (M' := mrow M 11 (M.1 11)) (by simp only [mrow_self]) ?_
  refine down (n := nr) (P := fun i1 => G z mX7_measure (d + 2) 0 0 40 [some (.ref 3), some (.int (nI i1)), none, none] [] (mrow M 11 (v_measure_40 (M.1 4) (M.1 5) (M.1 6) (M.1 11) i1)) Q) ?_ ?_ 0 (Nat.zero_le _)
  · skip
    refine G.sl [(.iload_n 1, 1, 1, 0, 0, 0), (.aload_n 0, 1, 0, 0, 0, 0), (.getfield 40, 3, 6, 1, 18, 0)] [] (pc2 := 45) (ls2 := [some (.ref 3), some (.int (nI nr)), none, none]) (st2 := [.int (M.1 3 1), .int (nI nr)]) (M2 := mrow M 11 (v_measure_40 (M.1 4) (M.1 5) (M.1 6) (M.1 11) nr)) (Ps := []) (by decide +kernel) rfl rfl trivial ?_
    rw [hr]
    refine G.ic_ge (off := (53)) (tgt := 98) (by decide +kernel) rfl (fun _ => ?_) (fun h9 => absurd (nI_le (by omega) (by omega)) h9)
    refine G.loc (ls2 := [some (.ref 3), none, none, none]) (by simp [subL]) ?_
    exact hX
  · skip
    intro i1 hi ih
    have hk := hk i1 hi
    simp only [v_measure_40_ok] at hk
    show G z mX7_measure (d + 2) 0 0 40 [some (.ref 3), some (.int (nI i1)), none, none] [] (mrow M 11 (v_measure_40 (M.1 4) (M.1 5) (M.1 6) (M.1 11) i1)) Q
    refine G.sl [(.iload_n 1, 1, 1, 0, 0, 0), (.aload_n 0, 1, 0, 0, 0, 0), (.getfield 40, 3, 6, 1, 18, 0)] [] (pc2 := 45) (ls2 := [some (.ref 3), some (.int (nI i1)), none, none]) (st2 := [.int (M.1 3 1), .int (nI i1)]) (M2 := mrow M 11 (v_measure_40 (M.1 4) (M.1 5) (M.1 6) (M.1 11) i1)) (Ps := []) (by decide +kernel) rfl rfl trivial ?_
    rw [hr]
    refine G.ic_ge (off := (53)) (tgt := 98) (by decide +kernel) rfl (fun h9 => absurd h9 (nI_ge (by omega) (by omega))) (fun _ => ?_)
    refine G.sl [(.aload_n 0, 1, 0, 0, 0, 0), (.aload_n 0, 1, 0, 0, 0, 0), (.getfield 9, 3, 6, 4, 35, 0), (.iload_n 1, 1, 1, 0, 0, 0), (.iaload, 1, 0, 0, 0, 0), (.aload_n 0, 1, 0, 0, 0, 0), (.getfield 15, 3, 6, 5, 37, 0), (.iload_n 1, 1, 1, 0, 0, 0), (.iaload, 1, 0, 0, 0, 0), (.aload_n 0, 1, 0, 0, 0, 0), (.getfield 18, 3, 6, 6, 39, 0), (.iload_n 1, 1, 1, 0, 0, 0), (.iaload, 1, 0, 0, 0, 0)] [i1, i1, i1] (pc2 := 67) (ls2 := [some (.ref 3), some (.int (nI i1)), none, none]) (st2 := [.int (M.1 6 i1), .int (M.1 5 i1), .int (M.1 4 i1), .ref 3]) (M2 := mrow M 11 (v_measure_40 (M.1 4) (M.1 5) (M.1 6) (M.1 11) i1)) (Ps := [(nI i1) = nI i1 ∧ i1 < 12, (nI i1) = nI i1 ∧ i1 < 12, (nI i1) = nI i1 ∧ i1 < 12]) (by decide +kernel) rfl rfl ⟨⟨rfl, (by omega)⟩, ⟨rfl, (by omega)⟩, ⟨rfl, (by omega)⟩, trivial⟩ ?_
    obtain ⟨k8, k9, k10, k11, hk⟩ := hk
    refine G.eq (st' := [.int (M.1 6 i1), .int (nI (ix (M.1 5 i1))), .int (nI (ix (M.1 4 i1))), .ref 3]) ?_ rfl (by rw [← (show M.1 4 i1 = nI (ix (M.1 4 i1)) from (ixE k8)), ← (show M.1 5 i1 = nI (ix (M.1 5 i1)) from (ixE k10))]) rfl
    rcases g13 : v_shorten (v_measure_40 (M.1 4) (M.1 5) (M.1 6) (M.1 11) i1) (ix (M.1 4 i1)) (ix (M.1 5 i1)) (M.1 6 i1) with ⟨u14, r15⟩
    have t16 : GM z mX7_shorten (d + 1) [.ref 3, .int (nI (ix (M.1 4 i1))), .int (nI (ix (M.1 5 i1))), .int (M.1 6 i1)] (mrow M 11 (v_measure_40 (M.1 4) (M.1 5) (M.1 6) (M.1 11) i1)) (fun rs => rs = .inl (none, mrow M 11 r15)) := by
      have q9 := c_v_shorten_3 z d (mrow M 11 (v_measure_40 (M.1 4) (M.1 5) (M.1 6) (M.1 11) i1)) (ix (M.1 4 i1)) (ix (M.1 5 i1)) (M.1 6 i1) k9 k11
      try simp only [mput, mrow_same, mrow_hit, mrow_miss, mrow_sw, idr_eq, ne_eq, Nat.reduceEqDiff, not_false_eq_true, Nat.reduceLT, reduceCtorEq, g13] at q9
      exact q9
    refine G.callV (as := [.int (nI (ix (M.1 4 i1))), .int (nI (ix (M.1 5 i1))), .int (M.1 6 i1)]) (rest := []) (a := 3) oX7_shorten lk_EvenFinders_Town_117 (by decide +kernel) rfl rfl ⟨rfl, rfl⟩ (Nat.le_of_ble_eq_true rfl) rfl ⟨Nat.le_of_ble_eq_true rfl, Nat.le_of_ble_eq_true rfl⟩ t16 (fun v9 N9 h17 => ?_) (fun E9 N9 h17 => by cases h17)
    cases h17
    show G z mX7_measure (d + 2) 0 0 70 [some (.ref 3), some (.int (nI i1)), none, none] [] (mrow M 11 r15) Q
    refine G.sl [(.aload_n 0, 1, 0, 0, 0, 0), (.aload_n 0, 1, 0, 0, 0, 0), (.getfield 15, 3, 6, 5, 37, 0), (.iload_n 1, 1, 1, 0, 0, 0), (.iaload, 1, 0, 0, 0, 0), (.aload_n 0, 1, 0, 0, 0, 0), (.getfield 9, 3, 6, 4, 35, 0), (.iload_n 1, 1, 1, 0, 0, 0), (.iaload, 1, 0, 0, 0, 0), (.aload_n 0, 1, 0, 0, 0, 0), (.getfield 18, 3, 6, 6, 39, 0), (.iload_n 1, 1, 1, 0, 0, 0), (.iaload, 1, 0, 0, 0, 0)] [i1, i1, i1] (pc2 := 89) (ls2 := [some (.ref 3), some (.int (nI i1)), none, none]) (st2 := [.int (M.1 6 i1), .int (M.1 4 i1), .int (M.1 5 i1), .ref 3]) (M2 := mrow M 11 r15) (Ps := [(nI i1) = nI i1 ∧ i1 < 12, (nI i1) = nI i1 ∧ i1 < 12, (nI i1) = nI i1 ∧ i1 < 12]) (by decide +kernel) rfl rfl ⟨⟨rfl, (by omega)⟩, ⟨rfl, (by omega)⟩, ⟨rfl, (by omega)⟩, trivial⟩ ?_
    refine G.eq (st' := [.int (M.1 6 i1), .int (nI (ix (M.1 4 i1))), .int (nI (ix (M.1 5 i1))), .ref 3]) ?_ rfl (by rw [← (show M.1 5 i1 = nI (ix (M.1 5 i1)) from (ixE k10)), ← (show M.1 4 i1 = nI (ix (M.1 4 i1)) from (ixE k8))]) rfl
    rcases g19 : v_shorten r15 (ix (M.1 5 i1)) (ix (M.1 4 i1)) (M.1 6 i1) with ⟨u20, r21⟩
    have t22 : GM z mX7_shorten (d + 1) [.ref 3, .int (nI (ix (M.1 5 i1))), .int (nI (ix (M.1 4 i1))), .int (M.1 6 i1)] (mrow M 11 r15) (fun rs => rs = .inl (none, mrow M 11 r21)) := by
      have q9 := c_v_shorten_3 z d (mrow M 11 r15) (ix (M.1 5 i1)) (ix (M.1 4 i1)) (M.1 6 i1) k11 k9
      try simp only [mput, mrow_same, mrow_hit, mrow_miss, mrow_sw, idr_eq, ne_eq, Nat.reduceEqDiff, not_false_eq_true, Nat.reduceLT, reduceCtorEq, g19] at q9
      exact q9
    refine G.callV (as := [.int (nI (ix (M.1 5 i1))), .int (nI (ix (M.1 4 i1))), .int (M.1 6 i1)]) (rest := []) (a := 3) oX7_shorten lk_EvenFinders_Town_117 (by decide +kernel) rfl rfl ⟨rfl, rfl⟩ (Nat.le_of_ble_eq_true rfl) rfl ⟨Nat.le_of_ble_eq_true rfl, Nat.le_of_ble_eq_true rfl⟩ t22 (fun v9 N9 h23 => ?_) (fun E9 N9 h23 => by cases h23)
    cases h23
    show G z mX7_measure (d + 2) 0 0 92 [some (.ref 3), some (.int (nI i1)), none, none] [] (mrow M 11 r21) Q
    refine G.sl [(.iinc 1 1, 3, 1, 0, 0, nI 1), (.goto (-55), 3, 40, 0, 0, 0)] [] (pc2 := 40) (ls2 := [some (.ref 3), some (.int ((nI i1) + nI 1)), none, none]) (st2 := []) (M2 := mrow M 11 r21) (Ps := []) (by decide +kernel) rfl rfl trivial ?_
    rw [nI_add i1 1]
    simp only [v_measure_40, g13, g19] at ih
    exact ih
set_option maxHeartbeats 4000000 in
set_option maxRecDepth 3000 in
theorem lp_v_measure_3_120 (z : Zp) (d : Nat) (M : Mem) (Q : Rs → Prop) (n1 : Nat) (n2 : Nat) (np : Nat) (hnp : np ≤ 8) (hp : M.1 3 0 = nI np) (b1 : n1 < 8) (b2 : n2 < 8) (hX : G z mX7_measure (d + 2) 0 0 163 [some (.ref 3), some (.int (nI n1)), some (.int (nI n2)), none] [] (mrow M 11 (v_measure_120 (M.1 11) n1 n2 np)) Q) : G z mX7_measure (d + 2) 0 0 120 [some (.ref 3), some (.int (nI n1)), some (.int (nI n2)), some (.int (nI 0))] [] M Q := by
  refine G.mem (M' := mrow M 11 (M.1 11)) (by simp only [mrow_self]) ?_
  refine down (n := np) (P := fun i3 => G z mX7_measure (d + 2) 0 0 120 [some (.ref 3), some (.int (nI n1)), some (.int (nI n2)), some (.int (nI i3))] [] (mrow M 11 (v_measure_120 (M.1 11) n1 n2 i3)) Q) ?_ ?_ 0 (Nat.zero_le _)
  · skip
    refine G.sl [(.iload_n 3, 1, 3, 0, 0, 0), (.aload_n 0, 1, 0, 0, 0, 0), (.getfield 36, 3, 6, 0, 14, 0)] [] (pc2 := 125) (ls2 := [some (.ref 3), some (.int (nI n1)), some (.int (nI n2)), some (.int (nI np))]) (st2 := [.int (M.1 3 0), .int (nI np)]) (M2 := mrow M 11 (v_measure_120 (M.1 11) n1 n2 np)) (Ps := []) (by decide +kernel) rfl rfl trivial ?_
    rw [hp]
    refine G.ic_ge (off := (38)) (tgt := 163) (by decide +kernel) rfl (fun _ => ?_) (fun h9 => absurd (nI_le (by omega) (by omega)) h9)
    refine G.loc (ls2 := [some (.ref 3), some (.int (nI n1)), some (.int (nI n2)), none]) (by simp [subL]) ?_
    exact hX
  · skip
    intro i3 hi ih
    show G z mX7_measure (d + 2) 0 0 120 [some (.ref 3), some (.int (nI n1)), some (.int (nI n2)), some (.int (nI i3))] [] (mrow M 11 (v_measure_120 (M.1 11) n1 n2 i3)) Q
    refine G.sl [(.iload_n 3, 1, 3, 0, 0, 0), (.aload_n 0, 1, 0, 0, 0, 0), (.getfield 36, 3, 6, 0, 14, 0)] [] (pc2 := 125) (ls2 := [some (.ref 3), some (.int (nI n1)), some (.int (nI n2)), some (.int (nI i3))]) (st2 := [.int (M.1 3 0), .int (nI i3)]) (M2 := mrow M 11 (v_measure_120 (M.1 11) n1 n2 i3)) (Ps := []) (by decide +kernel) rfl rfl trivial ?_
    rw [hp]
    refine G.ic_ge (off := (38)) (tgt := 163) (by decide +kernel) rfl (fun h9 => absurd h9 (nI_ge (by omega) (by omega))) (fun _ => ?_)
    refine G.sl [(.aload_n 0, 1, 0, 0, 0, 0), (.iload_n 2, 1, 2, 0, 0, 0), (.iload_n 3, 1, 3, 0, 0, 0), (.aload_n 0, 1, 0, 0, 0, 0), (.getfield 33, 3, 6, 11, 52, 0), (.iload_n 2, 1, 2, 0, 0, 0), (.bipush 8, 2, 0, 0, 0, nI 8), (.imul, 1, 0, 0, 0, 0), (.iload_n 1, 1, 1, 0, 0, 0), (.iadd, 1, 0, 0, 0, 0), (.iaload, 1, 0, 0, 0, 0), (.aload_n 0, 1, 0, 0, 0, 0), (.getfield 33, 3, 6, 11, 52, 0), (.iload_n 1, 1, 1, 0, 0, 0), (.bipush 8, 2, 0, 0, 0, nI 8), (.imul, 1, 0, 0, 0, 0), (.iload_n 3, 1, 3, 0, 0, 0), (.iadd, 1, 0, 0, 0, 0), (.iaload, 1, 0, 0, 0, 0), (.iadd, 1, 0, 0, 0, 0)] [(n2 * 8) + n1, (n1 * 8) + i3] (pc2 := 154) (ls2 := [some (.ref 3), some (.int (nI n1)), some (.int (nI n2)), some (.int (nI i3))]) (st2 := [.int (((v_measure_120 (M.1 11) n1 n2 i3) ((n2 * 8) + n1)) + ((v_measure_120 (M.1 11) n1 n2 i3) ((n1 * 8) + i3))), .int (nI i3), .int (nI n2), .ref 3]) (M2 := mrow M 11 (v_measure_120 (M.1 11) n1 n2 i3)) (Ps := [(((nI n2) * (nI 8)) + (nI n1)) = nI ((n2 * 8) + n1) ∧ ((n2 * 8) + n1) < 64, (((nI n1) * (nI 8)) + (nI i3)) = nI ((n1 * 8) + i3) ∧ ((n1 * 8) + i3) < 64]) (by decide +kernel) rfl rfl ⟨⟨(nAdd (pk_mul _ _) rfl), (by omega)⟩, ⟨(nAdd (pk_mul _ _) rfl), (by omega)⟩, trivial⟩ ?_
    rcases g26 : v_shorten (v_measure_120 (M.1 11) n1 n2 i3) n2 i3 (((v_measure_120 (M.1 11) n1 n2 i3) ((n2 * 8) + n1)) + ((v_measure_120 (M.1 11) n1 n2 i3) ((n1 * 8) + i3))) with ⟨u27, r28⟩
    have t29 : GM z mX7_shorten (d + 1) [.ref 3, .int (nI n2), .int (nI i3), .int (((v_measure_120 (M.1 11) n1 n2 i3) ((n2 * 8) + n1)) + ((v_measure_120 (M.1 11) n1 n2 i3) ((n1 * 8) + i3)))] (mrow M 11 (v_measure_120 (M.1 11) n1 n2 i3)) (fun rs => rs = .inl (none, mrow M 11 r28)) := by
      have q9 := c_v_shorten_3 z d (mrow M 11 (v_measure_120 (M.1 11) n1 n2 i3)) n2 i3 (((v_measure_120 (M.1 11) n1 n2 i3) ((n2 * 8) + n1)) + ((v_measure_120 (M.1 11) n1 n2 i3) ((n1 * 8) + i3))) (by omega) (by omega)
      try simp only [mput, mrow_same, mrow_hit, mrow_miss, mrow_sw, idr_eq, ne_eq, Nat.reduceEqDiff, not_false_eq_true, Nat.reduceLT, reduceCtorEq, g26] at q9
      exact q9
    refine G.callV (as := [.int (nI n2), .int (nI i3), .int (((v_measure_120 (M.1 11) n1 n2 i3) ((n2 * 8) + n1)) + ((v_measure_120 (M.1 11) n1 n2 i3) ((n1 * 8) + i3)))]) (rest := []) (a := 3) oX7_shorten lk_EvenFinders_Town_117 (by decide +kernel) rfl rfl ⟨rfl, rfl⟩ (Nat.le_of_ble_eq_true rfl) rfl ⟨Nat.le_of_ble_eq_true rfl, Nat.le_of_ble_eq_true rfl⟩ t29 (fun v9 N9 h30 => ?_) (fun E9 N9 h30 => by cases h30)
    cases h30
    show G z mX7_measure (d + 2) 0 0 157 [some (.ref 3), some (.int (nI n1)), some (.int (nI n2)), some (.int (nI i3))] [] (mrow M 11 r28) Q
    refine G.sl [(.iinc 3 1, 3, 3, 0, 0, nI 1), (.goto (-40), 3, 120, 0, 0, 0)] [] (pc2 := 120) (ls2 := [some (.ref 3), some (.int (nI n1)), some (.int (nI n2)), some (.int ((nI i3) + nI 1))]) (st2 := []) (M2 := mrow M 11 r28) (Ps := []) (by decide +kernel) rfl rfl trivial ?_
    rw [nI_add i3 1]
    simp only [v_measure_120, g26] at ih
    exact ih
set_option maxHeartbeats 4000000 in
set_option maxRecDepth 3000 in
theorem lp_v_measure_3_110 (z : Zp) (d : Nat) (M : Mem) (Q : Rs → Prop) (n1 : Nat) (np : Nat) (hnp : np ≤ 8) (hp : M.1 3 0 = nI np) (b1 : n1 < 8) (hX : G z mX7_measure (d + 2) 0 0 169 [some (.ref 3), some (.int (nI n1)), none, none] [] (mrow M 11 (v_measure_110 (M.1 11) np n1 np)) Q) : G z mX7_measure (d + 2) 0 0 110 [some (.ref 3), some (.int (nI n1)), some (.int (nI 0)), none] [] M Q := by
  refine G.mem (M' := mrow M 11 (M.1 11)) (by simp only [mrow_self]) ?_
  refine down (n := np) (P := fun i2 => G z mX7_measure (d + 2) 0 0 110 [some (.ref 3), some (.int (nI n1)), some (.int (nI i2)), none] [] (mrow M 11 (v_measure_110 (M.1 11) np n1 i2)) Q) ?_ ?_ 0 (Nat.zero_le _)
  · skip
    refine G.sl [(.iload_n 2, 1, 2, 0, 0, 0), (.aload_n 0, 1, 0, 0, 0, 0), (.getfield 36, 3, 6, 0, 14, 0)] [] (pc2 := 115) (ls2 := [some (.ref 3), some (.int (nI n1)), some (.int (nI np)), none]) (st2 := [.int (M.1 3 0), .int (nI np)]) (M2 := mrow M 11 (v_measure_110 (M.1 11) np n1 np)) (Ps := []) (by decide +kernel) rfl rfl trivial ?_
    rw [hp]
    refine G.ic_ge (off := (54)) (tgt := 169) (by decide +kernel) rfl (fun _ => ?_) (fun h9 => absurd (nI_le (by omega) (by omega)) h9)
    refine G.loc (ls2 := [some (.ref 3), some (.int (nI n1)), none, none]) (by simp [subL]) ?_
    exact hX
  · skip
    intro i2 hi ih
    show G z mX7_measure (d + 2) 0 0 110 [some (.ref 3), some (.int (nI n1)), some (.int (nI i2)), none] [] (mrow M 11 (v_measure_110 (M.1 11) np n1 i2)) Q
    refine G.sl [(.iload_n 2, 1, 2, 0, 0, 0), (.aload_n 0, 1, 0, 0, 0, 0), (.getfield 36, 3, 6, 0, 14, 0)] [] (pc2 := 115) (ls2 := [some (.ref 3), some (.int (nI n1)), some (.int (nI i2)), none]) (st2 := [.int (M.1 3 0), .int (nI i2)]) (M2 := mrow M 11 (v_measure_110 (M.1 11) np n1 i2)) (Ps := []) (by decide +kernel) rfl rfl trivial ?_
    rw [hp]
    refine G.ic_ge (off := (54)) (tgt := 169) (by decide +kernel) rfl (fun h9 => absurd h9 (nI_ge (by omega) (by omega))) (fun _ => ?_)
    refine G.sl [(.iconst 0, 1, 0, 0, 0, nI 0), (.istore_n 3, 1, 3, 0, 0, 0)] [] (pc2 := 120) (ls2 := [some (.ref 3), some (.int (nI n1)), some (.int (nI i2)), some (.int (nI 0))]) (st2 := []) (M2 := mrow M 11 (v_measure_110 (M.1 11) np n1 i2)) (Ps := []) (by decide +kernel) rfl rfl trivial ?_
    refine lp_v_measure_3_120 z d (mrow M 11 (v_measure_110 (M.1 11) np n1 i2)) Q n1 i2 np hnp hp (by omega) (by omega) ?_
    try simp only [mput, mrow_same, mrow_hit, mrow_miss, mrow_sw, idr_eq, ne_eq, Nat.reduceEqDiff, not_false_eq_true, Nat.reduceLT, reduceCtorEq]
    show G z mX7_measure (d + 2) 0 0 163 [some (.ref 3), some (.int (nI n1)), some (.int (nI i2)), none] [] (mrow M 11 (v_measure_120 (v_measure_110 (M.1 11) np n1 i2) n1 i2 np)) Q
    refine G.sl [(.iinc 2 1, 3, 2, 0, 0, nI 1), (.goto (-56), 3, 110, 0, 0, 0)] [] (pc2 := 110) (ls2 := [some (.ref 3), some (.int (nI n1)), some (.int ((nI i2) + nI 1)), none]) (st2 := []) (M2 := mrow M 11 (v_measure_120 (v_measure_110 (M.1 11) np n1 i2) n1 i2 np)) (Ps := []) (by decide +kernel) rfl rfl trivial ?_
    rw [nI_add i2 1]
    simp only [v_measure_110] at ih
    exact ih
set_option maxHeartbeats 4000000 in
set_option maxRecDepth 3000 in
theorem lp_v_measure_3_100 (z : Zp) (d : Nat) (M : Mem) (Q : Rs → Prop) (np : Nat) (hnp : np ≤ 8) (hp : M.1 3 0 = nI np) (hX : G z mX7_measure (d + 2) 0 0 175 [none, none, none, none] [] (mrow M 11 (v_measure_100 (M.1 11) np np)) Q) : G z mX7_measure (d + 2) 0 0 100 [some (.ref 3), some (.int (nI 0)), none, none] [] M Q := by
  refine G.mem (M' := mrow M 11 (M.1 11)) (by simp only [mrow_self]) ?_
  refine down (n := np) (P := fun i1 => G z mX7_measure (d + 2) 0 0 100 [some (.ref 3), some (.int (nI i1)), none, none] [] (mrow M 11 (v_measure_100 (M.1 11) np i1)) Q) ?_ ?_ 0 (Nat.zero_le _)
  · skip
    refine G.sl [(.iload_n 1, 1, 1, 0, 0, 0), (.aload_n 0, 1, 0, 0, 0, 0), (.getfield 36, 3, 6, 0, 14, 0)] [] (pc2 := 105) (ls2 := [some (.ref 3), some (.int (nI np)), none, none]) (st2 := [.int (M.1 3 0), .int (nI np)]) (M2 := mrow M 11 (v_measure_100 (M.1 11) np np)) (Ps := []) (by decide +kernel) rfl rfl trivial ?_
    rw [hp]
    refine G.ic_ge (off := (70)) (tgt := 175) (by decide +kernel) rfl (fun _ => ?_) (fun h9 => absurd (nI_le (by omega) (by omega)) h9)
    refine G.loc (ls2 := [none, none, none, none]) (by simp [subL]) ?_
    exact hX
  · skip
    intro i1 hi ih
    show G z mX7_measure (d + 2) 0 0 100 [some (.ref 3), some (.int (nI i1)), none, none] [] (mrow M 11 (v_measure_100 (M.1 11) np i1)) Q
    refine G.sl [(.iload_n 1, 1, 1, 0, 0, 0), (.aload_n 0, 1, 0, 0, 0, 0), (.getfield 36, 3, 6, 0, 14, 0)] [] (pc2 := 105) (ls2 := [some (.ref 3), some (.int (nI i1)), none, none]) (st2 := [.int (M.1 3 0), .int (nI i1)]) (M2 := mrow M 11 (v_measure_100 (M.1 11) np i1)) (Ps := []) (by decide +kernel) rfl rfl trivial ?_
    rw [hp]
    refine G.ic_ge (off := (70)) (tgt := 175) (by decide +kernel) rfl (fun h9 => absurd h9 (nI_ge (by omega) (by omega))) (fun _ => ?_)
    refine G.sl [(.iconst 0, 1, 0, 0, 0, nI 0), (.istore_n 2, 1, 2, 0, 0, 0)] [] (pc2 := 110) (ls2 := [some (.ref 3), some (.int (nI i1)), some (.int (nI 0)), none]) (st2 := []) (M2 := mrow M 11 (v_measure_100 (M.1 11) np i1)) (Ps := []) (by decide +kernel) rfl rfl trivial ?_
    refine lp_v_measure_3_110 z d (mrow M 11 (v_measure_100 (M.1 11) np i1)) Q i1 np hnp hp (by omega) ?_
    try simp only [mput, mrow_same, mrow_hit, mrow_miss, mrow_sw, idr_eq, ne_eq, Nat.reduceEqDiff, not_false_eq_true, Nat.reduceLT, reduceCtorEq]
    show G z mX7_measure (d + 2) 0 0 169 [some (.ref 3), some (.int (nI i1)), none, none] [] (mrow M 11 (v_measure_110 (v_measure_100 (M.1 11) np i1) np i1 np)) Q
    refine G.sl [(.iinc 1 1, 3, 1, 0, 0, nI 1), (.goto (-72), 3, 100, 0, 0, 0)] [] (pc2 := 100) (ls2 := [some (.ref 3), some (.int ((nI i1) + nI 1)), none, none]) (st2 := []) (M2 := mrow M 11 (v_measure_110 (v_measure_100 (M.1 11) np i1) np i1 np)) (Ps := []) (by decide +kernel) rfl rfl trivial ?_
    rw [nI_add i1 1]
    simp only [v_measure_100] at ih
    exact ih
set_option maxHeartbeats 4000000 in
set_option maxRecDepth 3000 in
theorem c_v_measure_3 (z : Zp) (d : Nat) (M : Mem) (np : Nat) (hnp : np ≤ 8) (hp : M.1 3 0 = nI np) (nr : Nat) (hnr : nr ≤ 12) (hr : M.1 3 1 = nI nr) (hk : v_measure_ok (M.1 4) (M.1 5) (M.1 6) (M.1 11) np nr) : GM z mX7_measure (d + 2) [.ref 3] M (fun rs => rs = .inl (none, mrow M 11 ((v_measure (M.1 4) (M.1 5) (M.1 6) (M.1 11) np nr).2))) := by
  simp only [v_measure_ok] at hk
  refine GM.of oX7_measure.1 (Nat.le_of_ble_eq_true rfl) ?_
  show G z mX7_measure (d + 2) 0 0 0 [some (.ref 3), none, none, none] [] M _
  obtain ⟨Q, hQ⟩ : ∃ Q : Rs → Prop, Q = (fun rs => rs = .inl (none, mrow M 11 ((v_measure (M.1 4) (M.1 5) (M.1 6) (M.1 11) np nr).2))) := ⟨_, rfl⟩
  rw [← hQ]
  refine G.sl [(.aload_n 0, 1, 0, 0, 0, 0), (.getfield 33, 3, 6, 11, 52, 0), (.sipush 1000, 3, 0, 0, 0, nI 1000)] [] (pc2 := 7) (ls2 := [some (.ref 3), none, none, none]) (st2 := [.int (nI 1000), .ref 11]) (M2 := M) (Ps := []) (by decide +kernel) rfl rfl trivial ?_
  obtain ⟨k1, hk⟩ := hk
  rcases g2 : J7_fill_53178_L64 (M.1 11) (nI 1000) with ⟨u3, r4⟩
  try simp only [g2] at hk
  have t5 : GM z mJ7_fill_53178 (d + 1) [.ref 11, .int (nI 1000)] M (fun rs => rs = .inl (none, mrow M 11 r4)) := by
    have q9 := c_J7_fill_53178_L64_11 z (d + 1) M (nI 1000)
    try simp only [mput, mrow_same, mrow_hit, mrow_miss, mrow_sw, idr_eq, ne_eq, Nat.reduceEqDiff, not_false_eq_true, Nat.reduceLT, reduceCtorEq, g2] at q9
    exact q9
  refine G.callS (as := [.ref 11, .int (nI 1000)]) (rest := []) oJ7_fill_53178 lk_EvenFinders_Town_111 (by decide +kernel) rfl (Nat.le_of_ble_eq_true rfl) rfl ⟨Nat.le_of_ble_eq_true rfl, Nat.le_of_ble_eq_true rfl⟩ t5 (fun v9 N9 h6 => ?_) (fun E9 N9 h6 => by cases h6)
  cases h6
  show G z mX7_measure (d + 2) 0 0 10 [some (.ref 3), none, none, none] [] (mrow M 11 r4) Q
  refine G.sl [(.iconst 0, 1, 0, 0, 0, nI 0), (.istore_n 1, 1, 1, 0, 0, 0)] [] (pc2 := 12) (ls2 := [some (.ref 3), some (.int (nI 0)), none, none]) (st2 := []) (M2 := mrow M 11 r4) (Ps := []) (by decide +kernel) rfl rfl trivial ?_
  obtain ⟨k7, hk⟩ := hk
  refine lp_v_measure_3_12 z d (mrow M 11 r4) Q np hnp hp ?_
  try simp only [mput, mrow_same, mrow_hit, mrow_miss, mrow_sw, idr_eq, ne_eq, Nat.reduceEqDiff, not_false_eq_true, Nat.reduceLT, reduceCtorEq]
  show G z mX7_measure (d + 2) 0 0 38 [some (.ref 3), none, none, none] [] (mrow M 11 (v_measure_12 r4 np)) Q
  refine G.sl [(.iconst 0, 1, 0, 0, 0, nI 0), (.istore_n 1, 1, 1, 0, 0, 0)] [] (pc2 := 40) (ls2 := [some (.ref 3), some (.int (nI 0)), none, none]) (st2 := []) (M2 := mrow M 11 (v_measure_12 r4 np)) (Ps := []) (by decide +kernel) rfl rfl trivial ?_
  obtain ⟨k24, hk⟩ := hk
  refine lp_v_measure_3_40 z d (mrow M 11 (v_measure_12 r4 np)) Q nr hnr hr (by first | (simp only [mput, mrow_same, mrow_hit, mrow_miss, mrow_sw, idr_eq, ne_eq, Nat.reduceEqDiff, not_false_eq_true, Nat.reduceLT, reduceCtorEq]; exact k24) | exact k24) ?_
  try simp only [mput, mrow_same, mrow_hit, mrow_miss, mrow_sw, idr_eq, ne_eq, Nat.reduceEqDiff, not_false_eq_true, Nat.reduceLT, reduceCtorEq]
  show G z mX7_measure (d + 2) 0 0 98 [some (.ref 3), none, none, none] [] (mrow M 11 (v_measure_40 (M.1 4) (M.1 5) (M.1 6) (v_measure_12 r4 np) nr)) Q
  refine G.sl [(.iconst 0, 1, 0, 0, 0, nI 0), (.istore_n 1, 1, 1, 0, 0, 0)] [] (pc2 := 100) (ls2 := [some (.ref 3), some (.int (nI 0)), none, none]) (st2 := []) (M2 := mrow M 11 (v_measure_40 (M.1 4) (M.1 5) (M.1 6) (v_measure_12 r4 np) nr)) (Ps := []) (by decide +kernel) rfl rfl trivial ?_
  refine lp_v_measure_3_100 z d (mrow M 11 (v_measure_40 (M.1 4) (M.1 5) (M.1 6) (v_measure_12 r4 np) nr)) Q np hnp hp ?_
  try simp only [mput, mrow_same, mrow_hit, mrow_miss, mrow_sw, idr_eq, ne_eq, Nat.reduceEqDiff, not_false_eq_true, Nat.reduceLT, reduceCtorEq]
  show G z mX7_measure (d + 2) 0 0 175 [none, none, none, none] [] (mrow M 11 (v_measure_100 (v_measure_40 (M.1 4) (M.1 5) (M.1 6) (v_measure_12 r4 np) nr) np np)) Q
  exact G.retv (by decide +kernel) rfl (Nat.le_of_ble_eq_true rfl) (Nat.le_of_ble_eq_true rfl) ((by rw [hQ]; simp only [v_measure, g2, mrow_self]))
set_option maxHeartbeats 4000000 in
set_option maxRecDepth 3000 in
theorem c_v_take_3_12 (z : Zp) (d : Nat) (M : Mem) (hk : v_take_ok (M.1 3) (M.1 4) (M.1 5) (M.1 6) (M.1 7) (M.1 8) (M.1 9) (M.1 10) (M.1 11) (M.1 12) (M.1 13) (M.1 14) (M.1 15) (M.1 16) (M.1 17) (M.1 18) (M.1 19)) : GM z mX7_take (d + 3) [.ref 3, .ref 12] M (fun rs => rs = .inl (none, mrow (mrow (mrow (mrow (mrow (mrow (mrow (mrow (mrow M 3 ((v_take (M.1 3) (M.1 4) (M.1 5) (M.1 6) (M.1 7) (M.1 8) (M.1 9) (M.1 10) (M.1 11) (M.1 12) (M.1 13) (M.1 14) (M.1 15) (M.1 16) (M.1 17) (M.1 18) (M.1 19)).2.1)) 4 ((v_take (M.1 3) (M.1 4) (M.1 5) (M.1 6) (M.1 7) (M.1 8) (M.1 9) (M.1 10) (M.1 11) (M.1 12) (M.1 13) (M.1 14) (M.1 15) (M.1 16) (M.1 17) (M.1 18) (M.1 19)).2.2.1)) 5 ((v_take (M.1 3) (M.1 4) (M.1 5) (M.1 6) (M.1 7) (M.1 8) (M.1 9) (M.1 10) (M.1 11) (M.1 12) (M.1 13) (M.1 14) (M.1 15) (M.1 16) (M.1 17) (M.1 18) (M.1 19)).2.2.2.1)) 6 ((v_take (M.1 3) (M.1 4) (M.1 5) (M.1 6) (M.1 7) (M.1 8) (M.1 9) (M.1 10) (M.1 11) (M.1 12) (M.1 13) (M.1 14) (M.1 15) (M.1 16) (M.1 17) (M.1 18) (M.1 19)).2.2.2.2.1)) 7 ((v_take (M.1 3) (M.1 4) (M.1 5) (M.1 6) (M.1 7) (M.1 8) (M.1 9) (M.1 10) (M.1 11) (M.1 12) (M.1 13) (M.1 14) (M.1 15) (M.1 16) (M.1 17) (M.1 18) (M.1 19)).2.2.2.2.2.1)) 8 ((v_take (M.1 3) (M.1 4) (M.1 5) (M.1 6) (M.1 7) (M.1 8) (M.1 9) (M.1 10) (M.1 11) (M.1 12) (M.1 13) (M.1 14) (M.1 15) (M.1 16) (M.1 17) (M.1 18) (M.1 19)).2.2.2.2.2.2.1)) 9 ((v_take (M.1 3) (M.1 4) (M.1 5) (M.1 6) (M.1 7) (M.1 8) (M.1 9) (M.1 10) (M.1 11) (M.1 12) (M.1 13) (M.1 14) (M.1 15) (M.1 16) (M.1 17) (M.1 18) (M.1 19)).2.2.2.2.2.2.2.1)) 10 ((v_take (M.1 3) (M.1 4) (M.1 5) (M.1 6) (M.1 7) (M.1 8) (M.1 9) (M.1 10) (M.1 11) (M.1 12) (M.1 13) (M.1 14) (M.1 15) (M.1 16) (M.1 17) (M.1 18) (M.1 19)).2.2.2.2.2.2.2.2.1)) 11 ((v_take (M.1 3) (M.1 4) (M.1 5) (M.1 6) (M.1 7) (M.1 8) (M.1 9) (M.1 10) (M.1 11) (M.1 12) (M.1 13) (M.1 14) (M.1 15) (M.1 16) (M.1 17) (M.1 18) (M.1 19)).2.2.2.2.2.2.2.2.2))) := by
  simp only [v_take_ok] at hk
  refine GM.of oX7_take.1 (Nat.le_of_ble_eq_true rfl) ?_
  show G z mX7_take (d + 3) 0 0 0 [some (.ref 3), some (.ref 12)] [] M _
  obtain ⟨Q, hQ⟩ : ∃ Q : Rs → Prop, Q = (fun rs => rs = .inl (none, mrow (mrow (mrow (mrow (mrow (mrow (mrow (mrow (mrow M 3 ((v_take (M.1 3) (M.1 4) (M.1 5) (M.1 6) (M.1 7) (M.1 8) (M.1 9) (M.1 10) (M.1 11) (M.1 12) (M.1 13) (M.1 14) (M.1 15) (M.1 16) (M.1 17) (M.1 18) (M.1 19)).2.1)) 4 ((v_take (M.1 3) (M.1 4) (M.1 5) (M.1 6) (M.1 7) (M.1 8) (M.1 9) (M.1 10) (M.1 11) (M.1 12) (M.1 13) (M.1 14) (M.1 15) (M.1 16) (M.1 17) (M.1 18) (M.1 19)).2.2.1)) 5 ((v_take (M.1 3) (M.1 4) (M.1 5) (M.1 6) (M.1 7) (M.1 8) (M.1 9) (M.1 10) (M.1 11) (M.1 12) (M.1 13) (M.1 14) (M.1 15) (M.1 16) (M.1 17) (M.1 18) (M.1 19)).2.2.2.1)) 6 ((v_take (M.1 3) (M.1 4) (M.1 5) (M.1 6) (M.1 7) (M.1 8) (M.1 9) (M.1 10) (M.1 11) (M.1 12) (M.1 13) (M.1 14) (M.1 15) (M.1 16) (M.1 17) (M.1 18) (M.1 19)).2.2.2.2.1)) 7 ((v_take (M.1 3) (M.1 4) (M.1 5) (M.1 6) (M.1 7) (M.1 8) (M.1 9) (M.1 10) (M.1 11) (M.1 12) (M.1 13) (M.1 14) (M.1 15) (M.1 16) (M.1 17) (M.1 18) (M.1 19)).2.2.2.2.2.1)) 8 ((v_take (M.1 3) (M.1 4) (M.1 5) (M.1 6) (M.1 7) (M.1 8) (M.1 9) (M.1 10) (M.1 11) (M.1 12) (M.1 13) (M.1 14) (M.1 15) (M.1 16) (M.1 17) (M.1 18) (M.1 19)).2.2.2.2.2.2.1)) 9 ((v_take (M.1 3) (M.1 4) (M.1 5) (M.1 6) (M.1 7) (M.1 8) (M.1 9) (M.1 10) (M.1 11) (M.1 12) (M.1 13) (M.1 14) (M.1 15) (M.1 16) (M.1 17) (M.1 18) (M.1 19)).2.2.2.2.2.2.2.1)) 10 ((v_take (M.1 3) (M.1 4) (M.1 5) (M.1 6) (M.1 7) (M.1 8) (M.1 9) (M.1 10) (M.1 11) (M.1 12) (M.1 13) (M.1 14) (M.1 15) (M.1 16) (M.1 17) (M.1 18) (M.1 19)).2.2.2.2.2.2.2.2.1)) 11 ((v_take (M.1 3) (M.1 4) (M.1 5) (M.1 6) (M.1 7) (M.1 8) (M.1 9) (M.1 10) (M.1 11) (M.1 12) (M.1 13) (M.1 14) (M.1 15) (M.1 16) (M.1 17) (M.1 18) (M.1 19)).2.2.2.2.2.2.2.2.2))) := ⟨_, rfl⟩
  rw [← hQ]
  refine G.sl [(.aload_n 0, 1, 0, 0, 0, 0), (.aload_n 1, 1, 1, 0, 0, 0), (.getfield 36, 3, 6, 0, 14, 0), (.putfield 36, 3, 6, 0, 14, 0), (.aload_n 0, 1, 0, 0, 0, 0), (.aload_n 1, 1, 1, 0, 0, 0), (.getfield 40, 3, 6, 1, 18, 0), (.putfield 40, 3, 6, 1, 18, 0), (.aload_n 0, 1, 0, 0, 0, 0), (.aload_n 1, 1, 1, 0, 0, 0), (.getfield 43, 3, 6, 2, 22, 0), (.putfield 43, 3, 6, 2, 22, 0), (.aload_n 0, 1, 0, 0, 0, 0), (.aload_n 1, 1, 1, 0, 0, 0), (.getfield 46, 3, 6, 3, 30, 0), (.putfield 46, 3, 6, 3, 30, 0), (.aload_n 1, 1, 1, 0, 0, 0), (.getfield 9, 3, 6, 4, 35, 0), (.iconst 0, 1, 0, 0, 0, nI 0), (.aload_n 0, 1, 0, 0, 0, 0), (.getfield 9, 3, 6, 4, 35, 0), (.iconst 0, 1, 0, 0, 0, nI 0), (.bipush 12, 2, 0, 0, 0, nI 12)] [] (pc2 := 44) (ls2 := [some (.ref 3), some (.ref 12)]) (st2 := [.int (nI 12), .int (nI 0), .ref 4, .int (nI 0), .ref 13]) (M2 := mput (mput (mput (mput M 3 0 (M.1 12 0)) 3 1 (M.1 12 1)) 3 2 (M.1 12 2)) 3 3 (M.1 12 3)) (Ps := []) (by decide +kernel) rfl rfl trivial ?_
  refine G.mem (M' := mrow M 3 (upd (upd (upd (upd (M.1 3) 0 (M.1 12 0)) 1 (M.1 12 1)) 2 (M.1 12 2)) 3 (M.1 12 3))) (by first | rfl | (simp only [mput, mrow_same, mrow_hit, mrow_miss, mrow_sw, idr_eq, ne_eq, Nat.reduceEqDiff, not_false_eq_true, Nat.reduceLT, reduceCtorEq]; done)) ?_
  refine G.copy (s0 := 0) (p0 := 0) (n := 12) la_EvenFinders_Town_49 (by decide +kernel) rfl rfl rfl rfl rfl (by omega) (by omega) (Nat.le_of_ble_eq_true rfl) ?_
  refine G.mem (M' := mrow (mrow M 3 (upd (upd (upd (upd (M.1 3) 0 (M.1 12 0)) 1 (M.1 12 1)) 2 (M.1 12 2)) 3 (M.1 12 3))) 4 (va_cpy (M.1 13) (M.1 4) 0 0 12)) (by first | rfl | (simp only [mput, mrow_same, mrow_hit, mrow_miss, mrow_sw, idr_eq, ne_eq, Nat.reduceEqDiff, not_false_eq_true, Nat.reduceLT, reduceCtorEq]; done)) ?_
  refine G.sl [(.aload_n 1, 1, 1, 0, 0, 0), (.getfield 15, 3, 6, 5, 37, 0), (.iconst 0, 1, 0, 0, 0, nI 0), (.aload_n 0, 1, 0, 0, 0, 0), (.getfield 15, 3, 6, 5, 37, 0), (.iconst 0, 1, 0, 0, 0, nI 0), (.bipush 12, 2, 0, 0, 0, nI 12)] [] (pc2 := 59) (ls2 := [some (.ref 3), some (.ref 12)]) (st2 := [.int (nI 12), .int (nI 0), .ref 5, .int (nI 0), .ref 14]) (M2 := mrow (mrow M 3 (upd (upd (upd (upd (M.1 3) 0 (M.1 12 0)) 1 (M.1 12 1)) 2 (M.1 12 2)) 3 (M.1 12 3))) 4 (va_cpy (M.1 13) (M.1 4) 0 0 12)) (Ps := []) (by decide +kernel) rfl rfl trivial ?_
  refine G.copy (s0 := 0) (p0 := 0) (n := 12) la_EvenFinders_Town_49 (by decide +kernel) rfl rfl rfl rfl rfl (by omega) (by omega) (Nat.le_of_ble_eq_true rfl) ?_
  refine G.mem (M' := mrow (mrow (mrow M 3 (upd (upd (upd (upd (M.1 3) 0 (M.1 12 0)) 1 (M.1 12 1)) 2 (M.1 12 2)) 3 (M.1 12 3))) 4 (va_cpy (M.1 13) (M.1 4) 0 0 12)) 5 (va_cpy (M.1 14) (M.1 5) 0 0 12)) (by first | rfl | (simp only [mput, mrow_same, mrow_hit, mrow_miss, mrow_sw, idr_eq, ne_eq, Nat.reduceEqDiff, not_false_eq_true, Nat.reduceLT, reduceCtorEq]; done)) ?_
  refine G.sl [(.aload_n 1, 1, 1, 0, 0, 0), (.getfield 18, 3, 6, 6, 39, 0), (.iconst 0, 1, 0, 0, 0, nI 0), (.aload_n 0, 1, 0, 0, 0, 0), (.getfield 18, 3, 6, 6, 39, 0), (.iconst 0, 1, 0, 0, 0, nI 0), (.bipush 12, 2, 0, 0, 0, nI 12)] [] (pc2 := 74) (ls2 := [some (.ref 3), some (.ref 12)]) (st2 := [.int (nI 12), .int (nI 0), .ref 6, .int (nI 0), .ref 15]) (M2 := mrow (mrow (mrow M 3 (upd (upd (upd (upd (M.1 3) 0 (M.1 12 0)) 1 (M.1 12 1)) 2 (M.1 12 2)) 3 (M.1 12 3))) 4 (va_cpy (M.1 13) (M.1 4) 0 0 12)) 5 (va_cpy (M.1 14) (M.1 5) 0 0 12)) (Ps := []) (by decide +kernel) rfl rfl trivial ?_
  refine G.copy (s0 := 0) (p0 := 0) (n := 12) la_EvenFinders_Town_49 (by decide +kernel) rfl rfl rfl rfl rfl (by omega) (by omega) (Nat.le_of_ble_eq_true rfl) ?_
  refine G.mem (M' := mrow (mrow (mrow (mrow M 3 (upd (upd (upd (upd (M.1 3) 0 (M.1 12 0)) 1 (M.1 12 1)) 2 (M.1 12 2)) 3 (M.1 12 3))) 4 (va_cpy (M.1 13) (M.1 4) 0 0 12)) 5 (va_cpy (M.1 14) (M.1 5) 0 0 12)) 6 (va_cpy (M.1 15) (M.1 6) 0 0 12)) (by first | rfl | (simp only [mput, mrow_same, mrow_hit, mrow_miss, mrow_sw, idr_eq, ne_eq, Nat.reduceEqDiff, not_false_eq_true, Nat.reduceLT, reduceCtorEq]; done)) ?_
  refine G.sl [(.aload_n 1, 1, 1, 0, 0, 0), (.getfield 21, 3, 6, 7, 42, 0), (.iconst 0, 1, 0, 0, 0, nI 0), (.aload_n 0, 1, 0, 0, 0, 0), (.getfield 21, 3, 6, 7, 42, 0), (.iconst 0, 1, 0, 0, 0, nI 0), (.bipush 10, 2, 0, 0, 0, nI 10)] [] (pc2 := 89) (ls2 := [some (.ref 3), some (.ref 12)]) (st2 := [.int (nI 10), .int (nI 0), .ref 7, .int (nI 0), .ref 16]) (M2 := mrow (mrow (mrow (mrow M 3 (upd (upd (upd (upd (M.1 3) 0 (M.1 12 0)) 1 (M.1 12 1)) 2 (M.1 12 2)) 3 (M.1 12 3))) 4 (va_cpy (M.1 13) (M.1 4) 0 0 12)) 5 (va_cpy (M.1 14) (M.1 5) 0 0 12)) 6 (va_cpy (M.1 15) (M.1 6) 0 0 12)) (Ps := []) (by decide +kernel) rfl rfl trivial ?_
  refine G.copy (s0 := 0) (p0 := 0) (n := 10) la_EvenFinders_Town_49 (by decide +kernel) rfl rfl rfl rfl rfl (by omega) (by omega) (Nat.le_of_ble_eq_true rfl) ?_
  refine G.mem (M' := mrow (mrow (mrow (mrow (mrow M 3 (upd (upd (upd (upd (M.1 3) 0 (M.1 12 0)) 1 (M.1 12 1)) 2 (M.1 12 2)) 3 (M.1 12 3))) 4 (va_cpy (M.1 13) (M.1 4) 0 0 12)) 5 (va_cpy (M.1 14) (M.1 5) 0 0 12)) 6 (va_cpy (M.1 15) (M.1 6) 0 0 12)) 7 (va_cpy (M.1 16) (M.1 7) 0 0 10)) (by first | rfl | (simp only [mput, mrow_same, mrow_hit, mrow_miss, mrow_sw, idr_eq, ne_eq, Nat.reduceEqDiff, not_false_eq_true, Nat.reduceLT, reduceCtorEq]; done)) ?_
  refine G.sl [(.aload_n 1, 1, 1, 0, 0, 0), (.getfield 24, 3, 6, 8, 46, 0), (.iconst 0, 1, 0, 0, 0, nI 0), (.aload_n 0, 1, 0, 0, 0, 0), (.getfield 24, 3, 6, 8, 46, 0), (.iconst 0, 1, 0, 0, 0, nI 0), (.bipush 10, 2, 0, 0, 0, nI 10)] [] (pc2 := 104) (ls2 := [some (.ref 3), some (.ref 12)]) (st2 := [.int (nI 10), .int (nI 0), .ref 8, .int (nI 0), .ref 17]) (M2 := mrow (mrow (mrow (mrow (mrow M 3 (upd (upd (upd (upd (M.1 3) 0 (M.1 12 0)) 1 (M.1 12 1)) 2 (M.1 12 2)) 3 (M.1 12 3))) 4 (va_cpy (M.1 13) (M.1 4) 0 0 12)) 5 (va_cpy (M.1 14) (M.1 5) 0 0 12)) 6 (va_cpy (M.1 15) (M.1 6) 0 0 12)) 7 (va_cpy (M.1 16) (M.1 7) 0 0 10)) (Ps := []) (by decide +kernel) rfl rfl trivial ?_
  refine G.copy (s0 := 0) (p0 := 0) (n := 10) la_EvenFinders_Town_49 (by decide +kernel) rfl rfl rfl rfl rfl (by omega) (by omega) (Nat.le_of_ble_eq_true rfl) ?_
  refine G.mem (M' := mrow (mrow (mrow (mrow (mrow (mrow M 3 (upd (upd (upd (upd (M.1 3) 0 (M.1 12 0)) 1 (M.1 12 1)) 2 (M.1 12 2)) 3 (M.1 12 3))) 4 (va_cpy (M.1 13) (M.1 4) 0 0 12)) 5 (va_cpy (M.1 14) (M.1 5) 0 0 12)) 6 (va_cpy (M.1 15) (M.1 6) 0 0 12)) 7 (va_cpy (M.1 16) (M.1 7) 0 0 10)) 8 (va_cpy (M.1 17) (M.1 8) 0 0 10)) (by first | rfl | (simp only [mput, mrow_same, mrow_hit, mrow_miss, mrow_sw, idr_eq, ne_eq, Nat.reduceEqDiff, not_false_eq_true, Nat.reduceLT, reduceCtorEq]; done)) ?_
  refine G.sl [(.aload_n 1, 1, 1, 0, 0, 0), (.getfield 27, 3, 6, 9, 48, 0), (.iconst 0, 1, 0, 0, 0, nI 0), (.aload_n 0, 1, 0, 0, 0, 0), (.getfield 27, 3, 6, 9, 48, 0), (.iconst 0, 1, 0, 0, 0, nI 0), (.bipush 10, 2, 0, 0, 0, nI 10)] [] (pc2 := 119) (ls2 := [some (.ref 3), some (.ref 12)]) (st2 := [.int (nI 10), .int (nI 0), .ref 9, .int (nI 0), .ref 18]) (M2 := mrow (mrow (mrow (mrow (mrow (mrow M 3 (upd (upd (upd (upd (M.1 3) 0 (M.1 12 0)) 1 (M.1 12 1)) 2 (M.1 12 2)) 3 (M.1 12 3))) 4 (va_cpy (M.1 13) (M.1 4) 0 0 12)) 5 (va_cpy (M.1 14) (M.1 5) 0 0 12)) 6 (va_cpy (M.1 15) (M.1 6) 0 0 12)) 7 (va_cpy (M.1 16) (M.1 7) 0 0 10)) 8 (va_cpy (M.1 17) (M.1 8) 0 0 10)) (Ps := []) (by decide +kernel) rfl rfl trivial ?_
  refine G.copy (s0 := 0) (p0 := 0) (n := 10) la_EvenFinders_Town_49 (by decide +kernel) rfl rfl rfl rfl rfl (by omega) (by omega) (Nat.le_of_ble_eq_true rfl) ?_
  refine G.mem (M' := mrow (mrow (mrow (mrow (mrow (mrow (mrow M 3 (upd (upd (upd (upd (M.1 3) 0 (M.1 12 0)) 1 (M.1 12 1)) 2 (M.1 12 2)) 3 (M.1 12 3))) 4 (va_cpy (M.1 13) (M.1 4) 0 0 12)) 5 (va_cpy (M.1 14) (M.1 5) 0 0 12)) 6 (va_cpy (M.1 15) (M.1 6) 0 0 12)) 7 (va_cpy (M.1 16) (M.1 7) 0 0 10)) 8 (va_cpy (M.1 17) (M.1 8) 0 0 10)) 9 (va_cpy (M.1 18) (M.1 9) 0 0 10)) (by first | rfl | (simp only [mput, mrow_same, mrow_hit, mrow_miss, mrow_sw, idr_eq, ne_eq, Nat.reduceEqDiff, not_false_eq_true, Nat.reduceLT, reduceCtorEq]; done)) ?_
  refine G.sl [(.aload_n 1, 1, 1, 0, 0, 0), (.getfield 30, 3, 6, 10, 50, 0), (.iconst 0, 1, 0, 0, 0, nI 0), (.aload_n 0, 1, 0, 0, 0, 0), (.getfield 30, 3, 6, 10, 50, 0), (.iconst 0, 1, 0, 0, 0, nI 0), (.bipush 6, 2, 0, 0, 0, nI 6)] [] (pc2 := 134) (ls2 := [some (.ref 3), some (.ref 12)]) (st2 := [.int (nI 6), .int (nI 0), .ref 10, .int (nI 0), .ref 19]) (M2 := mrow (mrow (mrow (mrow (mrow (mrow (mrow M 3 (upd (upd (upd (upd (M.1 3) 0 (M.1 12 0)) 1 (M.1 12 1)) 2 (M.1 12 2)) 3 (M.1 12 3))) 4 (va_cpy (M.1 13) (M.1 4) 0 0 12)) 5 (va_cpy (M.1 14) (M.1 5) 0 0 12)) 6 (va_cpy (M.1 15) (M.1 6) 0 0 12)) 7 (va_cpy (M.1 16) (M.1 7) 0 0 10)) 8 (va_cpy (M.1 17) (M.1 8) 0 0 10)) 9 (va_cpy (M.1 18) (M.1 9) 0 0 10)) (Ps := []) (by decide +kernel) rfl rfl trivial ?_
  refine G.copy (s0 := 0) (p0 := 0) (n := 6) la_EvenFinders_Town_49 (by decide +kernel) rfl rfl rfl rfl rfl (by omega) (by omega) (Nat.le_of_ble_eq_true rfl) ?_
  refine G.mem (M' := mrow (mrow (mrow (mrow (mrow (mrow (mrow (mrow M 3 (upd (upd (upd (upd (M.1 3) 0 (M.1 12 0)) 1 (M.1 12 1)) 2 (M.1 12 2)) 3 (M.1 12 3))) 4 (va_cpy (M.1 13) (M.1 4) 0 0 12)) 5 (va_cpy (M.1 14) (M.1 5) 0 0 12)) 6 (va_cpy (M.1 15) (M.1 6) 0 0 12)) 7 (va_cpy (M.1 16) (M.1 7) 0 0 10)) 8 (va_cpy (M.1 17) (M.1 8) 0 0 10)) 9 (va_cpy (M.1 18) (M.1 9) 0 0 10)) 10 (va_cpy (M.1 19) (M.1 10) 0 0 6)) (by first | rfl | (simp only [mput, mrow_same, mrow_hit, mrow_miss, mrow_sw, idr_eq, ne_eq, Nat.reduceEqDiff, not_false_eq_true, Nat.reduceLT, reduceCtorEq]; done)) ?_
  refine G.sl [(.aload_n 0, 1, 0, 0, 0, 0)] [] (pc2 := 138) (ls2 := [some (.ref 3), some (.ref 12)]) (st2 := [.ref 3]) (M2 := mrow (mrow (mrow (mrow (mrow (mrow (mrow (mrow M 3 (upd (upd (upd (upd (M.1 3) 0 (M.1 12 0)) 1 (M.1 12 1)) 2 (M.1 12 2)) 3 (M.1 12 3))) 4 (va_cpy (M.1 13) (M.1 4) 0 0 12)) 5 (va_cpy (M.1 14) (M.1 5) 0 0 12)) 6 (va_cpy (M.1 15) (M.1 6) 0 0 12)) 7 (va_cpy (M.1 16) (M.1 7) 0 0 10)) 8 (va_cpy (M.1 17) (M.1 8) 0 0 10)) 9 (va_cpy (M.1 18) (M.1 9) 0 0 10)) 10 (va_cpy (M.1 19) (M.1 10) 0 0 6)) (Ps := []) (by decide +kernel) rfl rfl trivial ?_
  obtain ⟨k1, k2, k3, k4, hk⟩ := hk
  obtain ⟨k5, hk⟩ := hk
  rcases g6 : v_measure (va_cpy (M.1 13) (M.1 4) 0 0 12) (va_cpy (M.1 14) (M.1 5) 0 0 12) (va_cpy (M.1 15) (M.1 6) 0 0 12) (M.1 11) (ix (M.1 12 0)) (ix (M.1 12 1)) with ⟨u7, r8⟩
  have t9 : GM z mX7_measure (d + 2) [.ref 3] (mrow (mrow (mrow (mrow (mrow (mrow (mrow (mrow M 3 (upd (upd (upd (upd (M.1 3) 0 (M.1 12 0)) 1 (M.1 12 1)) 2 (M.1 12 2)) 3 (M.1 12 3))) 4 (va_cpy (M.1 13) (M.1 4) 0 0 12)) 5 (va_cpy (M.1 14) (M.1 5) 0 0 12)) 6 (va_cpy (M.1 15) (M.1 6) 0 0 12)) 7 (va_cpy (M.1 16) (M.1 7) 0 0 10)) 8 (va_cpy (M.1 17) (M.1 8) 0 0 10)) 9 (va_cpy (M.1 18) (M.1 9) 0 0 10)) 10 (va_cpy (M.1 19) (M.1 10) 0 0 6)) (fun rs => rs = .inl (none, mrow (mrow (mrow (mrow (mrow (mrow (mrow (mrow (mrow M 3 (upd (upd (upd (upd (M.1 3) 0 (M.1 12 0)) 1 (M.1 12 1)) 2 (M.1 12 2)) 3 (M.1 12 3))) 4 (va_cpy (M.1 13) (M.1 4) 0 0 12)) 5 (va_cpy (M.1 14) (M.1 5) 0 0 12)) 6 (va_cpy (M.1 15) (M.1 6) 0 0 12)) 7 (va_cpy (M.1 16) (M.1 7) 0 0 10)) 8 (va_cpy (M.1 17) (M.1 8) 0 0 10)) 9 (va_cpy (M.1 18) (M.1 9) 0 0 10)) 10 (va_cpy (M.1 19) (M.1 10) 0 0 6)) 11 r8)) := by
    have q9 := c_v_measure_3 z d (mrow (mrow (mrow (mrow (mrow (mrow (mrow (mrow M 3 (upd (upd (upd (upd (M.1 3) 0 (M.1 12 0)) 1 (M.1 12 1)) 2 (M.1 12 2)) 3 (M.1 12 3))) 4 (va_cpy (M.1 13) (M.1 4) 0 0 12)) 5 (va_cpy (M.1 14) (M.1 5) 0 0 12)) 6 (va_cpy (M.1 15) (M.1 6) 0 0 12)) 7 (va_cpy (M.1 16) (M.1 7) 0 0 10)) 8 (va_cpy (M.1 17) (M.1 8) 0 0 10)) 9 (va_cpy (M.1 18) (M.1 9) 0 0 10)) 10 (va_cpy (M.1 19) (M.1 10) 0 0 6)) (ix (M.1 12 0)) k2 (ixE k1) (ix (M.1 12 1)) k4 (ixE k3) k5
    try simp only [mput, mrow_same, mrow_hit, mrow_miss, mrow_sw, idr_eq, ne_eq, Nat.reduceEqDiff, not_false_eq_true, Nat.reduceLT, reduceCtorEq, g6] at q9
    exact q9
  refine G.callV (as := []) (rest := []) (a := 3) oX7_measure lk_EvenFinders_Town_55 (by decide +kernel) rfl rfl ⟨rfl, rfl⟩ (Nat.le_of_ble_eq_true rfl) rfl ⟨Nat.le_of_ble_eq_true rfl, Nat.le_of_ble_eq_true rfl⟩ t9 (fun v9 N9 h10 => ?_) (fun E9 N9 h10 => by cases h10)
  cases h10
  show G z mX7_take (d + 3) 0 0 141 [some (.ref 3), some (.ref 12)] [] (mrow (mrow (mrow (mrow (mrow (mrow (mrow (mrow (mrow M 3 (upd (upd (upd (upd (M.1 3) 0 (M.1 12 0)) 1 (M.1 12 1)) 2 (M.1 12 2)) 3 (M.1 12 3))) 4 (va_cpy (M.1 13) (M.1 4) 0 0 12)) 5 (va_cpy (M.1 14) (M.1 5) 0 0 12)) 6 (va_cpy (M.1 15) (M.1 6) 0 0 12)) 7 (va_cpy (M.1 16) (M.1 7) 0 0 10)) 8 (va_cpy (M.1 17) (M.1 8) 0 0 10)) 9 (va_cpy (M.1 18) (M.1 9) 0 0 10)) 10 (va_cpy (M.1 19) (M.1 10) 0 0 6)) 11 r8) Q
  exact G.retv (by decide +kernel) rfl (Nat.le_of_ble_eq_true rfl) (Nat.le_of_ble_eq_true rfl) ((by rw [hQ]; simp only [v_take, g6, mrow_self]))
set_option maxHeartbeats 4000000 in
set_option maxRecDepth 3000 in
theorem c_l_makePlain_21 (z : Zp) (d : Nat) (M : Mem) : GM z mX3_makePlain (d) [.ref 21] M (fun rs => rs = .inl (none, mrow (mrow M 21 ((l_makePlain (M.1 21) (M.1 23)).2.1)) 23 ((l_makePlain (M.1 21) (M.1 23)).2.2))) := by
  refine GM.of oX3_makePlain.1 (Nat.le_of_ble_eq_true rfl) ?_
  show G z mX3_makePlain (d) 0 0 0 [some (.ref 21)] [] M _
  obtain ⟨Q, hQ⟩ : ∃ Q : Rs → Prop, Q = (fun rs => rs = .inl (none, mrow (mrow M 21 ((l_makePlain (M.1 21) (M.1 23)).2.1)) 23 ((l_makePlain (M.1 21) (M.1 23)).2.2))) := ⟨_, rfl⟩
  rw [← hQ]
  refine G.sl [(.aload_n 0, 1, 0, 0, 0, 0), (.getfield 15, 3, 3, 1, 56, 0), (.iconst 0, 1, 0, 0, 0, nI 0), (.sipush 1000, 3, 0, 0, 0, nI 1000), (.iastore, 1, 0, 0, 0, 0), (.aload_n 0, 1, 0, 0, 0, 0), (.iconst 1, 1, 0, 0, 0, nI 1), (.putfield 21, 3, 3, 3, 58, 0)] [0] (pc2 := 14) (ls2 := [some (.ref 21)]) (st2 := []) (M2 := mput (mput M 23 0 (nI 1000)) 21 3 (nI 1)) (Ps := [(nI 0) = nI 0 ∧ 0 < 150]) (by decide +kernel) rfl rfl ⟨⟨rfl, (by omega)⟩, trivial⟩ ?_
  refine G.mem (M' := mrow (mrow M 21 (upd (M.1 21) 3 (nI 1))) 23 (upd (M.1 23) 0 (nI 1000))) (by first | rfl | (simp only [mput, mrow_same, mrow_hit, mrow_miss, mrow_sw, idr_eq, ne_eq, Nat.reduceEqDiff, not_false_eq_true, Nat.reduceLT, reduceCtorEq]; done)) ?_
  exact G.retv (by decide +kernel) rfl (Nat.le_of_ble_eq_true rfl) (Nat.le_of_ble_eq_true rfl) ((by rw [hQ]; simp only [l_makePlain, mrow_self]))
set_option maxHeartbeats 4000000 in
set_option maxRecDepth 3000 in
theorem c_l_take_21_25 (z : Zp) (d : Nat) (M : Mem) : GM z mX3_take (d + 1) [.ref 21, .ref 25] M (fun rs => rs = .inl (none, mrow (mrow M 21 ((l_take (M.1 21) (M.1 23) (M.1 25) (M.1 27)).2.1)) 23 ((l_take (M.1 21) (M.1 23) (M.1 25) (M.1 27)).2.2))) := by
  refine GM.of oX3_take.1 (Nat.le_of_ble_eq_true rfl) ?_
  show G z mX3_take (d + 1) 0 0 0 [some (.ref 21), some (.ref 25)] [] M _
  obtain ⟨Q, hQ⟩ : ∃ Q : Rs → Prop, Q = (fun rs => rs = .inl (none, mrow (mrow M 21 ((l_take (M.1 21) (M.1 23) (M.1 25) (M.1 27)).2.1)) 23 ((l_take (M.1 21) (M.1 23) (M.1 25) (M.1 27)).2.2))) := ⟨_, rfl⟩
  rw [← hQ]
  refine G.sl [(.aload_n 1, 1, 1, 0, 0, 0), (.getfield 15, 3, 3, 1, 56, 0), (.iconst 0, 1, 0, 0, 0, nI 0), (.aload_n 0, 1, 0, 0, 0, 0), (.getfield 15, 3, 3, 1, 56, 0), (.iconst 0, 1, 0, 0, 0, nI 0), (.sipush 150, 3, 0, 0, 0, nI 150)] [] (pc2 := 13) (ls2 := [some (.ref 21), some (.ref 25)]) (st2 := [.int (nI 150), .int (nI 0), .ref 23, .int (nI 0), .ref 27]) (M2 := M) (Ps := []) (by decide +kernel) rfl rfl trivial ?_
  refine G.copy (s0 := 0) (p0 := 0) (n := 150) la_EvenFinders_Law_25 (by decide +kernel) rfl rfl rfl rfl rfl (by omega) (by omega) (Nat.le_of_ble_eq_true rfl) ?_
  refine G.mem (M' := mrow M 23 (va_cpy (M.1 27) (M.1 23) 0 0 150)) (by first | rfl | (simp only [mput, mrow_same, mrow_hit, mrow_miss, mrow_sw, idr_eq, ne_eq, Nat.reduceEqDiff, not_false_eq_true, Nat.reduceLT, reduceCtorEq]; done)) ?_
  refine G.sl [(.aload_n 0, 1, 0, 0, 0, 0), (.aload_n 1, 1, 1, 0, 0, 0), (.getfield 21, 3, 3, 3, 58, 0), (.putfield 21, 3, 3, 3, 58, 0)] [] (pc2 := 24) (ls2 := [some (.ref 21), some (.ref 25)]) (st2 := []) (M2 := mput (mrow M 23 (va_cpy (M.1 27) (M.1 23) 0 0 150)) 21 3 (M.1 25 3)) (Ps := []) (by decide +kernel) rfl rfl trivial ?_
  refine G.mem (M' := mrow (mrow M 21 (upd (M.1 21) 3 (M.1 25 3))) 23 (va_cpy (M.1 27) (M.1 23) 0 0 150)) (by first | rfl | (simp only [mput, mrow_same, mrow_hit, mrow_miss, mrow_sw, idr_eq, ne_eq, Nat.reduceEqDiff, not_false_eq_true, Nat.reduceLT, reduceCtorEq]; done)) ?_
  exact G.retv (by decide +kernel) rfl (Nat.le_of_ble_eq_true rfl) (Nat.le_of_ble_eq_true rfl) ((by rw [hQ]; simp only [l_take, mrow_self]))
set_option maxHeartbeats 4000000 in
set_option maxRecDepth 3000 in
theorem c_l_put_25 (z : Zp) (d : Nat) (M : Mem) (x1 : Int32) (hk : l_put_ok (M.1 25) (M.1 27) x1) : GM z mX3_put (d) [.ref 25, .int x1] M (fun rs => rs = .inl (none, mrow (mrow M 25 ((l_put (M.1 25) (M.1 27) x1).2.1)) 27 ((l_put (M.1 25) (M.1 27) x1).2.2))) := by
  simp only [l_put_ok] at hk
  refine GM.of oX3_put.1 (Nat.le_of_ble_eq_true rfl) ?_
  show G z mX3_put (d) 0 0 0 [some (.ref 25), some (.int x1)] [] M _
  obtain ⟨Q, hQ⟩ : ∃ Q : Rs → Prop, Q = (fun rs => rs = .inl (none, mrow (mrow M 25 ((l_put (M.1 25) (M.1 27) x1).2.1)) 27 ((l_put (M.1 25) (M.1 27) x1).2.2))) := ⟨_, rfl⟩
  rw [← hQ]
  refine G.sl [(.aload_n 0, 1, 0, 0, 0, 0), (.getfield 21, 3, 3, 3, 58, 0), (.aload_n 0, 1, 0, 0, 0, 0), (.getfield 15, 3, 3, 1, 56, 0), (.arraylength, 1, 0, 0, 0, 0)] [] (pc2 := 9) (ls2 := [some (.ref 25), some (.int x1)]) (st2 := [.int (nI 150), .int (M.1 25 3)]) (M2 := M) (Ps := []) (by decide +kernel) rfl rfl trivial ?_
  refine G.ic_ge (off := (23)) (tgt := 32) (by decide +kernel) rfl (fun c1 => ?_) (fun c1 => ?_)
  · skip
    rw [if_pos c1] at hk
    refine G.mem (M' := mrow (mrow M 25 (M.1 25)) 27 (M.1 27)) ((((mrow_id (N := M) (c := 25) (f := M.1 25) (by first | rfl | (simp only [mput, mrow_same, mrow_hit, mrow_miss, mrow_sw, idr_eq, ne_eq, Nat.reduceEqDiff, not_false_eq_true, Nat.reduceLT, reduceCtorEq]; done))).symm).trans (mrow_id (N := mrow M 25 (M.1 25)) (c := 27) (f := M.1 27) (by first | rfl | (simp only [mput, mrow_same, mrow_hit, mrow_miss, mrow_sw, idr_eq, ne_eq, Nat.reduceEqDiff, not_false_eq_true, Nat.reduceLT, reduceCtorEq]; done))).symm).trans (by first | rfl | (simp only [mput, mrow_same, mrow_hit, mrow_miss, mrow_sw, idr_eq, ne_eq, Nat.reduceEqDiff, not_false_eq_true, Nat.reduceLT, reduceCtorEq]; done))) ?_
    exact G.retv (by decide +kernel) rfl (Nat.le_of_ble_eq_true rfl) (Nat.le_of_ble_eq_true rfl) ((by rw [hQ]; simp only [l_put, if_pos c1, mrow_self]))
  · skip
    rw [if_neg c1] at hk
    obtain ⟨k2, k3, hk⟩ := hk
    refine G.sl [(.aload_n 0, 1, 0, 0, 0, 0), (.getfield 15, 3, 3, 1, 56, 0), (.aload_n 0, 1, 0, 0, 0, 0), (.getfield 21, 3, 3, 3, 58, 0), (.iload_n 1, 1, 1, 0, 0, 0), (.iastore, 1, 0, 0, 0, 0), (.aload_n 0, 1, 0, 0, 0, 0), (.dup, 1, 0, 0, 0, 0), (.getfield 21, 3, 3, 3, 58, 0), (.iconst 1, 1, 0, 0, 0, nI 1), (.iadd, 1, 0, 0, 0, 0), (.putfield 21, 3, 3, 3, 58, 0)] [ix (M.1 25 3)] (pc2 := 32) (ls2 := [some (.ref 25), some (.int x1)]) (st2 := []) (M2 := mput (mput M 27 (ix (M.1 25 3)) x1) 25 3 ((M.1 25 3) + (nI 1))) (Ps := [(M.1 25 3) = nI (ix (M.1 25 3)) ∧ (ix (M.1 25 3)) < 150]) (by decide +kernel) rfl rfl ⟨⟨(ixE k2), k3⟩, trivial⟩ ?_
    refine G.mem (M' := mrow (mrow M 25 (upd (M.1 25) 3 ((M.1 25 3) + (nI 1)))) 27 (upd (M.1 27) (ix (M.1 25 3)) x1)) (by first | rfl | (simp only [mput, mrow_same, mrow_hit, mrow_miss, mrow_sw, idr_eq, ne_eq, Nat.reduceEqDiff, not_false_eq_true, Nat.reduceLT, reduceCtorEq]; done)) ?_
    exact G.retv (by decide +kernel) rfl (Nat.le_of_ble_eq_true rfl) (Nat.le_of_ble_eq_true rfl) ((by rw [hQ]; simp only [l_put, if_neg c1, mrow_self]))
set_option maxHeartbeats 4000000 in
set_option maxRecDepth 3000 in
theorem c_l_join (z : Zp) (d : Nat) (M : Mem) (x0 : Int32) (x1 : Int32) (x2 : Int32) : GM z mX3_join (d) [.int x0, .int x1, .int x2] M (fun rs => rs = .inl (some (.int (l_join x0 x1 x2)), M)) := by
  refine GM.of oX3_join.1 (Nat.le_of_ble_eq_true rfl) ?_
  show G z mX3_join (d) 0 0 0 [some (.int x0), some (.int x1), some (.int x2)] [] M _
  obtain ⟨Q, hQ⟩ : ∃ Q : Rs → Prop, Q = (fun rs => rs = .inl (some (.int (l_join x0 x1 x2)), M)) := ⟨_, rfl⟩
  rw [← hQ]
  refine G.sl [(.iload_n 0, 1, 0, 0, 0, 0)] [] (pc2 := 1) (ls2 := [some (.int x0), some (.int x1), some (.int x2)]) (st2 := [.int x0]) (M2 := M) (Ps := []) (by decide +kernel) rfl rfl trivial ?_
  by_cases c1 : x0 = nI 37
  · skip
    refine G.look (dflt := 106) (ps := #[(37, 83), (42, 67), (43, 59), (45, 63), (47, 71), (60, 95)]) (len := 59) (off := 83) (tgt := 84) (by decide +kernel) (by decide +kernel) (by rw [c1]; decide +kernel) rfl ?_
    refine G.sl [(.iload_n 2, 1, 2, 0, 0, 0)] [] (pc2 := 85) (ls2 := [some (.int x0), some (.int x1), some (.int x2)]) (st2 := [.int x2]) (M2 := M) (Ps := []) (by decide +kernel) rfl rfl trivial ?_
    refine G.if_ne (off := (7)) (tgt := 92) (by decide +kernel) rfl (fun c2 => ?_) (fun c2 => ?_)
    · skip
      refine G.sl [(.iload_n 1, 1, 1, 0, 0, 0), (.iload_n 2, 1, 2, 0, 0, 0), (.irem, 1, 0, 0, 0, 0)] [] (pc2 := 95) (ls2 := [some (.int x0), some (.int x1), some (.int x2)]) (st2 := [.int (x1 - x1 / x2 * x2)]) (M2 := M) (Ps := [¬ x2 = 0]) (by decide +kernel) rfl rfl ⟨c2, trivial⟩ ?_
      exact G.reti (by decide +kernel) rfl rfl (Nat.le_of_ble_eq_true rfl) (Nat.le_of_ble_eq_true rfl) ((by rw [hQ]; simp only [l_join, if_pos c1, if_neg c2, mrow_self]))
    · skip
      refine G.sl [(.iconst 0, 1, 0, 0, 0, nI 0), (.goto 6, 3, 95, 0, 0, 0)] [] (pc2 := 95) (ls2 := [some (.int x0), some (.int x1), some (.int x2)]) (st2 := [.int (nI 0)]) (M2 := M) (Ps := []) (by decide +kernel) rfl rfl trivial ?_
      exact G.reti (by decide +kernel) rfl rfl (Nat.le_of_ble_eq_true rfl) (Nat.le_of_ble_eq_true rfl) ((by rw [hQ]; simp only [l_join, if_pos c1, if_pos c2, mrow_self]))
  · skip
    by_cases c3 : x0 = nI 42
    · skip
      refine G.look (dflt := 106) (ps := #[(37, 83), (42, 67), (43, 59), (45, 63), (47, 71), (60, 95)]) (len := 59) (off := 67) (tgt := 68) (by decide +kernel) (by decide +kernel) (by rw [c3]; decide +kernel) rfl ?_
      refine G.sl [(.iload_n 1, 1, 1, 0, 0, 0), (.iload_n 2, 1, 2, 0, 0, 0), (.imul, 1, 0, 0, 0, 0)] [] (pc2 := 71) (ls2 := [some (.int x0), some (.int x1), some (.int x2)]) (st2 := [.int (x1 * x2)]) (M2 := M) (Ps := []) (by decide +kernel) rfl rfl trivial ?_
      exact G.reti (by decide +kernel) rfl rfl (Nat.le_of_ble_eq_true rfl) (Nat.le_of_ble_eq_true rfl) ((by rw [hQ]; simp only [l_join, if_neg c1, if_pos c3, mrow_self]))
    · skip
      by_cases c4 : x0 = nI 43
      · skip
        refine G.look (dflt := 106) (ps := #[(37, 83), (42, 67), (43, 59), (45, 63), (47, 71), (60, 95)]) (len := 59) (off := 59) (tgt := 60) (by decide +kernel) (by decide +kernel) (by rw [c4]; decide +kernel) rfl ?_
        refine G.sl [(.iload_n 1, 1, 1, 0, 0, 0), (.iload_n 2, 1, 2, 0, 0, 0), (.iadd, 1, 0, 0, 0, 0)] [] (pc2 := 63) (ls2 := [some (.int x0), some (.int x1), some (.int x2)]) (st2 := [.int (x1 + x2)]) (M2 := M) (Ps := []) (by decide +kernel) rfl rfl trivial ?_
        exact G.reti (by decide +kernel) rfl rfl (Nat.le_of_ble_eq_true rfl) (Nat.le_of_ble_eq_true rfl) ((by rw [hQ]; simp only [l_join, if_neg c1, if_neg c3, if_pos c4, mrow_self]))
      · skip
        by_cases c5 : x0 = nI 45
        · skip
          refine G.look (dflt := 106) (ps := #[(37, 83), (42, 67), (43, 59), (45, 63), (47, 71), (60, 95)]) (len := 59) (off := 63) (tgt := 64) (by decide +kernel) (by decide +kernel) (by rw [c5]; decide +kernel) rfl ?_
          refine G.sl [(.iload_n 1, 1, 1, 0, 0, 0), (.iload_n 2, 1, 2, 0, 0, 0), (.isub, 1, 0, 0, 0, 0)] [] (pc2 := 67) (ls2 := [some (.int x0), some (.int x1), some (.int x2)]) (st2 := [.int (x1 - x2)]) (M2 := M) (Ps := []) (by decide +kernel) rfl rfl trivial ?_
          exact G.reti (by decide +kernel) rfl rfl (Nat.le_of_ble_eq_true rfl) (Nat.le_of_ble_eq_true rfl) ((by rw [hQ]; simp only [l_join, if_neg c1, if_neg c3, if_neg c4, if_pos c5, mrow_self]))
        · skip
          by_cases c6 : x0 = nI 47
          · skip
            refine G.look (dflt := 106) (ps := #[(37, 83), (42, 67), (43, 59), (45, 63), (47, 71), (60, 95)]) (len := 59) (off := 71) (tgt := 72) (by decide +kernel) (by decide +kernel) (by rw [c6]; decide +kernel) rfl ?_
            refine G.sl [(.iload_n 2, 1, 2, 0, 0, 0)] [] (pc2 := 73) (ls2 := [some (.int x0), some (.int x1), some (.int x2)]) (st2 := [.int x2]) (M2 := M) (Ps := []) (by decide +kernel) rfl rfl trivial ?_
            refine G.if_ne (off := (7)) (tgt := 80) (by decide +kernel) rfl (fun c7 => ?_) (fun c7 => ?_)
            · skip
              refine G.sl [(.iload_n 1, 1, 1, 0, 0, 0), (.iload_n 2, 1, 2, 0, 0, 0), (.idiv, 1, 0, 0, 0, 0)] [] (pc2 := 83) (ls2 := [some (.int x0), some (.int x1), some (.int x2)]) (st2 := [.int (x1 / x2)]) (M2 := M) (Ps := [¬ x2 = 0]) (by decide +kernel) rfl rfl ⟨c7, trivial⟩ ?_
              exact G.reti (by decide +kernel) rfl rfl (Nat.le_of_ble_eq_true rfl) (Nat.le_of_ble_eq_true rfl) ((by rw [hQ]; simp only [l_join, if_neg c1, if_neg c3, if_neg c4, if_neg c5, if_pos c6, if_neg c7, mrow_self]))
            · skip
              refine G.sl [(.iconst 0, 1, 0, 0, 0, nI 0), (.goto 6, 3, 83, 0, 0, 0)] [] (pc2 := 83) (ls2 := [some (.int x0), some (.int x1), some (.int x2)]) (st2 := [.int (nI 0)]) (M2 := M) (Ps := []) (by decide +kernel) rfl rfl trivial ?_
              exact G.reti (by decide +kernel) rfl rfl (Nat.le_of_ble_eq_true rfl) (Nat.le_of_ble_eq_true rfl) ((by rw [hQ]; simp only [l_join, if_neg c1, if_neg c3, if_neg c4, if_neg c5, if_pos c6, if_pos c7, mrow_self]))
          · skip
            by_cases c8 : x0 = nI 60
            · skip
              refine G.look (dflt := 106) (ps := #[(37, 83), (42, 67), (43, 59), (45, 63), (47, 71), (60, 95)]) (len := 59) (off := 95) (tgt := 96) (by decide +kernel) (by decide +kernel) (by rw [c8]; decide +kernel) rfl ?_
              refine G.sl [(.iload_n 1, 1, 1, 0, 0, 0), (.iload_n 2, 1, 2, 0, 0, 0)] [] (pc2 := 98) (ls2 := [some (.int x0), some (.int x1), some (.int x2)]) (st2 := [.int x2, .int x1]) (M2 := M) (Ps := []) (by decide +kernel) rfl rfl trivial ?_
              refine G.ic_ge (off := (7)) (tgt := 105) (by decide +kernel) rfl (fun c9 => ?_) (fun c9 => ?_)
              · skip
                refine G.sl [(.iload_n 2, 1, 2, 0, 0, 0)] [] (pc2 := 106) (ls2 := [some (.int x0), some (.int x1), some (.int x2)]) (st2 := [.int x2]) (M2 := M) (Ps := []) (by decide +kernel) rfl rfl trivial ?_
                exact G.reti (by decide +kernel) rfl rfl (Nat.le_of_ble_eq_true rfl) (Nat.le_of_ble_eq_true rfl) ((by rw [hQ]; simp only [l_join, if_neg c1, if_neg c3, if_neg c4, if_neg c5, if_neg c6, if_pos c8, if_pos c9, mrow_self]))
              · skip
                refine G.sl [(.iload_n 1, 1, 1, 0, 0, 0), (.goto 4, 3, 106, 0, 0, 0)] [] (pc2 := 106) (ls2 := [some (.int x0), some (.int x1), some (.int x2)]) (st2 := [.int x1]) (M2 := M) (Ps := []) (by decide +kernel) rfl rfl trivial ?_
                exact G.reti (by decide +kernel) rfl rfl (Nat.le_of_ble_eq_true rfl) (Nat.le_of_ble_eq_true rfl) ((by rw [hQ]; simp only [l_join, if_neg c1, if_neg c3, if_neg c4, if_neg c5, if_neg c6, if_pos c8, if_neg c9, mrow_self]))
            · skip
              refine G.look (dflt := 106) (ps := #[(37, 83), (42, 67), (43, 59), (45, 63), (47, 71), (60, 95)]) (len := 59) (off := 106) (tgt := 107) (by decide +kernel) (by decide +kernel) (by show Op.lookupswitch.offset [(37, 83), (42, 67), (43, 59), (45, 63), (47, 71), (60, 95)] 106 _ = _; rw [lv_osw (a := 37) c1 (by decide)]; rw [lv_osw (a := 42) c3 (by decide)]; rw [lv_osw (a := 43) c4 (by decide)]; rw [lv_osw (a := 45) c5 (by decide)]; rw [lv_osw (a := 47) c6 (by decide)]; rw [lv_osw (a := 60) c8 (by decide)]; rfl) rfl ?_
              refine G.sl [(.iload_n 1, 1, 1, 0, 0, 0), (.iload_n 2, 1, 2, 0, 0, 0)] [] (pc2 := 109) (ls2 := [some (.int x0), some (.int x1), some (.int x2)]) (st2 := [.int x2, .int x1]) (M2 := M) (Ps := []) (by decide +kernel) rfl rfl trivial ?_
              refine G.ic_le (off := (7)) (tgt := 116) (by decide +kernel) rfl (fun c10 => ?_) (fun c10 => ?_)
              · skip
                refine G.sl [(.iload_n 2, 1, 2, 0, 0, 0)] [] (pc2 := 117) (ls2 := [some (.int x0), some (.int x1), some (.int x2)]) (st2 := [.int x2]) (M2 := M) (Ps := []) (by decide +kernel) rfl rfl trivial ?_
                exact G.reti (by decide +kernel) rfl rfl (Nat.le_of_ble_eq_true rfl) (Nat.le_of_ble_eq_true rfl) ((by rw [hQ]; simp only [l_join, if_neg c1, if_neg c3, if_neg c4, if_neg c5, if_neg c6, if_neg c8, if_pos c10, mrow_self]))
              · skip
                refine G.sl [(.iload_n 1, 1, 1, 0, 0, 0), (.goto 4, 3, 117, 0, 0, 0)] [] (pc2 := 117) (ls2 := [some (.int x0), some (.int x1), some (.int x2)]) (st2 := [.int x1]) (M2 := M) (Ps := []) (by decide +kernel) rfl rfl trivial ?_
                exact G.reti (by decide +kernel) rfl rfl (Nat.le_of_ble_eq_true rfl) (Nat.le_of_ble_eq_true rfl) ((by rw [hQ]; simp only [l_join, if_neg c1, if_neg c3, if_neg c4, if_neg c5, if_neg c6, if_neg c8, if_neg c10, mrow_self]))
set_option maxHeartbeats 4000000 in
set_option maxRecDepth 3000 in
theorem lp_l_comesOut_21_4 (z : Zp) (d : Nat) (M : Mem) (Q : Rs → Prop) : ∀ (k0 : Nat) (s1 : Int32) (s2 : Int32) (q24 : (Nat → Int32)), l_comesOut_4_ok (M.1 21) (M.1 22) (M.1 23) k0 s1 s2 q24 → (match l_comesOut_4 (M.1 21) (M.1 22) (M.1 23) k0 s1 s2 q24 with | (s1', s2', q24') => G z mX3_comesOut (d + 1) 0 0 122 [some (.ref 21), none, none, none] [] (mrow M 24 (q24')) Q) → G z mX3_comesOut (d + 1) 0 0 4 [some (.ref 21), some (.int s1), some (.int s2), none] [] (mrow M 24 q24) Q := by
  intro k0
  induction k0 with
  | zero =>
      intro s1 s2 q24 hk hX
      exact (by simpa only [l_comesOut_4_ok] using hk : False).elim
  | succ k0 ih =>
      intro s1 s2 q24 hk hX
      simp only [l_comesOut_4_ok] at hk
      refine G.sl [(.iload_n 2, 1, 2, 0, 0, 0), (.aload_n 0, 1, 0, 0, 0, 0), (.getfield 21, 3, 3, 3, 58, 0)] [] (pc2 := 9) (ls2 := [some (.ref 21), some (.int s1), some (.int s2), none]) (st2 := [.int (M.1 21 3), .int s2]) (M2 := mrow M 24 q24) (Ps := []) (by decide +kernel) rfl rfl trivial ?_
      refine G.ic_ge (off := (113)) (tgt := 122) (by decide +kernel) rfl (fun c1 => ?_) (fun c1 => ?_)
      · skip
        rw [if_pos c1] at hk
        refine G.loc (ls2 := [some (.ref 21), none, none, none]) (by simp [subL]) ?_
        simp only [l_comesOut_4, if_pos c1] at hX
        exact hX
      · skip
        rw [if_neg c1] at hk
        obtain ⟨k2, k3, hk⟩ := hk
        refine G.sl [(.aload_n 0, 1, 0, 0, 0, 0), (.getfield 15, 3, 3, 1, 56, 0), (.iload_n 2, 1, 2, 0, 0, 0), (.iaload, 1, 0, 0, 0, 0), (.istore_n 3, 1, 3, 0, 0, 0), (.iload_n 3, 1, 3, 0, 0, 0), (.sipush 2000, 3, 0, 0, 0, nI 2000)] [ix s2] (pc2 := 23) (ls2 := [some (.ref 21), some (.int s1), some (.int s2), some (.int (M.1 23 (ix s2)))]) (st2 := [.int (nI 2000), .int (M.1 23 (ix s2))]) (M2 := mrow M 24 q24) (Ps := [s2 = nI (ix s2) ∧ (ix s2) < 150]) (by decide +kernel) rfl rfl ⟨⟨(ixE k2), k3⟩, trivial⟩ ?_
        refine G.ic_lt (off := (44)) (tgt := 67) (by decide +kernel) rfl (fun c4 => ?_) (fun c4 => ?_)
        · skip
          rw [if_pos c4] at hk
          refine G.sl [(.iload_n 3, 1, 3, 0, 0, 0), (.sipush 2000, 3, 0, 0, 0, nI 2000)] [] (pc2 := 71) (ls2 := [some (.ref 21), some (.int s1), some (.int s2), some (.int (M.1 23 (ix s2)))]) (st2 := [.int (nI 2000), .int (M.1 23 (ix s2))]) (M2 := mrow M 24 q24) (Ps := []) (by decide +kernel) rfl rfl trivial ?_
          refine G.ic_ge (off := (45)) (tgt := 116) (by decide +kernel) rfl (fun c5 => ?_) (fun c5 => ?_)
          · skip
            rw [if_pos c5] at hk
            refine G.sl [(.iinc 2 1, 3, 2, 0, 0, nI 1), (.goto (-115), 3, 4, 0, 0, 0)] [] (pc2 := 4) (ls2 := [some (.ref 21), some (.int s1), some (.int (s2 + nI 1)), some (.int (M.1 23 (ix s2)))]) (st2 := []) (M2 := mrow M 24 q24) (Ps := []) (by decide +kernel) rfl rfl trivial ?_
            refine G.loc (ls2 := [some (.ref 21), some (.int s1), some (.int (s2 + nI 1)), none]) (by simp [subL]) ?_
            simp only [l_comesOut_4, if_neg c1, if_pos c4, if_pos c5] at hX
            exact ih s1 (s2 + nI 1) q24 hk hX
          · skip
            rw [if_neg c5] at hk
            refine G.sl [(.iload_n 1, 1, 1, 0, 0, 0), (.aload_n 0, 1, 0, 0, 0, 0), (.getfield 18, 3, 3, 2, 57, 0), (.arraylength, 1, 0, 0, 0, 0)] [] (pc2 := 80) (ls2 := [some (.ref 21), some (.int s1), some (.int s2), some (.int (M.1 23 (ix s2)))]) (st2 := [.int (nI 150), .int s1]) (M2 := mrow M 24 q24) (Ps := []) (by decide +kernel) rfl rfl trivial ?_
            refine G.ic_ge (off := (36)) (tgt := 116) (by decide +kernel) rfl (fun c6 => ?_) (fun c6 => ?_)
            · skip
              rw [if_pos c6] at hk
              refine G.sl [(.iinc 2 1, 3, 2, 0, 0, nI 1), (.goto (-115), 3, 4, 0, 0, 0)] [] (pc2 := 4) (ls2 := [some (.ref 21), some (.int s1), some (.int (s2 + nI 1)), some (.int (M.1 23 (ix s2)))]) (st2 := []) (M2 := mrow M 24 q24) (Ps := []) (by decide +kernel) rfl rfl trivial ?_
              refine G.loc (ls2 := [some (.ref 21), some (.int s1), some (.int (s2 + nI 1)), none]) (by simp [subL]) ?_
              simp only [l_comesOut_4, if_neg c1, if_pos c4, if_neg c5, if_pos c6] at hX
              exact ih s1 (s2 + nI 1) q24 hk hX
            · skip
              rw [if_neg c6] at hk
              refine G.sl [(.aload_n 0, 1, 0, 0, 0, 0), (.getfield 18, 3, 3, 2, 57, 0), (.iload_n 1, 1, 1, 0, 0, 0), (.iload_n 3, 1, 3, 0, 0, 0), (.sipush 1000, 3, 0, 0, 0, nI 1000)] [] (pc2 := 92) (ls2 := [some (.ref 21), some (.int s1), some (.int s2), some (.int (M.1 23 (ix s2)))]) (st2 := [.int (nI 1000), .int (M.1 23 (ix s2)), .int s1, .ref 24]) (M2 := mrow M 24 q24) (Ps := []) (by decide +kernel) rfl rfl trivial ?_
              refine G.ic_ge (off := (7)) (tgt := 99) (by decide +kernel) rfl (fun c7 => ?_) (fun c7 => ?_)
              · skip
                rw [if_pos c7] at hk
                obtain ⟨k8, k9, k10, k11, hk⟩ := hk
                refine G.sl [(.aload_n 0, 1, 0, 0, 0, 0), (.getfield 11, 3, 3, 0, 53, 0), (.iload_n 3, 1, 3, 0, 0, 0), (.sipush 1000, 3, 0, 0, 0, nI 1000), (.isub, 1, 0, 0, 0, 0), (.bipush 7, 2, 0, 0, 0, nI 7), (.iand, 1, 0, 0, 0, 0), (.iaload, 1, 0, 0, 0, 0), (.iastore, 1, 0, 0, 0, 0), (.iinc 1 1, 3, 1, 0, 0, nI 1), (.iinc 2 1, 3, 2, 0, 0, nI 1), (.goto (-115), 3, 4, 0, 0, 0)] [ix (((M.1 23 (ix s2)) - (nI 1000)) &&& (nI 7)), ix s1] (pc2 := 4) (ls2 := [some (.ref 21), some (.int (s1 + nI 1)), some (.int (s2 + nI 1)), some (.int (M.1 23 (ix s2)))]) (st2 := []) (M2 := mput (mrow M 24 q24) 24 (ix s1) (M.1 22 (ix (((M.1 23 (ix s2)) - (nI 1000)) &&& (nI 7))))) (Ps := [(((M.1 23 (ix s2)) - (nI 1000)) &&& (nI 7)) = nI (ix (((M.1 23 (ix s2)) - (nI 1000)) &&& (nI 7))) ∧ (ix (((M.1 23 (ix s2)) - (nI 1000)) &&& (nI 7))) < 8, s1 = nI (ix s1) ∧ (ix s1) < 150]) (by decide +kernel) rfl rfl ⟨⟨(ixE k8), k9⟩, ⟨(ixE k10), k11⟩, trivial⟩ ?_
                refine G.mem (M' := mrow M 24 (upd q24 (ix s1) (M.1 22 (ix (((M.1 23 (ix s2)) - (nI 1000)) &&& (nI 7)))))) (by first | rfl | (simp only [mput, mrow_same, mrow_hit, mrow_miss, mrow_sw, idr_eq, ne_eq, Nat.reduceEqDiff, not_false_eq_true, Nat.reduceLT, reduceCtorEq]; done)) ?_
                refine G.loc (ls2 := [some (.ref 21), some (.int (s1 + nI 1)), some (.int (s2 + nI 1)), none]) (by simp [subL]) ?_
                simp only [l_comesOut_4, if_neg c1, if_pos c4, if_neg c5, if_neg c6, if_pos c7] at hX
                exact ih (s1 + nI 1) (s2 + nI 1) (upd q24 (ix s1) (M.1 22 (ix (((M.1 23 (ix s2)) - (nI 1000)) &&& (nI 7))))) hk hX
              · skip
                rw [if_neg c7] at hk
                obtain ⟨k12, k13, hk⟩ := hk
                refine G.sl [(.iload_n 3, 1, 3, 0, 0, 0), (.goto 16, 3, 112, 0, 0, 0), (.iastore, 1, 0, 0, 0, 0), (.iinc 1 1, 3, 1, 0, 0, nI 1), (.iinc 2 1, 3, 2, 0, 0, nI 1), (.goto (-115), 3, 4, 0, 0, 0)] [ix s1] (pc2 := 4) (ls2 := [some (.ref 21), some (.int (s1 + nI 1)), some (.int (s2 + nI 1)), some (.int (M.1 23 (ix s2)))]) (st2 := []) (M2 := mput (mrow M 24 q24) 24 (ix s1) (M.1 23 (ix s2))) (Ps := [s1 = nI (ix s1) ∧ (ix s1) < 150]) (by decide +kernel) rfl rfl ⟨⟨(ixE k12), k13⟩, trivial⟩ ?_
                refine G.mem (M' := mrow M 24 (upd q24 (ix s1) (M.1 23 (ix s2)))) (by first | rfl | (simp only [mput, mrow_same, mrow_hit, mrow_miss, mrow_sw, idr_eq, ne_eq, Nat.reduceEqDiff, not_false_eq_true, Nat.reduceLT, reduceCtorEq]; done)) ?_
                refine G.loc (ls2 := [some (.ref 21), some (.int (s1 + nI 1)), some (.int (s2 + nI 1)), none]) (by simp [subL]) ?_
                simp only [l_comesOut_4, if_neg c1, if_pos c4, if_neg c5, if_neg c6, if_neg c7] at hX
                exact ih (s1 + nI 1) (s2 + nI 1) (upd q24 (ix s1) (M.1 23 (ix s2))) hk hX
        · skip
          rw [if_neg c4] at hk
          refine G.sl [(.iload_n 1, 1, 1, 0, 0, 0), (.iconst 2, 1, 0, 0, 0, nI 2)] [] (pc2 := 28) (ls2 := [some (.ref 21), some (.int s1), some (.int s2), some (.int (M.1 23 (ix s2)))]) (st2 := [.int (nI 2), .int s1]) (M2 := mrow M 24 q24) (Ps := []) (by decide +kernel) rfl rfl trivial ?_
          refine G.ic_lt (off := (39)) (tgt := 67) (by decide +kernel) rfl (fun c14 => ?_) (fun c14 => ?_)
          · skip
            rw [if_pos c14] at hk
            refine G.sl [(.iload_n 3, 1, 3, 0, 0, 0), (.sipush 2000, 3, 0, 0, 0, nI 2000)] [] (pc2 := 71) (ls2 := [some (.ref 21), some (.int s1), some (.int s2), some (.int (M.1 23 (ix s2)))]) (st2 := [.int (nI 2000), .int (M.1 23 (ix s2))]) (M2 := mrow M 24 q24) (Ps := []) (by decide +kernel) rfl rfl trivial ?_
            refine G.ic_ge (off := (45)) (tgt := 116) (by decide +kernel) rfl (fun c15 => ?_) (fun c15 => ?_)
            · skip
              rw [if_pos c15] at hk
              refine G.sl [(.iinc 2 1, 3, 2, 0, 0, nI 1), (.goto (-115), 3, 4, 0, 0, 0)] [] (pc2 := 4) (ls2 := [some (.ref 21), some (.int s1), some (.int (s2 + nI 1)), some (.int (M.1 23 (ix s2)))]) (st2 := []) (M2 := mrow M 24 q24) (Ps := []) (by decide +kernel) rfl rfl trivial ?_
              refine G.loc (ls2 := [some (.ref 21), some (.int s1), some (.int (s2 + nI 1)), none]) (by simp [subL]) ?_
              simp only [l_comesOut_4, if_neg c1, if_neg c4, if_pos c14, if_pos c15] at hX
              exact ih s1 (s2 + nI 1) q24 hk hX
            · skip
              rw [if_neg c15] at hk
              refine G.sl [(.iload_n 1, 1, 1, 0, 0, 0), (.aload_n 0, 1, 0, 0, 0, 0), (.getfield 18, 3, 3, 2, 57, 0), (.arraylength, 1, 0, 0, 0, 0)] [] (pc2 := 80) (ls2 := [some (.ref 21), some (.int s1), some (.int s2), some (.int (M.1 23 (ix s2)))]) (st2 := [.int (nI 150), .int s1]) (M2 := mrow M 24 q24) (Ps := []) (by decide +kernel) rfl rfl trivial ?_
              refine G.ic_ge (off := (36)) (tgt := 116) (by decide +kernel) rfl (fun c16 => ?_) (fun c16 => ?_)
              · skip
                rw [if_pos c16] at hk
                refine G.sl [(.iinc 2 1, 3, 2, 0, 0, nI 1), (.goto (-115), 3, 4, 0, 0, 0)] [] (pc2 := 4) (ls2 := [some (.ref 21), some (.int s1), some (.int (s2 + nI 1)), some (.int (M.1 23 (ix s2)))]) (st2 := []) (M2 := mrow M 24 q24) (Ps := []) (by decide +kernel) rfl rfl trivial ?_
                refine G.loc (ls2 := [some (.ref 21), some (.int s1), some (.int (s2 + nI 1)), none]) (by simp [subL]) ?_
                simp only [l_comesOut_4, if_neg c1, if_neg c4, if_pos c14, if_neg c15, if_pos c16] at hX
                exact ih s1 (s2 + nI 1) q24 hk hX
              · skip
                rw [if_neg c16] at hk
                refine G.sl [(.aload_n 0, 1, 0, 0, 0, 0), (.getfield 18, 3, 3, 2, 57, 0), (.iload_n 1, 1, 1, 0, 0, 0), (.iload_n 3, 1, 3, 0, 0, 0), (.sipush 1000, 3, 0, 0, 0, nI 1000)] [] (pc2 := 92) (ls2 := [some (.ref 21), some (.int s1), some (.int s2), some (.int (M.1 23 (ix s2)))]) (st2 := [.int (nI 1000), .int (M.1 23 (ix s2)), .int s1, .ref 24]) (M2 := mrow M 24 q24) (Ps := []) (by decide +kernel) rfl rfl trivial ?_
                refine G.ic_ge (off := (7)) (tgt := 99) (by decide +kernel) rfl (fun c17 => ?_) (fun c17 => ?_)
                · skip
                  rw [if_pos c17] at hk
                  obtain ⟨k18, k19, k20, k21, hk⟩ := hk
                  refine G.sl [(.aload_n 0, 1, 0, 0, 0, 0), (.getfield 11, 3, 3, 0, 53, 0), (.iload_n 3, 1, 3, 0, 0, 0), (.sipush 1000, 3, 0, 0, 0, nI 1000), (.isub, 1, 0, 0, 0, 0), (.bipush 7, 2, 0, 0, 0, nI 7), (.iand, 1, 0, 0, 0, 0), (.iaload, 1, 0, 0, 0, 0), (.iastore, 1, 0, 0, 0, 0), (.iinc 1 1, 3, 1, 0, 0, nI 1), (.iinc 2 1, 3, 2, 0, 0, nI 1), (.goto (-115), 3, 4, 0, 0, 0)] [ix (((M.1 23 (ix s2)) - (nI 1000)) &&& (nI 7)), ix s1] (pc2 := 4) (ls2 := [some (.ref 21), some (.int (s1 + nI 1)), some (.int (s2 + nI 1)), some (.int (M.1 23 (ix s2)))]) (st2 := []) (M2 := mput (mrow M 24 q24) 24 (ix s1) (M.1 22 (ix (((M.1 23 (ix s2)) - (nI 1000)) &&& (nI 7))))) (Ps := [(((M.1 23 (ix s2)) - (nI 1000)) &&& (nI 7)) = nI (ix (((M.1 23 (ix s2)) - (nI 1000)) &&& (nI 7))) ∧ (ix (((M.1 23 (ix s2)) - (nI 1000)) &&& (nI 7))) < 8, s1 = nI (ix s1) ∧ (ix s1) < 150]) (by decide +kernel) rfl rfl ⟨⟨(ixE k18), k19⟩, ⟨(ixE k20), k21⟩, trivial⟩ ?_
                  refine G.mem (M' := mrow M 24 (upd q24 (ix s1) (M.1 22 (ix (((M.1 23 (ix s2)) - (nI 1000)) &&& (nI 7)))))) (by first | rfl | (simp only [mput, mrow_same, mrow_hit, mrow_miss, mrow_sw, idr_eq, ne_eq, Nat.reduceEqDiff, not_false_eq_true, Nat.reduceLT, reduceCtorEq]; done)) ?_
                  refine G.loc (ls2 := [some (.ref 21), some (.int (s1 + nI 1)), some (.int (s2 + nI 1)), none]) (by simp [subL]) ?_
                  simp only [l_comesOut_4, if_neg c1, if_neg c4, if_pos c14, if_neg c15, if_neg c16, if_pos c17] at hX
                  exact ih (s1 + nI 1) (s2 + nI 1) (upd q24 (ix s1) (M.1 22 (ix (((M.1 23 (ix s2)) - (nI 1000)) &&& (nI 7))))) hk hX
                · skip
                  rw [if_neg c17] at hk
                  obtain ⟨k22, k23, hk⟩ := hk
                  refine G.sl [(.iload_n 3, 1, 3, 0, 0, 0), (.goto 16, 3, 112, 0, 0, 0), (.iastore, 1, 0, 0, 0, 0), (.iinc 1 1, 3, 1, 0, 0, nI 1), (.iinc 2 1, 3, 2, 0, 0, nI 1), (.goto (-115), 3, 4, 0, 0, 0)] [ix s1] (pc2 := 4) (ls2 := [some (.ref 21), some (.int (s1 + nI 1)), some (.int (s2 + nI 1)), some (.int (M.1 23 (ix s2)))]) (st2 := []) (M2 := mput (mrow M 24 q24) 24 (ix s1) (M.1 23 (ix s2))) (Ps := [s1 = nI (ix s1) ∧ (ix s1) < 150]) (by decide +kernel) rfl rfl ⟨⟨(ixE k22), k23⟩, trivial⟩ ?_
                  refine G.mem (M' := mrow M 24 (upd q24 (ix s1) (M.1 23 (ix s2)))) (by first | rfl | (simp only [mput, mrow_same, mrow_hit, mrow_miss, mrow_sw, idr_eq, ne_eq, Nat.reduceEqDiff, not_false_eq_true, Nat.reduceLT, reduceCtorEq]; done)) ?_
                  refine G.loc (ls2 := [some (.ref 21), some (.int (s1 + nI 1)), some (.int (s2 + nI 1)), none]) (by simp [subL]) ?_
                  simp only [l_comesOut_4, if_neg c1, if_neg c4, if_pos c14, if_neg c15, if_neg c16, if_neg c17] at hX
                  exact ih (s1 + nI 1) (s2 + nI 1) (upd q24 (ix s1) (M.1 23 (ix s2))) hk hX
          · skip
            rw [if_neg c14] at hk
            refine G.sl [(.iinc 1 (-1), 3, 1, 0, 0, (-1))] [] (pc2 := 34) (ls2 := [some (.ref 21), some (.int (s1 + (-1))), some (.int s2), some (.int (M.1 23 (ix s2)))]) (st2 := []) (M2 := mrow M 24 q24) (Ps := []) (by decide +kernel) rfl rfl trivial ?_
            obtain ⟨w24, hw24⟩ : ∃ w : Int32, w = (s1 + (-1)) := ⟨_, rfl⟩
            rw [← hw24]
            try rw [← hw24] at hk
            obtain ⟨k25, k26, k27, k28, hk⟩ := hk
            refine G.sl [(.aload_n 0, 1, 0, 0, 0, 0), (.getfield 18, 3, 3, 2, 57, 0), (.iload_n 1, 1, 1, 0, 0, 0), (.iconst 1, 1, 0, 0, 0, nI 1), (.isub, 1, 0, 0, 0, 0), (.iload_n 3, 1, 3, 0, 0, 0), (.sipush 2000, 3, 0, 0, 0, nI 2000), (.isub, 1, 0, 0, 0, 0), (.aload_n 0, 1, 0, 0, 0, 0), (.getfield 18, 3, 3, 2, 57, 0), (.iload_n 1, 1, 1, 0, 0, 0), (.iconst 1, 1, 0, 0, 0, nI 1), (.isub, 1, 0, 0, 0, 0), (.iaload, 1, 0, 0, 0, 0), (.aload_n 0, 1, 0, 0, 0, 0), (.getfield 18, 3, 3, 2, 57, 0), (.iload_n 1, 1, 1, 0, 0, 0), (.iaload, 1, 0, 0, 0, 0)] [ix (w24 - (nI 1)), ix w24] (pc2 := 60) (ls2 := [some (.ref 21), some (.int w24), some (.int s2), some (.int (M.1 23 (ix s2)))]) (st2 := [.int (q24 (ix w24)), .int (q24 (ix (w24 - (nI 1)))), .int ((M.1 23 (ix s2)) - (nI 2000)), .int (w24 - (nI 1)), .ref 24]) (M2 := mrow M 24 q24) (Ps := [(w24 - (nI 1)) = nI (ix (w24 - (nI 1))) ∧ (ix (w24 - (nI 1))) < 150, w24 = nI (ix w24) ∧ (ix w24) < 150]) (by decide +kernel) rfl rfl ⟨⟨(ixE k25), k26⟩, ⟨(ixE k27), k28⟩, trivial⟩ ?_
            obtain ⟨k29, hk⟩ := hk
            have t30 : GM z mX3_join (d) [.int ((M.1 23 (ix s2)) - (nI 2000)), .int (q24 (ix (w24 - (nI 1)))), .int (q24 (ix w24))] (mrow M 24 q24) (fun rs => rs = .inl (some (.int (l_join ((M.1 23 (ix s2)) - (nI 2000)) (q24 (ix (w24 - (nI 1)))) (q24 (ix w24)))), mrow M 24 q24)) := by
              have q9 := c_l_join z d (mrow M 24 q24) ((M.1 23 (ix s2)) - (nI 2000)) (q24 (ix (w24 - (nI 1)))) (q24 (ix w24))
              try simp only [mput, mrow_same, mrow_hit, mrow_miss, mrow_sw, idr_eq, ne_eq, Nat.reduceEqDiff, not_false_eq_true, Nat.reduceLT, reduceCtorEq] at q9
              exact q9
            refine G.callS (as := [.int ((M.1 23 (ix s2)) - (nI 2000)), .int (q24 (ix (w24 - (nI 1)))), .int (q24 (ix w24))]) (rest := [.int (w24 - (nI 1)), .ref 24]) oX3_join lk_EvenFinders_Law_83 (by decide +kernel) rfl (Nat.le_of_ble_eq_true rfl) rfl ⟨Nat.le_of_ble_eq_true rfl, Nat.le_of_ble_eq_true rfl⟩ t30 (fun v9 N9 h31 => ?_) (fun E9 N9 h31 => by cases h31)
            cases h31
            show G z mX3_comesOut (d + 1) 0 0 63 [some (.ref 21), some (.int w24), some (.int s2), some (.int (M.1 23 (ix s2)))] [.int (l_join ((M.1 23 (ix s2)) - (nI 2000)) (q24 (ix (w24 - (nI 1)))) (q24 (ix w24))), .int (w24 - (nI 1)), .ref 24] (mrow M 24 q24) Q
            refine G.sl [(.iastore, 1, 0, 0, 0, 0), (.goto 52, 3, 116, 0, 0, 0), (.iinc 2 1, 3, 2, 0, 0, nI 1), (.goto (-115), 3, 4, 0, 0, 0)] [ix (w24 - (nI 1))] (pc2 := 4) (ls2 := [some (.ref 21), some (.int w24), some (.int (s2 + nI 1)), some (.int (M.1 23 (ix s2)))]) (st2 := []) (M2 := mput (mrow M 24 q24) 24 (ix (w24 - (nI 1))) (l_join ((M.1 23 (ix s2)) - (nI 2000)) (q24 (ix (w24 - (nI 1)))) (q24 (ix w24)))) (Ps := [(w24 - (nI 1)) = nI (ix (w24 - (nI 1))) ∧ (ix (w24 - (nI 1))) < 150]) (by decide +kernel) rfl rfl ⟨⟨(ixE k25), k26⟩, trivial⟩ ?_
            refine G.mem (M' := mrow M 24 (upd q24 (ix (w24 - (nI 1))) (l_join ((M.1 23 (ix s2)) - (nI 2000)) (q24 (ix (w24 - (nI 1)))) (q24 (ix w24))))) (by first | rfl | (simp only [mput, mrow_same, mrow_hit, mrow_miss, mrow_sw, idr_eq, ne_eq, Nat.reduceEqDiff, not_false_eq_true, Nat.reduceLT, reduceCtorEq]; done)) ?_
            refine G.loc (ls2 := [some (.ref 21), some (.int w24), some (.int (s2 + nI 1)), none]) (by simp [subL]) ?_
            simp only [l_comesOut_4, if_neg c1, if_neg c4, if_neg c14, ← hw24] at hX
            exact ih w24 (s2 + nI 1) (upd q24 (ix (w24 - (nI 1))) (l_join ((M.1 23 (ix s2)) - (nI 2000)) (q24 (ix (w24 - (nI 1)))) (q24 (ix w24)))) hk hX
set_option maxHeartbeats 4000000 in
set_option maxRecDepth 3000 in
theorem c_l_comesOut_21 (z : Zp) (d : Nat) (M : Mem) (hk : l_comesOut_ok (M.1 21) (M.1 22) (M.1 23) (M.1 24)) : GM z mX3_comesOut (d + 1) [.ref 21] M (fun rs => rs = .inl (some (.int ((l_comesOut (M.1 21) (M.1 22) (M.1 23) (M.1 24)).1)), mrow M 24 ((l_comesOut (M.1 21) (M.1 22) (M.1 23) (M.1 24)).2))) := by
  simp only [l_comesOut_ok] at hk
  refine GM.of oX3_comesOut.1 (Nat.le_of_ble_eq_true rfl) ?_
  show G z mX3_comesOut (d + 1) 0 0 0 [some (.ref 21), none, none, none] [] M _
  obtain ⟨Q, hQ⟩ : ∃ Q : Rs → Prop, Q = (fun rs => rs = .inl (some (.int ((l_comesOut (M.1 21) (M.1 22) (M.1 23) (M.1 24)).1)), mrow M 24 ((l_comesOut (M.1 21) (M.1 22) (M.1 23) (M.1 24)).2))) := ⟨_, rfl⟩
  rw [← hQ]
  refine G.sl [(.iconst 0, 1, 0, 0, 0, nI 0), (.istore_n 1, 1, 1, 0, 0, 0), (.iconst 0, 1, 0, 0, 0, nI 0), (.istore_n 2, 1, 2, 0, 0, 0)] [] (pc2 := 4) (ls2 := [some (.ref 21), some (.int (nI 0)), some (.int (nI 0)), none]) (st2 := []) (M2 := M) (Ps := []) (by decide +kernel) rfl rfl trivial ?_
  obtain ⟨k32, hk⟩ := hk
  refine G.mem (M' := mrow M 24 (M.1 24)) (by simp only [mrow_self]) ?_
  refine lp_l_comesOut_21_4 z d M Q FU (nI 0) (nI 0) (M.1 24) (by first | (simp only [mput, mrow_same, mrow_hit, mrow_miss, mrow_sw, idr_eq, ne_eq, Nat.reduceEqDiff, not_false_eq_true, Nat.reduceLT, reduceCtorEq]; exact k32) | exact k32) ?_
  try simp only [mput, mrow_same, mrow_hit, mrow_miss, mrow_sw, idr_eq, ne_eq, Nat.reduceEqDiff, not_false_eq_true, Nat.reduceLT, reduceCtorEq]
  rcases g33 : l_comesOut_4 (M.1 21) (M.1 22) (M.1 23) FU (nI 0) (nI 0) (M.1 24) with ⟨v34, v35, r36⟩
  show G z mX3_comesOut (d + 1) 0 0 122 [some (.ref 21), none, none, none] [] (mrow M 24 r36) Q
  refine G.sl [(.iconst 0, 1, 0, 0, 0, nI 0), (.bipush 99, 2, 0, 0, 0, nI 99), (.aload_n 0, 1, 0, 0, 0, 0), (.getfield 18, 3, 3, 2, 57, 0), (.iconst 0, 1, 0, 0, 0, nI 0), (.iaload, 1, 0, 0, 0, 0)] [0] (pc2 := 131) (ls2 := [some (.ref 21), none, none, none]) (st2 := [.int (r36 0), .int (nI 99), .int (nI 0)]) (M2 := mrow M 24 r36) (Ps := [(nI 0) = nI 0 ∧ 0 < 150]) (by decide +kernel) rfl rfl ⟨⟨rfl, (by omega)⟩, trivial⟩ ?_
  refine G.mmin lm_EvenFinders_Law_87 (by decide +kernel) (Nat.le_of_ble_eq_true rfl) (Nat.le_of_ble_eq_true rfl) (Nat.le_of_ble_eq_true rfl) ?_
  refine G.mmax lm_EvenFinders_Law_92 (by decide +kernel) (Nat.le_of_ble_eq_true rfl) (Nat.le_of_ble_eq_true rfl) (Nat.le_of_ble_eq_true rfl) ?_
  exact G.reti (by decide +kernel) rfl rfl (Nat.le_of_ble_eq_true rfl) (Nat.le_of_ble_eq_true rfl) ((by rw [hQ]; simp only [l_comesOut, g33, mrow_self]))
set_option maxHeartbeats 4000000 in
set_option maxRecDepth 3000 in
theorem lp_J7_fill_53178_L8_30_5 (z : Zp) (d : Nat) (M : Mem) (Q : Rs → Prop) (nn : Nat) (x1 : Int32) (hnn : nn = 8) (hX : G z mJ7_fill_53178 (d) 0 0 20 [none, none, none, none] [] (mrow M 30 (J7_fill_53178_L8_5 (M.1 30) x1 nn)) Q) : G z mJ7_fill_53178 (d) 0 0 5 [some (.ref 30), some (.int x1), some (.int (nI 0)), some (.int (nI 8))] [] M Q := by
  refine G.mem (M' := mrow M 30 (M.1 30)) (by simp only [mrow_self]) ?_
  refine down (n := nn) (P := fun i2 => G z mJ7_fill_53178 (d) 0 0 5 [some (.ref 30), some (.int x1), some (.int (nI i2)), some (.int (nI 8))] [] (mrow M 30 (J7_fill_53178_L8_5 (M.1 30) x1 i2)) Q) ?_ ?_ 0 (Nat.zero_le _)
  · skip
    refine G.sl [(.iload_n 2, 1, 2, 0, 0, 0), (.iload_n 3, 1, 3, 0, 0, 0)] [] (pc2 := 7) (ls2 := [some (.ref 30), some (.int x1), some (.int (nI nn)), some (.int (nI 8))]) (st2 := [.int (nI 8), .int (nI nn)]) (M2 := mrow M 30 (J7_fill_53178_L8_5 (M.1 30) x1 nn)) (Ps := []) (by decide +kernel) rfl rfl trivial ?_
    refine G.ic_ge (off := (13)) (tgt := 20) (by decide +kernel) rfl (fun _ => ?_) (fun h9 => absurd (nI_le (by omega) (by omega)) h9)
    refine G.loc (ls2 := [none, none, none, none]) (by simp [subL]) ?_
    exact hX
  · skip
    intro i2 hi ih
    show G z mJ7_fill_53178 (d) 0 0 5 [some (.ref 30), some (.int x1), some (.int (nI i2)), some (.int (nI 8))] [] (mrow M 30 (J7_fill_53178_L8_5 (M.1 30) x1 i2)) Q
    refine G.sl [(.iload_n 2, 1, 2, 0, 0, 0), (.iload_n 3, 1, 3, 0, 0, 0)] [] (pc2 := 7) (ls2 := [some (.ref 30), some (.int x1), some (.int (nI i2)), some (.int (nI 8))]) (st2 := [.int (nI 8), .int (nI i2)]) (M2 := mrow M 30 (J7_fill_53178_L8_5 (M.1 30) x1 i2)) (Ps := []) (by decide +kernel) rfl rfl trivial ?_
    refine G.ic_ge (off := (13)) (tgt := 20) (by decide +kernel) rfl (fun h9 => absurd h9 (nI_ge (by omega) (by omega))) (fun _ => ?_)
    refine G.sl [(.aload_n 0, 1, 0, 0, 0, 0), (.iload_n 2, 1, 2, 0, 0, 0), (.iload_n 1, 1, 1, 0, 0, 0), (.iastore, 1, 0, 0, 0, 0), (.iinc 2 1, 3, 2, 0, 0, nI 1), (.goto (-12), 3, 5, 0, 0, 0)] [i2] (pc2 := 5) (ls2 := [some (.ref 30), some (.int x1), some (.int ((nI i2) + nI 1)), some (.int (nI 8))]) (st2 := []) (M2 := mput (mrow M 30 (J7_fill_53178_L8_5 (M.1 30) x1 i2)) 30 i2 x1) (Ps := [(nI i2) = nI i2 ∧ i2 < 8]) (by decide +kernel) rfl rfl ⟨⟨rfl, (by omega)⟩, trivial⟩ ?_
    refine G.mem (M' := mrow M 30 (upd (J7_fill_53178_L8_5 (M.1 30) x1 i2) i2 x1)) (by first | rfl | (simp only [mput, mrow_same, mrow_hit, mrow_miss, mrow_sw, idr_eq, ne_eq, Nat.reduceEqDiff, not_false_eq_true, Nat.reduceLT, reduceCtorEq]; done)) ?_
    rw [nI_add i2 1]
    simp only [J7_fill_53178_L8_5] at ih
    exact ih
set_option maxHeartbeats 4000000 in
set_option maxRecDepth 3000 in
theorem c_J7_fill_53178_L8_30 (z : Zp) (d : Nat) (M : Mem) (x1 : Int32) : GM z mJ7_fill_53178 (d) [.ref 30, .int x1] M (fun rs => rs = .inl (none, mrow M 30 ((J7_fill_53178_L8 (M.1 30) x1).2))) := by
  refine GM.of oJ7_fill_53178.1 (Nat.le_of_ble_eq_true rfl) ?_
  show G z mJ7_fill_53178 (d) 0 0 0 [some (.ref 30), some (.int x1), none, none] [] M _
  obtain ⟨Q, hQ⟩ : ∃ Q : Rs → Prop, Q = (fun rs => rs = .inl (none, mrow M 30 ((J7_fill_53178_L8 (M.1 30) x1).2))) := ⟨_, rfl⟩
  rw [← hQ]
  refine G.sl [(.iconst 0, 1, 0, 0, 0, nI 0), (.istore_n 2, 1, 2, 0, 0, 0), (.aload_n 0, 1, 0, 0, 0, 0), (.arraylength, 1, 0, 0, 0, 0), (.istore_n 3, 1, 3, 0, 0, 0)] [] (pc2 := 5) (ls2 := [some (.ref 30), some (.int x1), some (.int (nI 0)), some (.int (nI 8))]) (st2 := []) (M2 := M) (Ps := []) (by decide +kernel) rfl rfl trivial ?_
  refine lp_J7_fill_53178_L8_30_5 z d M Q (cN 8) x1 (cN_eq 8) ?_
  try simp only [mput, mrow_same, mrow_hit, mrow_miss, mrow_sw, idr_eq, ne_eq, Nat.reduceEqDiff, not_false_eq_true, Nat.reduceLT, reduceCtorEq]
  show G z mJ7_fill_53178 (d) 0 0 20 [none, none, none, none] [] (mrow M 30 (J7_fill_53178_L8_5 (M.1 30) x1 (cN 8))) Q
  exact G.retv (by decide +kernel) rfl (Nat.le_of_ble_eq_true rfl) (Nat.le_of_ble_eq_true rfl) ((by rw [hQ]; simp only [J7_fill_53178_L8, mrow_self]))
set_option maxHeartbeats 4000000 in
set_option maxRecDepth 3000 in
theorem c_b_clear_29 (z : Zp) (d : Nat) (M : Mem) : GM z mX0_clear (d + 1) [.ref 29] M (fun rs => rs = .inl (none, mrow (mrow M 29 ((b_clear (M.1 29) (M.1 30)).2.1)) 30 ((b_clear (M.1 29) (M.1 30)).2.2))) := by
  refine GM.of oX0_clear.1 (Nat.le_of_ble_eq_true rfl) ?_
  show G z mX0_clear (d + 1) 0 0 0 [some (.ref 29)] [] M _
  obtain ⟨Q, hQ⟩ : ∃ Q : Rs → Prop, Q = (fun rs => rs = .inl (none, mrow (mrow M 29 ((b_clear (M.1 29) (M.1 30)).2.1)) 30 ((b_clear (M.1 29) (M.1 30)).2.2))) := ⟨_, rfl⟩
  rw [← hQ]
  refine G.sl [(.aload_n 0, 1, 0, 0, 0, 0), (.iconst 0, 1, 0, 0, 0, nI 0), (.putfield 21, 3, 0, 0, 59, 0), (.aload_n 0, 1, 0, 0, 0, 0), (.getfield 9, 3, 0, 1, 61, 0), (.iconst (-1), 1, 0, 0, 0, (-1))] [] (pc2 := 10) (ls2 := [some (.ref 29)]) (st2 := [.int ((-1)), .ref 30]) (M2 := mput M 29 0 (nI 0)) (Ps := []) (by decide +kernel) rfl rfl trivial ?_
  refine G.mem (M' := mrow M 29 (upd (M.1 29) 0 (nI 0))) (by first | rfl | (simp only [mput, mrow_same, mrow_hit, mrow_miss, mrow_sw, idr_eq, ne_eq, Nat.reduceEqDiff, not_false_eq_true, Nat.reduceLT, reduceCtorEq]; done)) ?_
  rcases g2 : J7_fill_53178_L8 (M.1 30) ((-1)) with ⟨u3, r4⟩
  have t5 : GM z mJ7_fill_53178 (d) [.ref 30, .int ((-1))] (mrow M 29 (upd (M.1 29) 0 (nI 0))) (fun rs => rs = .inl (none, mrow (mrow M 29 (upd (M.1 29) 0 (nI 0))) 30 r4)) := by
    have q9 := c_J7_fill_53178_L8_30 z d (mrow M 29 (upd (M.1 29) 0 (nI 0))) ((-1))
    try simp only [mput, mrow_same, mrow_hit, mrow_miss, mrow_sw, idr_eq, ne_eq, Nat.reduceEqDiff, not_false_eq_true, Nat.reduceLT, reduceCtorEq, g2] at q9
    exact q9
  refine G.callS (as := [.ref 30, .int ((-1))]) (rest := []) oJ7_fill_53178 lk_EvenFinders_Book_15 (by decide +kernel) rfl (Nat.le_of_ble_eq_true rfl) rfl ⟨Nat.le_of_ble_eq_true rfl, Nat.le_of_ble_eq_true rfl⟩ t5 (fun v9 N9 h6 => ?_) (fun E9 N9 h6 => by cases h6)
  cases h6
  show G z mX0_clear (d + 1) 0 0 13 [some (.ref 29)] [] (mrow (mrow M 29 (upd (M.1 29) 0 (nI 0))) 30 r4) Q
  exact G.retv (by decide +kernel) rfl (Nat.le_of_ble_eq_true rfl) (Nat.le_of_ble_eq_true rfl) ((by rw [hQ]; simp only [b_clear, g2, mrow_self]))
set_option maxHeartbeats 4000000 in
set_option maxRecDepth 3000 in
theorem lp_J7_fill_53178_L8_32_5 (z : Zp) (d : Nat) (M : Mem) (Q : Rs → Prop) (nn : Nat) (x1 : Int32) (hnn : nn = 8) (hX : G z mJ7_fill_53178 (d) 0 0 20 [none, none, none, none] [] (mrow M 32 (J7_fill_53178_L8_5 (M.1 32) x1 nn)) Q) : G z mJ7_fill_53178 (d) 0 0 5 [some (.ref 32), some (.int x1), some (.int (nI 0)), some (.int (nI 8))] [] M Q := by
  refine G.mem (M' := mrow M 32 (M.1 32)) (by simp only [mrow_self]) ?_
  refine down (n := nn) (P := fun i2 => G z mJ7_fill_53178 (d) 0 0 5 [some (.ref 32), some (.int x1), some (.int (nI i2)), some (.int (nI 8))] [] (mrow M 32 (J7_fill_53178_L8_5 (M.1 32) x1 i2)) Q) ?_ ?_ 0 (Nat.zero_le _)
  · skip
    refine G.sl [(.iload_n 2, 1, 2, 0, 0, 0), (.iload_n 3, 1, 3, 0, 0, 0)] [] (pc2 := 7) (ls2 := [some (.ref 32), some (.int x1), some (.int (nI nn)), some (.int (nI 8))]) (st2 := [.int (nI 8), .int (nI nn)]) (M2 := mrow M 32 (J7_fill_53178_L8_5 (M.1 32) x1 nn)) (Ps := []) (by decide +kernel) rfl rfl trivial ?_
    refine G.ic_ge (off := (13)) (tgt := 20) (by decide +kernel) rfl (fun _ => ?_) (fun h9 => absurd (nI_le (by omega) (by omega)) h9)
    refine G.loc (ls2 := [none, none, none, none]) (by simp [subL]) ?_
    exact hX
  · skip
    intro i2 hi ih
    show G z mJ7_fill_53178 (d) 0 0 5 [some (.ref 32), some (.int x1), some (.int (nI i2)), some (.int (nI 8))] [] (mrow M 32 (J7_fill_53178_L8_5 (M.1 32) x1 i2)) Q
    refine G.sl [(.iload_n 2, 1, 2, 0, 0, 0), (.iload_n 3, 1, 3, 0, 0, 0)] [] (pc2 := 7) (ls2 := [some (.ref 32), some (.int x1), some (.int (nI i2)), some (.int (nI 8))]) (st2 := [.int (nI 8), .int (nI i2)]) (M2 := mrow M 32 (J7_fill_53178_L8_5 (M.1 32) x1 i2)) (Ps := []) (by decide +kernel) rfl rfl trivial ?_
    refine G.ic_ge (off := (13)) (tgt := 20) (by decide +kernel) rfl (fun h9 => absurd h9 (nI_ge (by omega) (by omega))) (fun _ => ?_)
    refine G.sl [(.aload_n 0, 1, 0, 0, 0, 0), (.iload_n 2, 1, 2, 0, 0, 0), (.iload_n 1, 1, 1, 0, 0, 0), (.iastore, 1, 0, 0, 0, 0), (.iinc 2 1, 3, 2, 0, 0, nI 1), (.goto (-12), 3, 5, 0, 0, 0)] [i2] (pc2 := 5) (ls2 := [some (.ref 32), some (.int x1), some (.int ((nI i2) + nI 1)), some (.int (nI 8))]) (st2 := []) (M2 := mput (mrow M 32 (J7_fill_53178_L8_5 (M.1 32) x1 i2)) 32 i2 x1) (Ps := [(nI i2) = nI i2 ∧ i2 < 8]) (by decide +kernel) rfl rfl ⟨⟨rfl, (by omega)⟩, trivial⟩ ?_
    refine G.mem (M' := mrow M 32 (upd (J7_fill_53178_L8_5 (M.1 32) x1 i2) i2 x1)) (by first | rfl | (simp only [mput, mrow_same, mrow_hit, mrow_miss, mrow_sw, idr_eq, ne_eq, Nat.reduceEqDiff, not_false_eq_true, Nat.reduceLT, reduceCtorEq]; done)) ?_
    rw [nI_add i2 1]
    simp only [J7_fill_53178_L8_5] at ih
    exact ih
set_option maxHeartbeats 4000000 in
set_option maxRecDepth 3000 in
theorem c_J7_fill_53178_L8_32 (z : Zp) (d : Nat) (M : Mem) (x1 : Int32) : GM z mJ7_fill_53178 (d) [.ref 32, .int x1] M (fun rs => rs = .inl (none, mrow M 32 ((J7_fill_53178_L8 (M.1 32) x1).2))) := by
  refine GM.of oJ7_fill_53178.1 (Nat.le_of_ble_eq_true rfl) ?_
  show G z mJ7_fill_53178 (d) 0 0 0 [some (.ref 32), some (.int x1), none, none] [] M _
  obtain ⟨Q, hQ⟩ : ∃ Q : Rs → Prop, Q = (fun rs => rs = .inl (none, mrow M 32 ((J7_fill_53178_L8 (M.1 32) x1).2))) := ⟨_, rfl⟩
  rw [← hQ]
  refine G.sl [(.iconst 0, 1, 0, 0, 0, nI 0), (.istore_n 2, 1, 2, 0, 0, 0), (.aload_n 0, 1, 0, 0, 0, 0), (.arraylength, 1, 0, 0, 0, 0), (.istore_n 3, 1, 3, 0, 0, 0)] [] (pc2 := 5) (ls2 := [some (.ref 32), some (.int x1), some (.int (nI 0)), some (.int (nI 8))]) (st2 := []) (M2 := M) (Ps := []) (by decide +kernel) rfl rfl trivial ?_
  refine lp_J7_fill_53178_L8_32_5 z d M Q (cN 8) x1 (cN_eq 8) ?_
  try simp only [mput, mrow_same, mrow_hit, mrow_miss, mrow_sw, idr_eq, ne_eq, Nat.reduceEqDiff, not_false_eq_true, Nat.reduceLT, reduceCtorEq]
  show G z mJ7_fill_53178 (d) 0 0 20 [none, none, none, none] [] (mrow M 32 (J7_fill_53178_L8_5 (M.1 32) x1 (cN 8))) Q
  exact G.retv (by decide +kernel) rfl (Nat.le_of_ble_eq_true rfl) (Nat.le_of_ble_eq_true rfl) ((by rw [hQ]; simp only [J7_fill_53178_L8, mrow_self]))
set_option maxHeartbeats 4000000 in
set_option maxRecDepth 3000 in
theorem c_b_clear_31 (z : Zp) (d : Nat) (M : Mem) : GM z mX0_clear (d + 1) [.ref 31] M (fun rs => rs = .inl (none, mrow (mrow M 31 ((b_clear (M.1 31) (M.1 32)).2.1)) 32 ((b_clear (M.1 31) (M.1 32)).2.2))) := by
  refine GM.of oX0_clear.1 (Nat.le_of_ble_eq_true rfl) ?_
  show G z mX0_clear (d + 1) 0 0 0 [some (.ref 31)] [] M _
  obtain ⟨Q, hQ⟩ : ∃ Q : Rs → Prop, Q = (fun rs => rs = .inl (none, mrow (mrow M 31 ((b_clear (M.1 31) (M.1 32)).2.1)) 32 ((b_clear (M.1 31) (M.1 32)).2.2))) := ⟨_, rfl⟩
  rw [← hQ]
  refine G.sl [(.aload_n 0, 1, 0, 0, 0, 0), (.iconst 0, 1, 0, 0, 0, nI 0), (.putfield 21, 3, 0, 0, 59, 0), (.aload_n 0, 1, 0, 0, 0, 0), (.getfield 9, 3, 0, 1, 61, 0), (.iconst (-1), 1, 0, 0, 0, (-1))] [] (pc2 := 10) (ls2 := [some (.ref 31)]) (st2 := [.int ((-1)), .ref 32]) (M2 := mput M 31 0 (nI 0)) (Ps := []) (by decide +kernel) rfl rfl trivial ?_
  refine G.mem (M' := mrow M 31 (upd (M.1 31) 0 (nI 0))) (by first | rfl | (simp only [mput, mrow_same, mrow_hit, mrow_miss, mrow_sw, idr_eq, ne_eq, Nat.reduceEqDiff, not_false_eq_true, Nat.reduceLT, reduceCtorEq]; done)) ?_
  rcases g2 : J7_fill_53178_L8 (M.1 32) ((-1)) with ⟨u3, r4⟩
  have t5 : GM z mJ7_fill_53178 (d) [.ref 32, .int ((-1))] (mrow M 31 (upd (M.1 31) 0 (nI 0))) (fun rs => rs = .inl (none, mrow (mrow M 31 (upd (M.1 31) 0 (nI 0))) 32 r4)) := by
    have q9 := c_J7_fill_53178_L8_32 z d (mrow M 31 (upd (M.1 31) 0 (nI 0))) ((-1))
    try simp only [mput, mrow_same, mrow_hit, mrow_miss, mrow_sw, idr_eq, ne_eq, Nat.reduceEqDiff, not_false_eq_true, Nat.reduceLT, reduceCtorEq, g2] at q9
    exact q9
  refine G.callS (as := [.ref 32, .int ((-1))]) (rest := []) oJ7_fill_53178 lk_EvenFinders_Book_15 (by decide +kernel) rfl (Nat.le_of_ble_eq_true rfl) rfl ⟨Nat.le_of_ble_eq_true rfl, Nat.le_of_ble_eq_true rfl⟩ t5 (fun v9 N9 h6 => ?_) (fun E9 N9 h6 => by cases h6)
  cases h6
  show G z mX0_clear (d + 1) 0 0 13 [some (.ref 31)] [] (mrow (mrow M 31 (upd (M.1 31) 0 (nI 0))) 32 r4) Q
  exact G.retv (by decide +kernel) rfl (Nat.le_of_ble_eq_true rfl) (Nat.le_of_ble_eq_true rfl) ((by rw [hQ]; simp only [b_clear, g2, mrow_self]))
set_option maxHeartbeats 4000000 in
set_option maxRecDepth 3000 in
theorem c_b_take_29_31 (z : Zp) (d : Nat) (M : Mem) : GM z mX0_take (d + 1) [.ref 29, .ref 31] M (fun rs => rs = .inl (none, mrow (mrow M 29 ((b_take (M.1 29) (M.1 30) (M.1 31) (M.1 32)).2.1)) 30 ((b_take (M.1 29) (M.1 30) (M.1 31) (M.1 32)).2.2))) := by
  refine GM.of oX0_take.1 (Nat.le_of_ble_eq_true rfl) ?_
  show G z mX0_take (d + 1) 0 0 0 [some (.ref 29), some (.ref 31)] [] M _
  obtain ⟨Q, hQ⟩ : ∃ Q : Rs → Prop, Q = (fun rs => rs = .inl (none, mrow (mrow M 29 ((b_take (M.1 29) (M.1 30) (M.1 31) (M.1 32)).2.1)) 30 ((b_take (M.1 29) (M.1 30) (M.1 31) (M.1 32)).2.2))) := ⟨_, rfl⟩
  rw [← hQ]
  refine G.sl [(.aload_n 0, 1, 0, 0, 0, 0), (.aload_n 1, 1, 1, 0, 0, 0), (.getfield 21, 3, 0, 0, 59, 0), (.putfield 21, 3, 0, 0, 59, 0), (.aload_n 1, 1, 1, 0, 0, 0), (.getfield 9, 3, 0, 1, 61, 0), (.iconst 0, 1, 0, 0, 0, nI 0), (.aload_n 0, 1, 0, 0, 0, 0), (.getfield 9, 3, 0, 1, 61, 0), (.iconst 0, 1, 0, 0, 0, nI 0), (.bipush 8, 2, 0, 0, 0, nI 8)] [] (pc2 := 20) (ls2 := [some (.ref 29), some (.ref 31)]) (st2 := [.int (nI 8), .int (nI 0), .ref 30, .int (nI 0), .ref 32]) (M2 := mput M 29 0 (M.1 31 0)) (Ps := []) (by decide +kernel) rfl rfl trivial ?_
  refine G.mem (M' := mrow M 29 (upd (M.1 29) 0 (M.1 31 0))) (by first | rfl | (simp only [mput, mrow_same, mrow_hit, mrow_miss, mrow_sw, idr_eq, ne_eq, Nat.reduceEqDiff, not_false_eq_true, Nat.reduceLT, reduceCtorEq]; done)) ?_
  refine G.copy (s0 := 0) (p0 := 0) (n := 8) la_EvenFinders_Book_25 (by decide +kernel) rfl rfl rfl rfl rfl (by omega) (by omega) (Nat.le_of_ble_eq_true rfl) ?_
  refine G.mem (M' := mrow (mrow M 29 (upd (M.1 29) 0 (M.1 31 0))) 30 (va_cpy (M.1 32) (M.1 30) 0 0 8)) (by first | rfl | (simp only [mput, mrow_same, mrow_hit, mrow_miss, mrow_sw, idr_eq, ne_eq, Nat.reduceEqDiff, not_false_eq_true, Nat.reduceLT, reduceCtorEq]; done)) ?_
  exact G.retv (by decide +kernel) rfl (Nat.le_of_ble_eq_true rfl) (Nat.le_of_ble_eq_true rfl) ((by rw [hQ]; simp only [b_take, mrow_self]))
set_option maxHeartbeats 4000000 in
set_option maxRecDepth 3000 in
theorem lp_b_readFrom_31_1_6 (z : Zp) (d : Nat) (M : Mem) (Q : Rs → Prop) (nn : Nat) (x2 : Int32) (hnn : nn = 60) : ∀ (k0 : Nat) (i3 : Nat) (q1 : (Nat → Int32)) (q31 : (Nat → Int32)) (q32 : (Nat → Int32)), i3 + k0 = nn → b_readFrom_6_ok (M.1 2) x2 k0 i3 q1 q31 q32 → (match b_readFrom_6 (M.1 2) x2 k0 i3 q1 q31 q32 with | (q1', q31', q32') => G z mX0_readFrom (d + 2) 0 0 105 [none, none, none, none, none, none] [] (mrow (mrow (mrow M 1 (q1')) 31 (q31')) 32 (q32')) Q) → G z mX0_readFrom (d + 2) 0 0 6 [some (.ref 31), some (.ref 1), some (.int x2), some (.int (nI i3)), none, none] [] (mrow (mrow (mrow M 1 q1) 31 q31) 32 q32) Q := by
  intro k0
  induction k0 with
  | zero =>
      intro i3 q1 q31 q32 hn hk hX
      refine G.sl [(.iload_n 3, 1, 3, 0, 0, 0), (.bipush 60, 2, 0, 0, 0, nI 60)] [] (pc2 := 9) (ls2 := [some (.ref 31), some (.ref 1), some (.int x2), some (.int (nI i3)), none, none]) (st2 := [.int (nI 60), .int (nI i3)]) (M2 := mrow (mrow (mrow M 1 q1) 31 q31) 32 q32) (Ps := []) (by decide +kernel) rfl rfl trivial ?_
      refine G.ic_ge (off := (96)) (tgt := 105) (by decide +kernel) rfl (fun _ => ?_) (fun h9 => absurd (nI_le (by omega) (by omega)) h9)
      refine G.loc (ls2 := [none, none, none, none, none, none]) (by simp [subL]) ?_
      simp only [b_readFrom_6] at hX
      exact hX
  | succ k0 ih =>
      intro i3 q1 q31 q32 hn hk hX
      simp only [b_readFrom_6_ok] at hk
      refine G.sl [(.iload_n 3, 1, 3, 0, 0, 0), (.bipush 60, 2, 0, 0, 0, nI 60)] [] (pc2 := 9) (ls2 := [some (.ref 31), some (.ref 1), some (.int x2), some (.int (nI i3)), none, none]) (st2 := [.int (nI 60), .int (nI i3)]) (M2 := mrow (mrow (mrow M 1 q1) 31 q31) 32 q32) (Ps := []) (by decide +kernel) rfl rfl trivial ?_
      refine G.ic_ge (off := (96)) (tgt := 105) (by decide +kernel) rfl (fun h9 => absurd h9 (nI_ge (by omega) (by omega))) (fun _ => ?_)
      refine G.sl [(.aload_n 1, 1, 1, 0, 0, 0)] [] (pc2 := 13) (ls2 := [some (.ref 31), some (.ref 1), some (.int x2), some (.int (nI i3)), none, none]) (st2 := [.ref 1]) (M2 := mrow (mrow (mrow M 1 q1) 31 q31) 32 q32) (Ps := []) (by decide +kernel) rfl rfl trivial ?_
      obtain ⟨k8, hk⟩ := hk
      rcases g9 : t_next q1 (M.1 2) with ⟨v10, r11⟩
      try simp only [g9] at hk
      have t12 : GM z mX6_next (d + 1) [.ref 1] (mrow (mrow (mrow M 1 q1) 31 q31) 32 q32) (fun rs => rs = .inl (some (.int v10), mrow (mrow (mrow M 1 r11) 31 q31) 32 q32)) := by
        have q9 := c_t_next_1 z (d + 1) (mrow (mrow (mrow M 1 q1) 31 q31) 32 q32) k8
        try simp only [mput, mrow_same, mrow_hit, mrow_miss, mrow_sw, idr_eq, ne_eq, Nat.reduceEqDiff, not_false_eq_true, Nat.reduceLT, reduceCtorEq, g9] at q9
        exact q9
      refine G.callV (as := []) (rest := []) (a := 1) oX6_next lk_EvenFinders_Book_34 (by decide +kernel) rfl rfl ⟨rfl, rfl⟩ (Nat.le_of_ble_eq_true rfl) rfl ⟨Nat.le_of_ble_eq_true rfl, Nat.le_of_ble_eq_true rfl⟩ t12 (fun v9 N9 h13 => ?_) (fun E9 N9 h13 => by cases h13)
      cases h13
      show G z mX0_readFrom (d + 2) 0 0 16 [some (.ref 31), some (.ref 1), some (.int x2), some (.int (nI i3)), none, none] [.int v10] (mrow (mrow (mrow M 1 r11) 31 q31) 32 q32) Q
      refine G.sl [(.iconst (-1), 1, 0, 0, 0, (-1))] [] (pc2 := 17) (ls2 := [some (.ref 31), some (.ref 1), some (.int x2), some (.int (nI i3)), none, none]) (st2 := [.int ((-1)), .int v10]) (M2 := mrow (mrow (mrow M 1 r11) 31 q31) 32 q32) (Ps := []) (by decide +kernel) rfl rfl trivial ?_
      refine G.ic_eq (off := (88)) (tgt := 105) (by decide +kernel) rfl (fun c14 => ?_) (fun c14 => ?_)
      · skip
        rw [if_pos c14] at hk
        refine G.loc (ls2 := [none, none, none, none, none, none]) (by simp [subL]) ?_
        simp only [b_readFrom_6, g9, if_pos c14] at hX
        exact hX
      · skip
        rw [if_neg c14] at hk
        refine G.sl [(.aload_n 1, 1, 1, 0, 0, 0), (.iconst 0, 1, 0, 0, 0, nI 0), (.iload_n 2, 1, 2, 0, 0, 0), (.iconst 1, 1, 0, 0, 0, nI 1), (.isub, 1, 0, 0, 0, 0)] [] (pc2 := 25) (ls2 := [some (.ref 31), some (.ref 1), some (.int x2), some (.int (nI i3)), none, none]) (st2 := [.int (x2 - (nI 1)), .int (nI 0), .ref 1]) (M2 := mrow (mrow (mrow M 1 r11) 31 q31) 32 q32) (Ps := []) (by decide +kernel) rfl rfl trivial ?_
        obtain ⟨k15, hk⟩ := hk
        rcases g16 : t_number r11 (M.1 2) (nI 0) (x2 - (nI 1)) with ⟨v17, r18⟩
        try simp only [g16] at hk
        have t19 : GM z mX6_number (d + 1) [.ref 1, .int (nI 0), .int (x2 - (nI 1))] (mrow (mrow (mrow M 1 r11) 31 q31) 32 q32) (fun rs => rs = .inl (some (.int v17), mrow (mrow (mrow M 1 r18) 31 q31) 32 q32)) := by
          have q9 := c_t_number_1 z d (mrow (mrow (mrow M 1 r11) 31 q31) 32 q32) (nI 0) (x2 - (nI 1)) k15
          try simp only [mput, mrow_same, mrow_hit, mrow_miss, mrow_sw, idr_eq, ne_eq, Nat.reduceEqDiff, not_false_eq_true, Nat.reduceLT, reduceCtorEq, g16] at q9
          exact q9
        refine G.callV (as := [.int (nI 0), .int (x2 - (nI 1))]) (rest := []) (a := 1) oX6_number lk_EvenFinders_Book_40 (by decide +kernel) rfl rfl ⟨rfl, rfl⟩ (Nat.le_of_ble_eq_true rfl) rfl ⟨Nat.le_of_ble_eq_true rfl, Nat.le_of_ble_eq_true rfl⟩ t19 (fun v9 N9 h20 => ?_) (fun E9 N9 h20 => by cases h20)
        cases h20
        show G z mX0_readFrom (d + 2) 0 0 28 [some (.ref 31), some (.ref 1), some (.int x2), some (.int (nI i3)), none, none] [.int v17] (mrow (mrow (mrow M 1 r18) 31 q31) 32 q32) Q
        refine G.sl [(.istore 4, 2, 4, 0, 0, 0), (.aload_n 1, 1, 1, 0, 0, 0)] [] (pc2 := 31) (ls2 := [some (.ref 31), some (.ref 1), some (.int x2), some (.int (nI i3)), some (.int v17), none]) (st2 := [.ref 1]) (M2 := mrow (mrow (mrow M 1 r18) 31 q31) 32 q32) (Ps := []) (by decide +kernel) rfl rfl trivial ?_
        obtain ⟨k21, hk⟩ := hk
        have t22 : GM z mX6_isFaulty (d + 1) [.ref 1] (mrow (mrow (mrow M 1 r18) 31 q31) 32 q32) (fun rs => rs = .inl (some (.int (t_isFaulty r18)), mrow (mrow (mrow M 1 r18) 31 q31) 32 q32)) := by
          have q9 := c_t_isFaulty_1 z (d + 1) (mrow (mrow (mrow M 1 r18) 31 q31) 32 q32) 
          try simp only [mput, mrow_same, mrow_hit, mrow_miss, mrow_sw, idr_eq, ne_eq, Nat.reduceEqDiff, not_false_eq_true, Nat.reduceLT, reduceCtorEq] at q9
          exact q9
        refine G.callV (as := []) (rest := []) (a := 1) oX6_isFaulty lk_EvenFinders_Book_44 (by decide +kernel) rfl rfl ⟨rfl, rfl⟩ (Nat.le_of_ble_eq_true rfl) rfl ⟨Nat.le_of_ble_eq_true rfl, Nat.le_of_ble_eq_true rfl⟩ t22 (fun v9 N9 h23 => ?_) (fun E9 N9 h23 => by cases h23)
        cases h23
        show G z mX0_readFrom (d + 2) 0 0 34 [some (.ref 31), some (.ref 1), some (.int x2), some (.int (nI i3)), some (.int v17), none] [.int (t_isFaulty r18)] (mrow (mrow (mrow M 1 r18) 31 q31) 32 q32) Q
        refine G.if_ne (off := (23)) (tgt := 57) (by decide +kernel) rfl (fun c24 => ?_) (fun c24 => ?_)
        · skip
          rw [if_neg c24] at hk
          refine G.sl [(.aload_n 1, 1, 1, 0, 0, 0), (.iconst 0, 1, 0, 0, 0, nI 0), (.sipush 600, 3, 0, 0, 0, nI 600)] [] (pc2 := 62) (ls2 := [some (.ref 31), some (.ref 1), some (.int x2), some (.int (nI i3)), some (.int v17), none]) (st2 := [.int (nI 600), .int (nI 0), .ref 1]) (M2 := mrow (mrow (mrow M 1 r18) 31 q31) 32 q32) (Ps := []) (by decide +kernel) rfl rfl trivial ?_
          obtain ⟨k25, hk⟩ := hk
          rcases g26 : t_number r18 (M.1 2) (nI 0) (nI 600) with ⟨v27, r28⟩
          try simp only [g26] at hk
          have t29 : GM z mX6_number (d + 1) [.ref 1, .int (nI 0), .int (nI 600)] (mrow (mrow (mrow M 1 r18) 31 q31) 32 q32) (fun rs => rs = .inl (some (.int v27), mrow (mrow (mrow M 1 r28) 31 q31) 32 q32)) := by
            have q9 := c_t_number_1 z d (mrow (mrow (mrow M 1 r18) 31 q31) 32 q32) (nI 0) (nI 600) k25
            try simp only [mput, mrow_same, mrow_hit, mrow_miss, mrow_sw, idr_eq, ne_eq, Nat.reduceEqDiff, not_false_eq_true, Nat.reduceLT, reduceCtorEq, g26] at q9
            exact q9
          refine G.callV (as := [.int (nI 0), .int (nI 600)]) (rest := []) (a := 1) oX6_number lk_EvenFinders_Book_40 (by decide +kernel) rfl rfl ⟨rfl, rfl⟩ (Nat.le_of_ble_eq_true rfl) rfl ⟨Nat.le_of_ble_eq_true rfl, Nat.le_of_ble_eq_true rfl⟩ t29 (fun v9 N9 h30 => ?_) (fun E9 N9 h30 => by cases h30)
          cases h30
          show G z mX0_readFrom (d + 2) 0 0 65 [some (.ref 31), some (.ref 1), some (.int x2), some (.int (nI i3)), some (.int v17), none] [.int v27] (mrow (mrow (mrow M 1 r28) 31 q31) 32 q32) Q
          refine G.sl [(.istore 5, 2, 5, 0, 0, 0), (.aload_n 1, 1, 1, 0, 0, 0), (.bipush 59, 2, 0, 0, 0, nI 59)] [] (pc2 := 70) (ls2 := [some (.ref 31), some (.ref 1), some (.int x2), some (.int (nI i3)), some (.int v17), some (.int v27)]) (st2 := [.int (nI 59), .ref 1]) (M2 := mrow (mrow (mrow M 1 r28) 31 q31) 32 q32) (Ps := []) (by decide +kernel) rfl rfl trivial ?_
          obtain ⟨k31, hk⟩ := hk
          rcases g32 : t_needSign r28 (M.1 2) (nI 59) with ⟨u33, r34⟩
          try simp only [g32] at hk
          have t35 : GM z mX6_needSign (d + 1) [.ref 1, .int (nI 59)] (mrow (mrow (mrow M 1 r28) 31 q31) 32 q32) (fun rs => rs = .inl (none, mrow (mrow (mrow M 1 r34) 31 q31) 32 q32)) := by
            have q9 := c_t_needSign_1 z d (mrow (mrow (mrow M 1 r28) 31 q31) 32 q32) (nI 59) k31
            try simp only [mput, mrow_same, mrow_hit, mrow_miss, mrow_sw, idr_eq, ne_eq, Nat.reduceEqDiff, not_false_eq_true, Nat.reduceLT, reduceCtorEq, g32] at q9
            exact q9
          refine G.callV (as := [.int (nI 59)]) (rest := []) (a := 1) oX6_needSign lk_EvenFinders_Book_55 (by decide +kernel) rfl rfl ⟨rfl, rfl⟩ (Nat.le_of_ble_eq_true rfl) rfl ⟨Nat.le_of_ble_eq_true rfl, Nat.le_of_ble_eq_true rfl⟩ t35 (fun v9 N9 h36 => ?_) (fun E9 N9 h36 => by cases h36)
          cases h36
          show G z mX0_readFrom (d + 2) 0 0 73 [some (.ref 31), some (.ref 1), some (.int x2), some (.int (nI i3)), some (.int v17), some (.int v27)] [] (mrow (mrow (mrow M 1 r34) 31 q31) 32 q32) Q
          refine G.sl [(.aload_n 1, 1, 1, 0, 0, 0)] [] (pc2 := 74) (ls2 := [some (.ref 31), some (.ref 1), some (.int x2), some (.int (nI i3)), some (.int v17), some (.int v27)]) (st2 := [.ref 1]) (M2 := mrow (mrow (mrow M 1 r34) 31 q31) 32 q32) (Ps := []) (by decide +kernel) rfl rfl trivial ?_
          obtain ⟨k37, hk⟩ := hk
          have t38 : GM z mX6_isFaulty (d + 1) [.ref 1] (mrow (mrow (mrow M 1 r34) 31 q31) 32 q32) (fun rs => rs = .inl (some (.int (t_isFaulty r34)), mrow (mrow (mrow M 1 r34) 31 q31) 32 q32)) := by
            have q9 := c_t_isFaulty_1 z (d + 1) (mrow (mrow (mrow M 1 r34) 31 q31) 32 q32) 
            try simp only [mput, mrow_same, mrow_hit, mrow_miss, mrow_sw, idr_eq, ne_eq, Nat.reduceEqDiff, not_false_eq_true, Nat.reduceLT, reduceCtorEq] at q9
            exact q9
          refine G.callV (as := []) (rest := []) (a := 1) oX6_isFaulty lk_EvenFinders_Book_44 (by decide +kernel) rfl rfl ⟨rfl, rfl⟩ (Nat.le_of_ble_eq_true rfl) rfl ⟨Nat.le_of_ble_eq_true rfl, Nat.le_of_ble_eq_true rfl⟩ t38 (fun v9 N9 h39 => ?_) (fun E9 N9 h39 => by cases h39)
          cases h39
          show G z mX0_readFrom (d + 2) 0 0 77 [some (.ref 31), some (.ref 1), some (.int x2), some (.int (nI i3)), some (.int v17), some (.int v27)] [.int (t_isFaulty r34)] (mrow (mrow (mrow M 1 r34) 31 q31) 32 q32) Q
          refine G.if_ne (off := (22)) (tgt := 99) (by decide +kernel) rfl (fun c40 => ?_) (fun c40 => ?_)
          · skip
            rw [if_neg c40] at hk
            refine G.sl [(.iinc 3 1, 3, 3, 0, 0, nI 1), (.goto (-96), 3, 6, 0, 0, 0)] [] (pc2 := 6) (ls2 := [some (.ref 31), some (.ref 1), some (.int x2), some (.int ((nI i3) + nI 1)), some (.int v17), some (.int v27)]) (st2 := []) (M2 := mrow (mrow (mrow M 1 r34) 31 q31) 32 q32) (Ps := []) (by decide +kernel) rfl rfl trivial ?_
            refine G.loc (ls2 := [some (.ref 31), some (.ref 1), some (.int x2), some (.int ((nI i3) + nI 1)), none, none]) (by simp [subL]) ?_
            rw [nI_add i3 1]
            simp only [b_readFrom_6, g9, if_neg c14, g16, if_neg c24, g26, g32, if_neg c40] at hX
            exact ih (i3 + 1) r34 q31 q32 (by omega) hk hX
          · skip
            rw [if_pos c40] at hk
            obtain ⟨k41, k42, hk⟩ := hk
            refine G.sl [(.aload_n 0, 1, 0, 0, 0, 0), (.getfield 9, 3, 0, 1, 61, 0), (.iload 4, 2, 4, 0, 0, 0), (.iload 5, 2, 5, 0, 0, 0), (.iastore, 1, 0, 0, 0, 0), (.aload_n 0, 1, 0, 0, 0, 0), (.dup, 1, 0, 0, 0, 0), (.getfield 21, 3, 0, 0, 59, 0), (.iconst 1, 1, 0, 0, 0, nI 1), (.iadd, 1, 0, 0, 0, 0), (.putfield 21, 3, 0, 0, 59, 0), (.iinc 3 1, 3, 3, 0, 0, nI 1), (.goto (-96), 3, 6, 0, 0, 0)] [ix v17] (pc2 := 6) (ls2 := [some (.ref 31), some (.ref 1), some (.int x2), some (.int ((nI i3) + nI 1)), some (.int v17), some (.int v27)]) (st2 := []) (M2 := mput (mput (mrow (mrow (mrow M 1 r34) 31 q31) 32 q32) 32 (ix v17) v27) 31 0 ((q31 0) + (nI 1))) (Ps := [v17 = nI (ix v17) ∧ (ix v17) < 8]) (by decide +kernel) rfl rfl ⟨⟨(ixE k41), k42⟩, trivial⟩ ?_
            refine G.mem (M' := mrow (mrow (mrow M 1 r34) 31 (upd q31 0 ((q31 0) + (nI 1)))) 32 (upd q32 (ix v17) v27)) (by first | rfl | (simp only [mput, mrow_same, mrow_hit, mrow_miss, mrow_sw, idr_eq, ne_eq, Nat.reduceEqDiff, not_false_eq_true, Nat.reduceLT, reduceCtorEq]; done)) ?_
            refine G.loc (ls2 := [some (.ref 31), some (.ref 1), some (.int x2), some (.int ((nI i3) + nI 1)), none, none]) (by simp [subL]) ?_
            rw [nI_add i3 1]
            simp only [b_readFrom_6, g9, if_neg c14, g16, if_neg c24, g26, g32, if_pos c40] at hX
            exact ih (i3 + 1) r34 (upd q31 0 ((q31 0) + (nI 1))) (upd q32 (ix v17) v27) (by omega) hk hX
        · skip
          rw [if_pos c24] at hk
          obtain ⟨k43, k44, hk⟩ := hk
          refine G.sl [(.aload_n 0, 1, 0, 0, 0, 0), (.getfield 9, 3, 0, 1, 61, 0), (.iload 4, 2, 4, 0, 0, 0), (.iaload, 1, 0, 0, 0, 0), (.iconst (-1), 1, 0, 0, 0, (-1))] [ix v17] (pc2 := 45) (ls2 := [some (.ref 31), some (.ref 1), some (.int x2), some (.int (nI i3)), some (.int v17), none]) (st2 := [.int ((-1)), .int (q32 (ix v17))]) (M2 := mrow (mrow (mrow M 1 r18) 31 q31) 32 q32) (Ps := [v17 = nI (ix v17) ∧ (ix v17) < 8]) (by decide +kernel) rfl rfl ⟨⟨(ixE k43), k44⟩, trivial⟩ ?_
          refine G.ic_eq (off := (12)) (tgt := 57) (by decide +kernel) rfl (fun c45 => ?_) (fun c45 => ?_)
          · skip
            rw [if_pos c45] at hk
            refine G.sl [(.aload_n 1, 1, 1, 0, 0, 0), (.iconst 0, 1, 0, 0, 0, nI 0), (.sipush 600, 3, 0, 0, 0, nI 600)] [] (pc2 := 62) (ls2 := [some (.ref 31), some (.ref 1), some (.int x2), some (.int (nI i3)), some (.int v17), none]) (st2 := [.int (nI 600), .int (nI 0), .ref 1]) (M2 := mrow (mrow (mrow M 1 r18) 31 q31) 32 q32) (Ps := []) (by decide +kernel) rfl rfl trivial ?_
            obtain ⟨k46, hk⟩ := hk
            rcases g47 : t_number r18 (M.1 2) (nI 0) (nI 600) with ⟨v48, r49⟩
            try simp only [g47] at hk
            have t50 : GM z mX6_number (d + 1) [.ref 1, .int (nI 0), .int (nI 600)] (mrow (mrow (mrow M 1 r18) 31 q31) 32 q32) (fun rs => rs = .inl (some (.int v48), mrow (mrow (mrow M 1 r49) 31 q31) 32 q32)) := by
              have q9 := c_t_number_1 z d (mrow (mrow (mrow M 1 r18) 31 q31) 32 q32) (nI 0) (nI 600) k46
              try simp only [mput, mrow_same, mrow_hit, mrow_miss, mrow_sw, idr_eq, ne_eq, Nat.reduceEqDiff, not_false_eq_true, Nat.reduceLT, reduceCtorEq, g47] at q9
              exact q9
            refine G.callV (as := [.int (nI 0), .int (nI 600)]) (rest := []) (a := 1) oX6_number lk_EvenFinders_Book_40 (by decide +kernel) rfl rfl ⟨rfl, rfl⟩ (Nat.le_of_ble_eq_true rfl) rfl ⟨Nat.le_of_ble_eq_true rfl, Nat.le_of_ble_eq_true rfl⟩ t50 (fun v9 N9 h51 => ?_) (fun E9 N9 h51 => by cases h51)
            cases h51
            show G z mX0_readFrom (d + 2) 0 0 65 [some (.ref 31), some (.ref 1), some (.int x2), some (.int (nI i3)), some (.int v17), none] [.int v48] (mrow (mrow (mrow M 1 r49) 31 q31) 32 q32) Q
            refine G.sl [(.istore 5, 2, 5, 0, 0, 0), (.aload_n 1, 1, 1, 0, 0, 0), (.bipush 59, 2, 0, 0, 0, nI 59)] [] (pc2 := 70) (ls2 := [some (.ref 31), some (.ref 1), some (.int x2), some (.int (nI i3)), some (.int v17), some (.int v48)]) (st2 := [.int (nI 59), .ref 1]) (M2 := mrow (mrow (mrow M 1 r49) 31 q31) 32 q32) (Ps := []) (by decide +kernel) rfl rfl trivial ?_
            obtain ⟨k52, hk⟩ := hk
            rcases g53 : t_needSign r49 (M.1 2) (nI 59) with ⟨u54, r55⟩
            try simp only [g53] at hk
            have t56 : GM z mX6_needSign (d + 1) [.ref 1, .int (nI 59)] (mrow (mrow (mrow M 1 r49) 31 q31) 32 q32) (fun rs => rs = .inl (none, mrow (mrow (mrow M 1 r55) 31 q31) 32 q32)) := by
              have q9 := c_t_needSign_1 z d (mrow (mrow (mrow M 1 r49) 31 q31) 32 q32) (nI 59) k52
              try simp only [mput, mrow_same, mrow_hit, mrow_miss, mrow_sw, idr_eq, ne_eq, Nat.reduceEqDiff, not_false_eq_true, Nat.reduceLT, reduceCtorEq, g53] at q9
              exact q9
            refine G.callV (as := [.int (nI 59)]) (rest := []) (a := 1) oX6_needSign lk_EvenFinders_Book_55 (by decide +kernel) rfl rfl ⟨rfl, rfl⟩ (Nat.le_of_ble_eq_true rfl) rfl ⟨Nat.le_of_ble_eq_true rfl, Nat.le_of_ble_eq_true rfl⟩ t56 (fun v9 N9 h57 => ?_) (fun E9 N9 h57 => by cases h57)
            cases h57
            show G z mX0_readFrom (d + 2) 0 0 73 [some (.ref 31), some (.ref 1), some (.int x2), some (.int (nI i3)), some (.int v17), some (.int v48)] [] (mrow (mrow (mrow M 1 r55) 31 q31) 32 q32) Q
            refine G.sl [(.aload_n 1, 1, 1, 0, 0, 0)] [] (pc2 := 74) (ls2 := [some (.ref 31), some (.ref 1), some (.int x2), some (.int (nI i3)), some (.int v17), some (.int v48)]) (st2 := [.ref 1]) (M2 := mrow (mrow (mrow M 1 r55) 31 q31) 32 q32) (Ps := []) (by decide +kernel) rfl rfl trivial ?_
            obtain ⟨k58, hk⟩ := hk
            have t59 : GM z mX6_isFaulty (d + 1) [.ref 1] (mrow (mrow (mrow M 1 r55) 31 q31) 32 q32) (fun rs => rs = .inl (some (.int (t_isFaulty r55)), mrow (mrow (mrow M 1 r55) 31 q31) 32 q32)) := by
              have q9 := c_t_isFaulty_1 z (d + 1) (mrow (mrow (mrow M 1 r55) 31 q31) 32 q32) 
              try simp only [mput, mrow_same, mrow_hit, mrow_miss, mrow_sw, idr_eq, ne_eq, Nat.reduceEqDiff, not_false_eq_true, Nat.reduceLT, reduceCtorEq] at q9
              exact q9
            refine G.callV (as := []) (rest := []) (a := 1) oX6_isFaulty lk_EvenFinders_Book_44 (by decide +kernel) rfl rfl ⟨rfl, rfl⟩ (Nat.le_of_ble_eq_true rfl) rfl ⟨Nat.le_of_ble_eq_true rfl, Nat.le_of_ble_eq_true rfl⟩ t59 (fun v9 N9 h60 => ?_) (fun E9 N9 h60 => by cases h60)
            cases h60
            show G z mX0_readFrom (d + 2) 0 0 77 [some (.ref 31), some (.ref 1), some (.int x2), some (.int (nI i3)), some (.int v17), some (.int v48)] [.int (t_isFaulty r55)] (mrow (mrow (mrow M 1 r55) 31 q31) 32 q32) Q
            refine G.if_ne (off := (22)) (tgt := 99) (by decide +kernel) rfl (fun c61 => ?_) (fun c61 => ?_)
            · skip
              rw [if_neg c61] at hk
              refine G.sl [(.iinc 3 1, 3, 3, 0, 0, nI 1), (.goto (-96), 3, 6, 0, 0, 0)] [] (pc2 := 6) (ls2 := [some (.ref 31), some (.ref 1), some (.int x2), some (.int ((nI i3) + nI 1)), some (.int v17), some (.int v48)]) (st2 := []) (M2 := mrow (mrow (mrow M 1 r55) 31 q31) 32 q32) (Ps := []) (by decide +kernel) rfl rfl trivial ?_
              refine G.loc (ls2 := [some (.ref 31), some (.ref 1), some (.int x2), some (.int ((nI i3) + nI 1)), none, none]) (by simp [subL]) ?_
              rw [nI_add i3 1]
              simp only [b_readFrom_6, g9, if_neg c14, g16, if_pos c24, if_pos c45, g47, g53, if_neg c61] at hX
              exact ih (i3 + 1) r55 q31 q32 (by omega) hk hX
            · skip
              rw [if_pos c61] at hk
              refine G.sl [(.aload_n 0, 1, 0, 0, 0, 0), (.getfield 9, 3, 0, 1, 61, 0), (.iload 4, 2, 4, 0, 0, 0), (.iload 5, 2, 5, 0, 0, 0), (.iastore, 1, 0, 0, 0, 0), (.aload_n 0, 1, 0, 0, 0, 0), (.dup, 1, 0, 0, 0, 0), (.getfield 21, 3, 0, 0, 59, 0), (.iconst 1, 1, 0, 0, 0, nI 1), (.iadd, 1, 0, 0, 0, 0), (.putfield 21, 3, 0, 0, 59, 0), (.iinc 3 1, 3, 3, 0, 0, nI 1), (.goto (-96), 3, 6, 0, 0, 0)] [ix v17] (pc2 := 6) (ls2 := [some (.ref 31), some (.ref 1), some (.int x2), some (.int ((nI i3) + nI 1)), some (.int v17), some (.int v48)]) (st2 := []) (M2 := mput (mput (mrow (mrow (mrow M 1 r55) 31 q31) 32 q32) 32 (ix v17) v48) 31 0 ((q31 0) + (nI 1))) (Ps := [v17 = nI (ix v17) ∧ (ix v17) < 8]) (by decide +kernel) rfl rfl ⟨⟨(ixE k43), k44⟩, trivial⟩ ?_
              refine G.mem (M' := mrow (mrow (mrow M 1 r55) 31 (upd q31 0 ((q31 0) + (nI 1)))) 32 (upd q32 (ix v17) v48)) (by first | rfl | (simp only [mput, mrow_same, mrow_hit, mrow_miss, mrow_sw, idr_eq, ne_eq, Nat.reduceEqDiff, not_false_eq_true, Nat.reduceLT, reduceCtorEq]; done)) ?_
              refine G.loc (ls2 := [some (.ref 31), some (.ref 1), some (.int x2), some (.int ((nI i3) + nI 1)), none, none]) (by simp [subL]) ?_
              rw [nI_add i3 1]
              simp only [b_readFrom_6, g9, if_neg c14, g16, if_pos c24, if_pos c45, g47, g53, if_pos c61] at hX
              exact ih (i3 + 1) r55 (upd q31 0 ((q31 0) + (nI 1))) (upd q32 (ix v17) v48) (by omega) hk hX
          · skip
            rw [if_neg c45] at hk
            refine G.sl [(.aload_n 1, 1, 1, 0, 0, 0), (.iconst 2, 1, 0, 0, 0, nI 2), (.aload_n 1, 1, 1, 0, 0, 0), (.getfield 48, 3, 5, 4, 11, 0)] [] (pc2 := 54) (ls2 := [some (.ref 31), some (.ref 1), some (.int x2), some (.int (nI i3)), some (.int v17), none]) (st2 := [.int (r18 4), .int (nI 2), .ref 1]) (M2 := mrow (mrow (mrow M 1 r18) 31 q31) 32 q32) (Ps := []) (by decide +kernel) rfl rfl trivial ?_
            obtain ⟨k62, hk⟩ := hk
            rcases g63 : t_fail r18 (nI 2) (r18 4) with ⟨u64, r65⟩
            try simp only [g63] at hk
            have t66 : GM z mX6_fail (d + 1) [.ref 1, .int (nI 2), .int (r18 4)] (mrow (mrow (mrow M 1 r18) 31 q31) 32 q32) (fun rs => rs = .inl (none, mrow (mrow (mrow M 1 r65) 31 q31) 32 q32)) := by
              have q9 := c_t_fail_1 z (d + 1) (mrow (mrow (mrow M 1 r18) 31 q31) 32 q32) (nI 2) (r18 4)
              try simp only [mput, mrow_same, mrow_hit, mrow_miss, mrow_sw, idr_eq, ne_eq, Nat.reduceEqDiff, not_false_eq_true, Nat.reduceLT, reduceCtorEq, g63] at q9
              exact q9
            refine G.callV (as := [.int (nI 2), .int (r18 4)]) (rest := []) (a := 1) oX6_fail lk_EvenFinders_Book_51 (by decide +kernel) rfl rfl ⟨rfl, rfl⟩ (Nat.le_of_ble_eq_true rfl) rfl ⟨Nat.le_of_ble_eq_true rfl, Nat.le_of_ble_eq_true rfl⟩ t66 (fun v9 N9 h67 => ?_) (fun E9 N9 h67 => by cases h67)
            cases h67
            show G z mX0_readFrom (d + 2) 0 0 57 [some (.ref 31), some (.ref 1), some (.int x2), some (.int (nI i3)), some (.int v17), none] [] (mrow (mrow (mrow M 1 r65) 31 q31) 32 q32) Q
            refine G.sl [(.aload_n 1, 1, 1, 0, 0, 0), (.iconst 0, 1, 0, 0, 0, nI 0), (.sipush 600, 3, 0, 0, 0, nI 600)] [] (pc2 := 62) (ls2 := [some (.ref 31), some (.ref 1), some (.int x2), some (.int (nI i3)), some (.int v17), none]) (st2 := [.int (nI 600), .int (nI 0), .ref 1]) (M2 := mrow (mrow (mrow M 1 r65) 31 q31) 32 q32) (Ps := []) (by decide +kernel) rfl rfl trivial ?_
            obtain ⟨k68, hk⟩ := hk
            rcases g69 : t_number r65 (M.1 2) (nI 0) (nI 600) with ⟨v70, r71⟩
            try simp only [g69] at hk
            have t72 : GM z mX6_number (d + 1) [.ref 1, .int (nI 0), .int (nI 600)] (mrow (mrow (mrow M 1 r65) 31 q31) 32 q32) (fun rs => rs = .inl (some (.int v70), mrow (mrow (mrow M 1 r71) 31 q31) 32 q32)) := by
              have q9 := c_t_number_1 z d (mrow (mrow (mrow M 1 r65) 31 q31) 32 q32) (nI 0) (nI 600) k68
              try simp only [mput, mrow_same, mrow_hit, mrow_miss, mrow_sw, idr_eq, ne_eq, Nat.reduceEqDiff, not_false_eq_true, Nat.reduceLT, reduceCtorEq, g69] at q9
              exact q9
            refine G.callV (as := [.int (nI 0), .int (nI 600)]) (rest := []) (a := 1) oX6_number lk_EvenFinders_Book_40 (by decide +kernel) rfl rfl ⟨rfl, rfl⟩ (Nat.le_of_ble_eq_true rfl) rfl ⟨Nat.le_of_ble_eq_true rfl, Nat.le_of_ble_eq_true rfl⟩ t72 (fun v9 N9 h73 => ?_) (fun E9 N9 h73 => by cases h73)
            cases h73
            show G z mX0_readFrom (d + 2) 0 0 65 [some (.ref 31), some (.ref 1), some (.int x2), some (.int (nI i3)), some (.int v17), none] [.int v70] (mrow (mrow (mrow M 1 r71) 31 q31) 32 q32) Q
            refine G.sl [(.istore 5, 2, 5, 0, 0, 0), (.aload_n 1, 1, 1, 0, 0, 0), (.bipush 59, 2, 0, 0, 0, nI 59)] [] (pc2 := 70) (ls2 := [some (.ref 31), some (.ref 1), some (.int x2), some (.int (nI i3)), some (.int v17), some (.int v70)]) (st2 := [.int (nI 59), .ref 1]) (M2 := mrow (mrow (mrow M 1 r71) 31 q31) 32 q32) (Ps := []) (by decide +kernel) rfl rfl trivial ?_
            obtain ⟨k74, hk⟩ := hk
            rcases g75 : t_needSign r71 (M.1 2) (nI 59) with ⟨u76, r77⟩
            try simp only [g75] at hk
            have t78 : GM z mX6_needSign (d + 1) [.ref 1, .int (nI 59)] (mrow (mrow (mrow M 1 r71) 31 q31) 32 q32) (fun rs => rs = .inl (none, mrow (mrow (mrow M 1 r77) 31 q31) 32 q32)) := by
              have q9 := c_t_needSign_1 z d (mrow (mrow (mrow M 1 r71) 31 q31) 32 q32) (nI 59) k74
              try simp only [mput, mrow_same, mrow_hit, mrow_miss, mrow_sw, idr_eq, ne_eq, Nat.reduceEqDiff, not_false_eq_true, Nat.reduceLT, reduceCtorEq, g75] at q9
              exact q9
            refine G.callV (as := [.int (nI 59)]) (rest := []) (a := 1) oX6_needSign lk_EvenFinders_Book_55 (by decide +kernel) rfl rfl ⟨rfl, rfl⟩ (Nat.le_of_ble_eq_true rfl) rfl ⟨Nat.le_of_ble_eq_true rfl, Nat.le_of_ble_eq_true rfl⟩ t78 (fun v9 N9 h79 => ?_) (fun E9 N9 h79 => by cases h79)
            cases h79
            show G z mX0_readFrom (d + 2) 0 0 73 [some (.ref 31), some (.ref 1), some (.int x2), some (.int (nI i3)), some (.int v17), some (.int v70)] [] (mrow (mrow (mrow M 1 r77) 31 q31) 32 q32) Q
            refine G.sl [(.aload_n 1, 1, 1, 0, 0, 0)] [] (pc2 := 74) (ls2 := [some (.ref 31), some (.ref 1), some (.int x2), some (.int (nI i3)), some (.int v17), some (.int v70)]) (st2 := [.ref 1]) (M2 := mrow (mrow (mrow M 1 r77) 31 q31) 32 q32) (Ps := []) (by decide +kernel) rfl rfl trivial ?_
            obtain ⟨k80, hk⟩ := hk
            have t81 : GM z mX6_isFaulty (d + 1) [.ref 1] (mrow (mrow (mrow M 1 r77) 31 q31) 32 q32) (fun rs => rs = .inl (some (.int (t_isFaulty r77)), mrow (mrow (mrow M 1 r77) 31 q31) 32 q32)) := by
              have q9 := c_t_isFaulty_1 z (d + 1) (mrow (mrow (mrow M 1 r77) 31 q31) 32 q32) 
              try simp only [mput, mrow_same, mrow_hit, mrow_miss, mrow_sw, idr_eq, ne_eq, Nat.reduceEqDiff, not_false_eq_true, Nat.reduceLT, reduceCtorEq] at q9
              exact q9
            refine G.callV (as := []) (rest := []) (a := 1) oX6_isFaulty lk_EvenFinders_Book_44 (by decide +kernel) rfl rfl ⟨rfl, rfl⟩ (Nat.le_of_ble_eq_true rfl) rfl ⟨Nat.le_of_ble_eq_true rfl, Nat.le_of_ble_eq_true rfl⟩ t81 (fun v9 N9 h82 => ?_) (fun E9 N9 h82 => by cases h82)
            cases h82
            show G z mX0_readFrom (d + 2) 0 0 77 [some (.ref 31), some (.ref 1), some (.int x2), some (.int (nI i3)), some (.int v17), some (.int v70)] [.int (t_isFaulty r77)] (mrow (mrow (mrow M 1 r77) 31 q31) 32 q32) Q
            refine G.if_ne (off := (22)) (tgt := 99) (by decide +kernel) rfl (fun c83 => ?_) (fun c83 => ?_)
            · skip
              rw [if_neg c83] at hk
              refine G.sl [(.iinc 3 1, 3, 3, 0, 0, nI 1), (.goto (-96), 3, 6, 0, 0, 0)] [] (pc2 := 6) (ls2 := [some (.ref 31), some (.ref 1), some (.int x2), some (.int ((nI i3) + nI 1)), some (.int v17), some (.int v70)]) (st2 := []) (M2 := mrow (mrow (mrow M 1 r77) 31 q31) 32 q32) (Ps := []) (by decide +kernel) rfl rfl trivial ?_
              refine G.loc (ls2 := [some (.ref 31), some (.ref 1), some (.int x2), some (.int ((nI i3) + nI 1)), none, none]) (by simp [subL]) ?_
              rw [nI_add i3 1]
              simp only [b_readFrom_6, g9, if_neg c14, g16, if_pos c24, if_neg c45, g63, g69, g75, if_neg c83] at hX
              exact ih (i3 + 1) r77 q31 q32 (by omega) hk hX
            · skip
              rw [if_pos c83] at hk
              refine G.sl [(.aload_n 0, 1, 0, 0, 0, 0), (.getfield 9, 3, 0, 1, 61, 0), (.iload 4, 2, 4, 0, 0, 0), (.iload 5, 2, 5, 0, 0, 0), (.iastore, 1, 0, 0, 0, 0), (.aload_n 0, 1, 0, 0, 0, 0), (.dup, 1, 0, 0, 0, 0), (.getfield 21, 3, 0, 0, 59, 0), (.iconst 1, 1, 0, 0, 0, nI 1), (.iadd, 1, 0, 0, 0, 0), (.putfield 21, 3, 0, 0, 59, 0), (.iinc 3 1, 3, 3, 0, 0, nI 1), (.goto (-96), 3, 6, 0, 0, 0)] [ix v17] (pc2 := 6) (ls2 := [some (.ref 31), some (.ref 1), some (.int x2), some (.int ((nI i3) + nI 1)), some (.int v17), some (.int v70)]) (st2 := []) (M2 := mput (mput (mrow (mrow (mrow M 1 r77) 31 q31) 32 q32) 32 (ix v17) v70) 31 0 ((q31 0) + (nI 1))) (Ps := [v17 = nI (ix v17) ∧ (ix v17) < 8]) (by decide +kernel) rfl rfl ⟨⟨(ixE k43), k44⟩, trivial⟩ ?_
              refine G.mem (M' := mrow (mrow (mrow M 1 r77) 31 (upd q31 0 ((q31 0) + (nI 1)))) 32 (upd q32 (ix v17) v70)) (by first | rfl | (simp only [mput, mrow_same, mrow_hit, mrow_miss, mrow_sw, idr_eq, ne_eq, Nat.reduceEqDiff, not_false_eq_true, Nat.reduceLT, reduceCtorEq]; done)) ?_
              refine G.loc (ls2 := [some (.ref 31), some (.ref 1), some (.int x2), some (.int ((nI i3) + nI 1)), none, none]) (by simp [subL]) ?_
              rw [nI_add i3 1]
              simp only [b_readFrom_6, g9, if_neg c14, g16, if_pos c24, if_neg c45, g63, g69, g75, if_pos c83] at hX
              exact ih (i3 + 1) r77 (upd q31 0 ((q31 0) + (nI 1))) (upd q32 (ix v17) v70) (by omega) hk hX
