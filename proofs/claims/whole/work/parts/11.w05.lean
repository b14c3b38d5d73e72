set_option maxHeartbeats 4000000 in
set_option maxRecDepth 3000 in
theorem lp_k_copies_L36_L36_54_57_60_3 (z : Zp) (d : Nat) (M : Mem) (Q : Rs → Prop) (n3 : Nat) (b3 : n3 < 3000) (hk : ∀ i4, i4 < n3 → k_copies_L36_L36_3_ok (M.1 57) (M.1 60) n3 i4) (hX : G z mX12_copies (d) 0 0 23 [none, none, none, none, none] [] (mrow M 60 (k_copies_L36_L36_3 (M.1 57) (M.1 60) n3 n3)) Q) : G z mX12_copies (d) 0 0 3 [none, some (.ref 57), some (.ref 60), some (.int (nI n3)), some (.int (nI 0))] [] M Q := by
  refine G.mem (M' := mrow M 60 (M.1 60)) (by simp only [mrow_self]) ?_
  refine down (n := n3) (P := fun i4 => G z mX12_copies (d) 0 0 3 [none, some (.ref 57), some (.ref 60), some (.int (nI n3)), some (.int (nI i4))] [] (mrow M 60 (k_copies_L36_L36_3 (M.1 57) (M.1 60) n3 i4)) Q) ?_ ?_ 0 (Nat.zero_le _)
  · skip
    refine G.sl [(.iload 4, 2, 4, 0, 0, 0), (.iload_n 3, 1, 3, 0, 0, 0)] [] (pc2 := 6) (ls2 := [none, some (.ref 57), some (.ref 60), some (.int (nI n3)), some (.int (nI n3))]) (st2 := [.int (nI n3), .int (nI n3)]) (M2 := mrow M 60 (k_copies_L36_L36_3 (M.1 57) (M.1 60) n3 n3)) (Ps := []) (by decide +kernel) rfl rfl trivial ?_
    refine G.ic_ge (off := (17)) (tgt := 23) (by decide +kernel) rfl (fun _ => ?_) (fun h9 => absurd (nI_le (by omega) (by omega)) h9)
    refine G.loc (ls2 := [none, none, none, none, none]) (by simp [subL]) ?_
    exact hX
  · skip
    intro i4 hi ih
    have hk := hk i4 hi
    simp only [k_copies_L36_L36_3_ok] at hk
    show G z mX12_copies (d) 0 0 3 [none, some (.ref 57), some (.ref 60), some (.int (nI n3)), some (.int (nI i4))] [] (mrow M 60 (k_copies_L36_L36_3 (M.1 57) (M.1 60) n3 i4)) Q
    refine G.sl [(.iload 4, 2, 4, 0, 0, 0), (.iload_n 3, 1, 3, 0, 0, 0)] [] (pc2 := 6) (ls2 := [none, some (.ref 57), some (.ref 60), some (.int (nI n3)), some (.int (nI i4))]) (st2 := [.int (nI n3), .int (nI i4)]) (M2 := mrow M 60 (k_copies_L36_L36_3 (M.1 57) (M.1 60) n3 i4)) (Ps := []) (by decide +kernel) rfl rfl trivial ?_
    refine G.ic_ge (off := (17)) (tgt := 23) (by decide +kernel) rfl (fun h9 => absurd h9 (nI_ge (by omega) (by omega))) (fun _ => ?_)
    obtain ⟨k1, hk⟩ := hk
    refine G.sl [(.aload_n 2, 1, 2, 0, 0, 0), (.iload 4, 2, 4, 0, 0, 0), (.aload_n 1, 1, 1, 0, 0, 0), (.iload 4, 2, 4, 0, 0, 0), (.iaload, 1, 0, 0, 0, 0), (.iastore, 1, 0, 0, 0, 0), (.iinc 4 1, 3, 4, 0, 0, nI 1), (.goto (-17), 3, 3, 0, 0, 0)] [i4, i4] (pc2 := 3) (ls2 := [none, some (.ref 57), some (.ref 60), some (.int (nI n3)), some (.int ((nI i4) + nI 1))]) (st2 := []) (M2 := mput (mrow M 60 (k_copies_L36_L36_3 (M.1 57) (M.1 60) n3 i4)) 60 i4 (M.1 57 i4)) (Ps := [(nI i4) = nI i4 ∧ i4 < 36, (nI i4) = nI i4 ∧ i4 < 36]) (by decide +kernel) rfl rfl ⟨⟨rfl, k1⟩, ⟨rfl, k1⟩, trivial⟩ ?_
    refine G.mem (M' := mrow M 60 (upd (k_copies_L36_L36_3 (M.1 57) (M.1 60) n3 i4) i4 (M.1 57 i4))) (by first | rfl | (simp only [mput, mrow_same, mrow_hit, mrow_miss, mrow_sw, idr_eq, ne_eq, Nat.reduceEqDiff, not_false_eq_true, Nat.reduceLT, reduceCtorEq]; done)) ?_
    rw [nI_add i4 1]
    simp only [k_copies_L36_L36_3] at ih
    exact ih
set_option maxHeartbeats 4000000 in
set_option maxRecDepth 3000 in
theorem c_k_copies_L36_L36_54_57_60 (z : Zp) (d : Nat) (M : Mem) (n3 : Nat) (b3 : n3 < 3000) (hk : k_copies_L36_L36_ok (M.1 57) (M.1 60) n3) : GM z mX12_copies (d) [.ref 54, .ref 57, .ref 60, .int (nI n3)] M (fun rs => rs = .inl (none, mrow M 60 ((k_copies_L36_L36 (M.1 57) (M.1 60) n3).2))) := by
  simp only [k_copies_L36_L36_ok] at hk
  refine GM.of oX12_copies.1 (Nat.le_of_ble_eq_true rfl) ?_
  show G z mX12_copies (d) 0 0 0 [some (.ref 54), some (.ref 57), some (.ref 60), some (.int (nI n3)), none] [] M _
  obtain ⟨Q, hQ⟩ : ∃ Q : Rs → Prop, Q = (fun rs => rs = .inl (none, mrow M 60 ((k_copies_L36_L36 (M.1 57) (M.1 60) n3).2))) := ⟨_, rfl⟩
  rw [← hQ]
  refine G.sl [(.iconst 0, 1, 0, 0, 0, nI 0), (.istore 4, 2, 4, 0, 0, 0)] [] (pc2 := 3) (ls2 := [some (.ref 54), some (.ref 57), some (.ref 60), some (.int (nI n3)), some (.int (nI 0))]) (st2 := []) (M2 := M) (Ps := []) (by decide +kernel) rfl rfl trivial ?_
  refine G.loc (ls2 := [none, some (.ref 57), some (.ref 60), some (.int (nI n3)), some (.int (nI 0))]) (by simp [subL]) ?_
  obtain ⟨k2, hk⟩ := hk
  refine lp_k_copies_L36_L36_54_57_60_3 z d M Q n3 (by omega) (by first | (simp only [mput, mrow_same, mrow_hit, mrow_miss, mrow_sw, idr_eq, ne_eq, Nat.reduceEqDiff, not_false_eq_true, Nat.reduceLT, reduceCtorEq]; exact k2) | exact k2) ?_
  try simp only [mput, mrow_same, mrow_hit, mrow_miss, mrow_sw, idr_eq, ne_eq, Nat.reduceEqDiff, not_false_eq_true, Nat.reduceLT, reduceCtorEq]
  show G z mX12_copies (d) 0 0 23 [none, none, none, none, none] [] (mrow M 60 (k_copies_L36_L36_3 (M.1 57) (M.1 60) n3 n3)) Q
  exact G.retv (by decide +kernel) rfl (Nat.le_of_ble_eq_true rfl) (Nat.le_of_ble_eq_true rfl) ((by rw [hQ]; simp only [k_copies_L36_L36, mrow_self]))
set_option maxHeartbeats 4000000 in
set_option maxRecDepth 3000 in
theorem lp_k_copies_L30_L30_54_58_61_3 (z : Zp) (d : Nat) (M : Mem) (Q : Rs → Prop) (n3 : Nat) (b3 : n3 < 3000) (hk : ∀ i4, i4 < n3 → k_copies_L30_L30_3_ok (M.1 58) (M.1 61) n3 i4) (hX : G z mX12_copies (d) 0 0 23 [none, none, none, none, none] [] (mrow M 61 (k_copies_L30_L30_3 (M.1 58) (M.1 61) n3 n3)) Q) : G z mX12_copies (d) 0 0 3 [none, some (.ref 58), some (.ref 61), some (.int (nI n3)), some (.int (nI 0))] [] M Q := by
  refine G.mem (M' := mrow M 61 (M.1 61)) (by simp only [mrow_self]) ?_
  refine down (n := n3) (P := fun i4 => G z mX12_copies (d) 0 0 3 [none, some (.ref 58), some (.ref 61), some (.int (nI n3)), some (.int (nI i4))] [] (mrow M 61 (k_copies_L30_L30_3 (M.1 58) (M.1 61) n3 i4)) Q) ?_ ?_ 0 (Nat.zero_le _)
  · skip
    refine G.sl [(.iload 4, 2, 4, 0, 0, 0), (.iload_n 3, 1, 3, 0, 0, 0)] [] (pc2 := 6) (ls2 := [none, some (.ref 58), some (.ref 61), some (.int (nI n3)), some (.int (nI n3))]) (st2 := [.int (nI n3), .int (nI n3)]) (M2 := mrow M 61 (k_copies_L30_L30_3 (M.1 58) (M.1 61) n3 n3)) (Ps := []) (by decide +kernel) rfl rfl trivial ?_
    refine G.ic_ge (off := (17)) (tgt := 23) (by decide +kernel) rfl (fun _ => ?_) (fun h9 => absurd (nI_le (by omega) (by omega)) h9)
    refine G.loc (ls2 := [none, none, none, none, none]) (by simp [subL]) ?_
    exact hX
  · skip
    intro i4 hi ih
    have hk := hk i4 hi
    simp only [k_copies_L30_L30_3_ok] at hk
    show G z mX12_copies (d) 0 0 3 [none, some (.ref 58), some (.ref 61), some (.int (nI n3)), some (.int (nI i4))] [] (mrow M 61 (k_copies_L30_L30_3 (M.1 58) (M.1 61) n3 i4)) Q
    refine G.sl [(.iload 4, 2, 4, 0, 0, 0), (.iload_n 3, 1, 3, 0, 0, 0)] [] (pc2 := 6) (ls2 := [none, some (.ref 58), some (.ref 61), some (.int (nI n3)), some (.int (nI i4))]) (st2 := [.int (nI n3), .int (nI i4)]) (M2 := mrow M 61 (k_copies_L30_L30_3 (M.1 58) (M.1 61) n3 i4)) (Ps := []) (by decide +kernel) rfl rfl trivial ?_
    refine G.ic_ge (off := (17)) (tgt := 23) (by decide +kernel) rfl (fun h9 => absurd h9 (nI_ge (by omega) (by omega))) (fun _ => ?_)
    obtain ⟨k1, hk⟩ := hk
    refine G.sl [(.aload_n 2, 1, 2, 0, 0, 0), (.iload 4, 2, 4, 0, 0, 0), (.aload_n 1, 1, 1, 0, 0, 0), (.iload 4, 2, 4, 0, 0, 0), (.iaload, 1, 0, 0, 0, 0), (.iastore, 1, 0, 0, 0, 0), (.iinc 4 1, 3, 4, 0, 0, nI 1), (.goto (-17), 3, 3, 0, 0, 0)] [i4, i4] (pc2 := 3) (ls2 := [none, some (.ref 58), some (.ref 61), some (.int (nI n3)), some (.int ((nI i4) + nI 1))]) (st2 := []) (M2 := mput (mrow M 61 (k_copies_L30_L30_3 (M.1 58) (M.1 61) n3 i4)) 61 i4 (M.1 58 i4)) (Ps := [(nI i4) = nI i4 ∧ i4 < 30, (nI i4) = nI i4 ∧ i4 < 30]) (by decide +kernel) rfl rfl ⟨⟨rfl, k1⟩, ⟨rfl, k1⟩, trivial⟩ ?_
    refine G.mem (M' := mrow M 61 (upd (k_copies_L30_L30_3 (M.1 58) (M.1 61) n3 i4) i4 (M.1 58 i4))) (by first | rfl | (simp only [mput, mrow_same, mrow_hit, mrow_miss, mrow_sw, idr_eq, ne_eq, Nat.reduceEqDiff, not_false_eq_true, Nat.reduceLT, reduceCtorEq]; done)) ?_
    rw [nI_add i4 1]
    simp only [k_copies_L30_L30_3] at ih
    exact ih
set_option maxHeartbeats 4000000 in
set_option maxRecDepth 3000 in
theorem c_k_copies_L30_L30_54_58_61 (z : Zp) (d : Nat) (M : Mem) (n3 : Nat) (b3 : n3 < 3000) (hk : k_copies_L30_L30_ok (M.1 58) (M.1 61) n3) : GM z mX12_copies (d) [.ref 54, .ref 58, .ref 61, .int (nI n3)] M (fun rs => rs = .inl (none, mrow M 61 ((k_copies_L30_L30 (M.1 58) (M.1 61) n3).2))) := by
  simp only [k_copies_L30_L30_ok] at hk
  refine GM.of oX12_copies.1 (Nat.le_of_ble_eq_true rfl) ?_
  show G z mX12_copies (d) 0 0 0 [some (.ref 54), some (.ref 58), some (.ref 61), some (.int (nI n3)), none] [] M _
  obtain ⟨Q, hQ⟩ : ∃ Q : Rs → Prop, Q = (fun rs => rs = .inl (none, mrow M 61 ((k_copies_L30_L30 (M.1 58) (M.1 61) n3).2))) := ⟨_, rfl⟩
  rw [← hQ]
  refine G.sl [(.iconst 0, 1, 0, 0, 0, nI 0), (.istore 4, 2, 4, 0, 0, 0)] [] (pc2 := 3) (ls2 := [some (.ref 54), some (.ref 58), some (.ref 61), some (.int (nI n3)), some (.int (nI 0))]) (st2 := []) (M2 := M) (Ps := []) (by decide +kernel) rfl rfl trivial ?_
  refine G.loc (ls2 := [none, some (.ref 58), some (.ref 61), some (.int (nI n3)), some (.int (nI 0))]) (by simp [subL]) ?_
  obtain ⟨k2, hk⟩ := hk
  refine lp_k_copies_L30_L30_54_58_61_3 z d M Q n3 (by omega) (by first | (simp only [mput, mrow_same, mrow_hit, mrow_miss, mrow_sw, idr_eq, ne_eq, Nat.reduceEqDiff, not_false_eq_true, Nat.reduceLT, reduceCtorEq]; exact k2) | exact k2) ?_
  try simp only [mput, mrow_same, mrow_hit, mrow_miss, mrow_sw, idr_eq, ne_eq, Nat.reduceEqDiff, not_false_eq_true, Nat.reduceLT, reduceCtorEq]
  show G z mX12_copies (d) 0 0 23 [none, none, none, none, none] [] (mrow M 61 (k_copies_L30_L30_3 (M.1 58) (M.1 61) n3 n3)) Q
  exact G.retv (by decide +kernel) rfl (Nat.le_of_ble_eq_true rfl) (Nat.le_of_ble_eq_true rfl) ((by rw [hQ]; simp only [k_copies_L30_L30, mrow_self]))
set_option maxHeartbeats 4000000 in
set_option maxRecDepth 3000 in
theorem lp_k_copies_L6_L6_54_59_62_3 (z : Zp) (d : Nat) (M : Mem) (Q : Rs → Prop) (n3 : Nat) (b3 : n3 < 3000) (hk : ∀ i4, i4 < n3 → k_copies_L6_L6_3_ok (M.1 59) (M.1 62) n3 i4) (hX : G z mX12_copies (d) 0 0 23 [none, none, none, none, none] [] (mrow M 62 (k_copies_L6_L6_3 (M.1 59) (M.1 62) n3 n3)) Q) : G z mX12_copies (d) 0 0 3 [none, some (.ref 59), some (.ref 62), some (.int (nI n3)), some (.int (nI 0))] [] M Q := by
  refine G.mem (M' := mrow M 62 (M.1 62)) (by simp only [mrow_self]) ?_
  refine down (n := n3) (P := fun i4 => G z mX12_copies (d) 0 0 3 [none, some (.ref 59), some (.ref 62), some (.int (nI n3)), some (.int (nI i4))] [] (mrow M 62 (k_copies_L6_L6_3 (M.1 59) (M.1 62) n3 i4)) Q) ?_ ?_ 0 (Nat.zero_le _)
  · skip
    refine G.sl [(.iload 4, 2, 4, 0, 0, 0), (.iload_n 3, 1, 3, 0, 0, 0)] [] (pc2 := 6) (ls2 := [none, some (.ref 59), some (.ref 62), some (.int (nI n3)), some (.int (nI n3))]) (st2 := [.int (nI n3), .int (nI n3)]) (M2 := mrow M 62 (k_copies_L6_L6_3 (M.1 59) (M.1 62) n3 n3)) (Ps := []) (by decide +kernel) rfl rfl trivial ?_
    refine G.ic_ge (off := (17)) (tgt := 23) (by decide +kernel) rfl (fun _ => ?_) (fun h9 => absurd (nI_le (by omega) (by omega)) h9)
    refine G.loc (ls2 := [none, none, none, none, none]) (by simp [subL]) ?_
    exact hX
  · skip
    intro i4 hi ih
    have hk := hk i4 hi
    simp only [k_copies_L6_L6_3_ok] at hk
    show G z mX12_copies (d) 0 0 3 [none, some (.ref 59), some (.ref 62), some (.int (nI n3)), some (.int (nI i4))] [] (mrow M 62 (k_copies_L6_L6_3 (M.1 59) (M.1 62) n3 i4)) Q
    refine G.sl [(.iload 4, 2, 4, 0, 0, 0), (.iload_n 3, 1, 3, 0, 0, 0)] [] (pc2 := 6) (ls2 := [none, some (.ref 59), some (.ref 62), some (.int (nI n3)), some (.int (nI i4))]) (st2 := [.int (nI n3), .int (nI i4)]) (M2 := mrow M 62 (k_copies_L6_L6_3 (M.1 59) (M.1 62) n3 i4)) (Ps := []) (by decide +kernel) rfl rfl trivial ?_
    refine G.ic_ge (off := (17)) (tgt := 23) (by decide +kernel) rfl (fun h9 => absurd h9 (nI_ge (by omega) (by omega))) (fun _ => ?_)
    obtain ⟨k1, hk⟩ := hk
    refine G.sl [(.aload_n 2, 1, 2, 0, 0, 0), (.iload 4, 2, 4, 0, 0, 0), (.aload_n 1, 1, 1, 0, 0, 0), (.iload 4, 2, 4, 0, 0, 0), (.iaload, 1, 0, 0, 0, 0), (.iastore, 1, 0, 0, 0, 0), (.iinc 4 1, 3, 4, 0, 0, nI 1), (.goto (-17), 3, 3, 0, 0, 0)] [i4, i4] (pc2 := 3) (ls2 := [none, some (.ref 59), some (.ref 62), some (.int (nI n3)), some (.int ((nI i4) + nI 1))]) (st2 := []) (M2 := mput (mrow M 62 (k_copies_L6_L6_3 (M.1 59) (M.1 62) n3 i4)) 62 i4 (M.1 59 i4)) (Ps := [(nI i4) = nI i4 ∧ i4 < 6, (nI i4) = nI i4 ∧ i4 < 6]) (by decide +kernel) rfl rfl ⟨⟨rfl, k1⟩, ⟨rfl, k1⟩, trivial⟩ ?_
    refine G.mem (M' := mrow M 62 (upd (k_copies_L6_L6_3 (M.1 59) (M.1 62) n3 i4) i4 (M.1 59 i4))) (by first | rfl | (simp only [mput, mrow_same, mrow_hit, mrow_miss, mrow_sw, idr_eq, ne_eq, Nat.reduceEqDiff, not_false_eq_true, Nat.reduceLT, reduceCtorEq]; done)) ?_
    rw [nI_add i4 1]
    simp only [k_copies_L6_L6_3] at ih
    exact ih
set_option maxHeartbeats 4000000 in
set_option maxRecDepth 3000 in
theorem c_k_copies_L6_L6_54_59_62 (z : Zp) (d : Nat) (M : Mem) (n3 : Nat) (b3 : n3 < 3000) (hk : k_copies_L6_L6_ok (M.1 59) (M.1 62) n3) : GM z mX12_copies (d) [.ref 54, .ref 59, .ref 62, .int (nI n3)] M (fun rs => rs = .inl (none, mrow M 62 ((k_copies_L6_L6 (M.1 59) (M.1 62) n3).2))) := by
  simp only [k_copies_L6_L6_ok] at hk
  refine GM.of oX12_copies.1 (Nat.le_of_ble_eq_true rfl) ?_
  show G z mX12_copies (d) 0 0 0 [some (.ref 54), some (.ref 59), some (.ref 62), some (.int (nI n3)), none] [] M _
  obtain ⟨Q, hQ⟩ : ∃ Q : Rs → Prop, Q = (fun rs => rs = .inl (none, mrow M 62 ((k_copies_L6_L6 (M.1 59) (M.1 62) n3).2))) := ⟨_, rfl⟩
  rw [← hQ]
  refine G.sl [(.iconst 0, 1, 0, 0, 0, nI 0), (.istore 4, 2, 4, 0, 0, 0)] [] (pc2 := 3) (ls2 := [some (.ref 54), some (.ref 59), some (.ref 62), some (.int (nI n3)), some (.int (nI 0))]) (st2 := []) (M2 := M) (Ps := []) (by decide +kernel) rfl rfl trivial ?_
  refine G.loc (ls2 := [none, some (.ref 59), some (.ref 62), some (.int (nI n3)), some (.int (nI 0))]) (by simp [subL]) ?_
  obtain ⟨k2, hk⟩ := hk
  refine lp_k_copies_L6_L6_54_59_62_3 z d M Q n3 (by omega) (by first | (simp only [mput, mrow_same, mrow_hit, mrow_miss, mrow_sw, idr_eq, ne_eq, Nat.reduceEqDiff, not_false_eq_true, Nat.reduceLT, reduceCtorEq]; exact k2) | exact k2) ?_
  try simp only [mput, mrow_same, mrow_hit, mrow_miss, mrow_sw, idr_eq, ne_eq, Nat.reduceEqDiff, not_false_eq_true, Nat.reduceLT, reduceCtorEq]
  show G z mX12_copies (d) 0 0 23 [none, none, none, none, none] [] (mrow M 62 (k_copies_L6_L6_3 (M.1 59) (M.1 62) n3 n3)) Q
  exact G.retv (by decide +kernel) rfl (Nat.le_of_ble_eq_true rfl) (Nat.le_of_ble_eq_true rfl) ((by rw [hQ]; simp only [k_copies_L6_L6, mrow_self]))
set_option maxHeartbeats 4000000 in
set_option maxRecDepth 3000 in
theorem lp_k_sets_54_101 (z : Zp) (d : Nat) (M : Mem) (Q : Rs → Prop) (nn : Nat) (hnn : nn = 8) (hX : G z mX12_sets (d + 1) 0 0 120 [some (.ref 54), none] [] (mrow M 75 (k_sets_101 (M.1 75) nn)) Q) : G z mX12_sets (d + 1) 0 0 101 [some (.ref 54), some (.int (nI 0))] [] M Q := by
  refine G.mem (M' := mrow M 75 (M.1 75)) (by simp only [mrow_self]) ?_
  refine down (n := nn) (P := fun i1 => G z mX12_sets (d + 1) 0 0 101 [some (.ref 54), some (.int (nI i1))] [] (mrow M 75 (k_sets_101 (M.1 75) i1)) Q) ?_ ?_ 0 (Nat.zero_le _)
  · skip
    refine G.sl [(.iload_n 1, 1, 1, 0, 0, 0), (.bipush 8, 2, 0, 0, 0, nI 8)] [] (pc2 := 104) (ls2 := [some (.ref 54), some (.int (nI nn))]) (st2 := [.int (nI 8), .int (nI nn)]) (M2 := mrow M 75 (k_sets_101 (M.1 75) nn)) (Ps := []) (by decide +kernel) rfl rfl trivial ?_
    refine G.ic_ge (off := (16)) (tgt := 120) (by decide +kernel) rfl (fun _ => ?_) (fun h9 => absurd (nI_le (by omega) (by omega)) h9)
    refine G.loc (ls2 := [some (.ref 54), none]) (by simp [subL]) ?_
    exact hX
  · skip
    intro i1 hi ih
    show G z mX12_sets (d + 1) 0 0 101 [some (.ref 54), some (.int (nI i1))] [] (mrow M 75 (k_sets_101 (M.1 75) i1)) Q
    refine G.sl [(.iload_n 1, 1, 1, 0, 0, 0), (.bipush 8, 2, 0, 0, 0, nI 8)] [] (pc2 := 104) (ls2 := [some (.ref 54), some (.int (nI i1))]) (st2 := [.int (nI 8), .int (nI i1)]) (M2 := mrow M 75 (k_sets_101 (M.1 75) i1)) (Ps := []) (by decide +kernel) rfl rfl trivial ?_
    refine G.ic_ge (off := (16)) (tgt := 120) (by decide +kernel) rfl (fun h9 => absurd h9 (nI_ge (by omega) (by omega))) (fun _ => ?_)
    refine G.sl [(.aload_n 0, 1, 0, 0, 0, 0), (.getfield 77, 3, 11, 44, 167, 0), (.iload_n 1, 1, 1, 0, 0, 0), (.iconst (-1), 1, 0, 0, 0, (-1)), (.iastore, 1, 0, 0, 0, 0), (.iinc 1 1, 3, 1, 0, 0, nI 1), (.goto (-16), 3, 101, 0, 0, 0)] [i1] (pc2 := 101) (ls2 := [some (.ref 54), some (.int ((nI i1) + nI 1))]) (st2 := []) (M2 := mput (mrow M 75 (k_sets_101 (M.1 75) i1)) 75 i1 ((-1))) (Ps := [(nI i1) = nI i1 ∧ i1 < 8]) (by decide +kernel) rfl rfl ⟨⟨rfl, (by omega)⟩, trivial⟩ ?_
    refine G.mem (M' := mrow M 75 (upd (k_sets_101 (M.1 75) i1) i1 ((-1)))) (by first | rfl | (simp only [mput, mrow_same, mrow_hit, mrow_miss, mrow_sw, idr_eq, ne_eq, Nat.reduceEqDiff, not_false_eq_true, Nat.reduceLT, reduceCtorEq]; done)) ?_
    rw [nI_add i1 1]
    simp only [k_sets_101] at ih
    exact ih
set_option maxHeartbeats 4000000 in
set_option maxRecDepth 3000 in
theorem lp_k_sets_54_122 (z : Zp) (d : Nat) (M : Mem) (Q : Rs → Prop) (nn : Nat) (hnn : nn = 51) (hX : G z mX12_sets (d + 1) 0 0 141 [some (.ref 54), none] [] (mrow M 71 (k_sets_122 (M.1 71) nn)) Q) : G z mX12_sets (d + 1) 0 0 122 [some (.ref 54), some (.int (nI 0))] [] M Q := by
  refine G.mem (M' := mrow M 71 (M.1 71)) (by simp only [mrow_self]) ?_
  refine down (n := nn) (P := fun i1 => G z mX12_sets (d + 1) 0 0 122 [some (.ref 54), some (.int (nI i1))] [] (mrow M 71 (k_sets_122 (M.1 71) i1)) Q) ?_ ?_ 0 (Nat.zero_le _)
  · skip
    refine G.sl [(.iload_n 1, 1, 1, 0, 0, 0), (.bipush 51, 2, 0, 0, 0, nI 51)] [] (pc2 := 125) (ls2 := [some (.ref 54), some (.int (nI nn))]) (st2 := [.int (nI 51), .int (nI nn)]) (M2 := mrow M 71 (k_sets_122 (M.1 71) nn)) (Ps := []) (by decide +kernel) rfl rfl trivial ?_
    refine G.ic_ge (off := (16)) (tgt := 141) (by decide +kernel) rfl (fun _ => ?_) (fun h9 => absurd (nI_le (by omega) (by omega)) h9)
    refine G.loc (ls2 := [some (.ref 54), none]) (by simp [subL]) ?_
    exact hX
  · skip
    intro i1 hi ih
    show G z mX12_sets (d + 1) 0 0 122 [some (.ref 54), some (.int (nI i1))] [] (mrow M 71 (k_sets_122 (M.1 71) i1)) Q
    refine G.sl [(.iload_n 1, 1, 1, 0, 0, 0), (.bipush 51, 2, 0, 0, 0, nI 51)] [] (pc2 := 125) (ls2 := [some (.ref 54), some (.int (nI i1))]) (st2 := [.int (nI 51), .int (nI i1)]) (M2 := mrow M 71 (k_sets_122 (M.1 71) i1)) (Ps := []) (by decide +kernel) rfl rfl trivial ?_
    refine G.ic_ge (off := (16)) (tgt := 141) (by decide +kernel) rfl (fun h9 => absurd h9 (nI_ge (by omega) (by omega))) (fun _ => ?_)
    refine G.sl [(.aload_n 0, 1, 0, 0, 0, 0), (.getfield 65, 3, 11, 40, 163, 0), (.iload_n 1, 1, 1, 0, 0, 0), (.iconst 0, 1, 0, 0, 0, nI 0), (.iastore, 1, 0, 0, 0, 0), (.iinc 1 1, 3, 1, 0, 0, nI 1), (.goto (-16), 3, 122, 0, 0, 0)] [i1] (pc2 := 122) (ls2 := [some (.ref 54), some (.int ((nI i1) + nI 1))]) (st2 := []) (M2 := mput (mrow M 71 (k_sets_122 (M.1 71) i1)) 71 i1 (nI 0)) (Ps := [(nI i1) = nI i1 ∧ i1 < 51]) (by decide +kernel) rfl rfl ⟨⟨rfl, (by omega)⟩, trivial⟩ ?_
    refine G.mem (M' := mrow M 71 (upd (k_sets_122 (M.1 71) i1) i1 (nI 0))) (by first | rfl | (simp only [mput, mrow_same, mrow_hit, mrow_miss, mrow_sw, idr_eq, ne_eq, Nat.reduceEqDiff, not_false_eq_true, Nat.reduceLT, reduceCtorEq]; done)) ?_
    rw [nI_add i1 1]
    simp only [k_sets_122] at ih
    exact ih
set_option maxHeartbeats 4000000 in
set_option maxRecDepth 3000 in
theorem lp_k_sets_54_143 (z : Zp) (d : Nat) (M : Mem) (Q : Rs → Prop) (nn : Nat) (nt : Nat) (hnt : nt ≤ 10) (ct : M.1 54 22 = nI nt) (hnn : nn = 10) (hX : G z mX12_sets (d + 1) 0 0 214 [some (.ref 54), none] [] (mrow M 71 (k_sets_143 (M.1 61) (M.1 71) nt nn)) Q) : G z mX12_sets (d + 1) 0 0 143 [some (.ref 54), some (.int (nI 0))] [] M Q := by
  refine G.mem (M' := mrow M 71 (M.1 71)) (by simp only [mrow_self]) ?_
  refine down (n := nn) (P := fun i1 => G z mX12_sets (d + 1) 0 0 143 [some (.ref 54), some (.int (nI i1))] [] (mrow M 71 (k_sets_143 (M.1 61) (M.1 71) nt i1)) Q) ?_ ?_ 0 (Nat.zero_le _)
  · skip
    refine G.sl [(.iload_n 1, 1, 1, 0, 0, 0), (.bipush 10, 2, 0, 0, 0, nI 10)] [] (pc2 := 146) (ls2 := [some (.ref 54), some (.int (nI nn))]) (st2 := [.int (nI 10), .int (nI nn)]) (M2 := mrow M 71 (k_sets_143 (M.1 61) (M.1 71) nt nn)) (Ps := []) (by decide +kernel) rfl rfl trivial ?_
    refine G.ic_ge (off := (68)) (tgt := 214) (by decide +kernel) rfl (fun _ => ?_) (fun h9 => absurd (nI_le (by omega) (by omega)) h9)
    refine G.loc (ls2 := [some (.ref 54), none]) (by simp [subL]) ?_
    exact hX
  · skip
    intro i1 hi ih
    show G z mX12_sets (d + 1) 0 0 143 [some (.ref 54), some (.int (nI i1))] [] (mrow M 71 (k_sets_143 (M.1 61) (M.1 71) nt i1)) Q
    refine G.sl [(.iload_n 1, 1, 1, 0, 0, 0), (.bipush 10, 2, 0, 0, 0, nI 10)] [] (pc2 := 146) (ls2 := [some (.ref 54), some (.int (nI i1))]) (st2 := [.int (nI 10), .int (nI i1)]) (M2 := mrow M 71 (k_sets_143 (M.1 61) (M.1 71) nt i1)) (Ps := []) (by decide +kernel) rfl rfl trivial ?_
    refine G.ic_ge (off := (68)) (tgt := 214) (by decide +kernel) rfl (fun h9 => absurd h9 (nI_ge (by omega) (by omega))) (fun _ => ?_)
    refine G.sl [(.aload_n 0, 1, 0, 0, 0, 0), (.getfield 65, 3, 11, 40, 163, 0), (.iconst 0, 1, 0, 0, 0, nI 0), (.iload_n 1, 1, 1, 0, 0, 0), (.iadd, 1, 0, 0, 0, 0), (.iload_n 1, 1, 1, 0, 0, 0), (.aload_n 0, 1, 0, 0, 0, 0), (.getfield 162, 3, 11, 22, 145, 0)] [] (pc2 := 161) (ls2 := [some (.ref 54), some (.int (nI i1))]) (st2 := [.int (M.1 54 22), .int (nI i1), .int ((nI 0) + (nI i1)), .ref 71]) (M2 := mrow M 71 (k_sets_143 (M.1 61) (M.1 71) nt i1)) (Ps := []) (by decide +kernel) rfl rfl trivial ?_
    rw [ct]
    refine G.ic_ge (off := (14)) (tgt := 175) (by decide +kernel) rfl (fun c21 => ?_) (fun c21 => ?_)
    · skip
      refine G.sl [(.iconst 0, 1, 0, 0, 0, nI 0), (.iastore, 1, 0, 0, 0, 0), (.aload_n 0, 1, 0, 0, 0, 0), (.getfield 65, 3, 11, 40, 163, 0), (.bipush 10, 2, 0, 0, 0, nI 10), (.iload_n 1, 1, 1, 0, 0, 0), (.iadd, 1, 0, 0, 0, 0), (.iload_n 1, 1, 1, 0, 0, 0), (.aload_n 0, 1, 0, 0, 0, 0), (.getfield 162, 3, 11, 22, 145, 0)] [0 + i1] (pc2 := 190) (ls2 := [some (.ref 54), some (.int (nI i1))]) (st2 := [.int (M.1 54 22), .int (nI i1), .int ((nI 10) + (nI i1)), .ref 71]) (M2 := mput (mrow M 71 (k_sets_143 (M.1 61) (M.1 71) nt i1)) 71 (0 + i1) (nI 0)) (Ps := [((nI 0) + (nI i1)) = nI (0 + i1) ∧ (0 + i1) < 51]) (by decide +kernel) rfl rfl ⟨⟨(nI_add _ _), (by omega)⟩, trivial⟩ ?_
      refine G.mem (M' := mrow M 71 (upd (k_sets_143 (M.1 61) (M.1 71) nt i1) (0 + i1) (nI 0))) (by first | rfl | (simp only [mput, mrow_same, mrow_hit, mrow_miss, mrow_sw, idr_eq, ne_eq, Nat.reduceEqDiff, not_false_eq_true, Nat.reduceLT, reduceCtorEq]; done)) ?_
      rw [ct]
      refine G.ic_ge (off := (16)) (tgt := 206) (by decide +kernel) rfl (fun _ => ?_) (fun h9 => absurd c21 h9)
      refine G.sl [(.iconst (-1), 1, 0, 0, 0, (-1)), (.iastore, 1, 0, 0, 0, 0), (.iinc 1 1, 3, 1, 0, 0, nI 1), (.goto (-68), 3, 143, 0, 0, 0)] [10 + i1] (pc2 := 143) (ls2 := [some (.ref 54), some (.int ((nI i1) + nI 1))]) (st2 := []) (M2 := mput (mrow M 71 (upd (k_sets_143 (M.1 61) (M.1 71) nt i1) (0 + i1) (nI 0))) 71 (10 + i1) ((-1))) (Ps := [((nI 10) + (nI i1)) = nI (10 + i1) ∧ (10 + i1) < 51]) (by decide +kernel) rfl rfl ⟨⟨(nI_add _ _), (by omega)⟩, trivial⟩ ?_
      refine G.mem (M' := mrow M 71 (upd (upd (k_sets_143 (M.1 61) (M.1 71) nt i1) (0 + i1) (nI 0)) (10 + i1) ((-1)))) (by first | rfl | (simp only [mput, mrow_same, mrow_hit, mrow_miss, mrow_sw, idr_eq, ne_eq, Nat.reduceEqDiff, not_false_eq_true, Nat.reduceLT, reduceCtorEq]; done)) ?_
      rw [nI_add i1 1]
      simp only [k_sets_143, if_pos c21] at ih
      exact ih
    · skip
      refine G.sl [(.aload_n 0, 1, 0, 0, 0, 0), (.getfield 35, 3, 11, 14, 137, 0), (.iconst 3, 1, 0, 0, 0, nI 3), (.iload_n 1, 1, 1, 0, 0, 0), (.imul, 1, 0, 0, 0, 0), (.iaload, 1, 0, 0, 0, 0), (.goto 4, 3, 176, 0, 0, 0), (.iastore, 1, 0, 0, 0, 0), (.aload_n 0, 1, 0, 0, 0, 0), (.getfield 65, 3, 11, 40, 163, 0), (.bipush 10, 2, 0, 0, 0, nI 10), (.iload_n 1, 1, 1, 0, 0, 0), (.iadd, 1, 0, 0, 0, 0), (.iload_n 1, 1, 1, 0, 0, 0), (.aload_n 0, 1, 0, 0, 0, 0), (.getfield 162, 3, 11, 22, 145, 0)] [3 * i1, 0 + i1] (pc2 := 190) (ls2 := [some (.ref 54), some (.int (nI i1))]) (st2 := [.int (M.1 54 22), .int (nI i1), .int ((nI 10) + (nI i1)), .ref 71]) (M2 := mput (mrow M 71 (k_sets_143 (M.1 61) (M.1 71) nt i1)) 71 (0 + i1) (M.1 61 (3 * i1))) (Ps := [((nI 3) * (nI i1)) = nI (3 * i1) ∧ (3 * i1) < 30, ((nI 0) + (nI i1)) = nI (0 + i1) ∧ (0 + i1) < 51]) (by decide +kernel) rfl rfl ⟨⟨(pk_mul _ _), (by omega)⟩, ⟨(nI_add _ _), (by omega)⟩, trivial⟩ ?_
      refine G.mem (M' := mrow M 71 (upd (k_sets_143 (M.1 61) (M.1 71) nt i1) (0 + i1) (M.1 61 (3 * i1)))) (by first | rfl | (simp only [mput, mrow_same, mrow_hit, mrow_miss, mrow_sw, idr_eq, ne_eq, Nat.reduceEqDiff, not_false_eq_true, Nat.reduceLT, reduceCtorEq]; done)) ?_
      rw [ct]
      refine G.ic_ge (off := (16)) (tgt := 206) (by decide +kernel) rfl (fun h9 => absurd h9 c21) (fun _ => ?_)
      refine G.sl [(.aload_n 0, 1, 0, 0, 0, 0), (.getfield 35, 3, 11, 14, 137, 0), (.iconst 3, 1, 0, 0, 0, nI 3), (.iload_n 1, 1, 1, 0, 0, 0), (.imul, 1, 0, 0, 0, 0), (.iconst 1, 1, 0, 0, 0, nI 1), (.iadd, 1, 0, 0, 0, 0), (.iaload, 1, 0, 0, 0, 0), (.goto 4, 3, 207, 0, 0, 0), (.iastore, 1, 0, 0, 0, 0), (.iinc 1 1, 3, 1, 0, 0, nI 1), (.goto (-68), 3, 143, 0, 0, 0)] [(3 * i1) + 1, 10 + i1] (pc2 := 143) (ls2 := [some (.ref 54), some (.int ((nI i1) + nI 1))]) (st2 := []) (M2 := mput (mrow M 71 (upd (k_sets_143 (M.1 61) (M.1 71) nt i1) (0 + i1) (M.1 61 (3 * i1)))) 71 (10 + i1) (M.1 61 ((3 * i1) + 1))) (Ps := [(((nI 3) * (nI i1)) + (nI 1)) = nI ((3 * i1) + 1) ∧ ((3 * i1) + 1) < 30, ((nI 10) + (nI i1)) = nI (10 + i1) ∧ (10 + i1) < 51]) (by decide +kernel) rfl rfl ⟨⟨(nAdd (pk_mul _ _) rfl), (by omega)⟩, ⟨(nI_add _ _), (by omega)⟩, trivial⟩ ?_
      refine G.mem (M' := mrow M 71 (upd (upd (k_sets_143 (M.1 61) (M.1 71) nt i1) (0 + i1) (M.1 61 (3 * i1))) (10 + i1) (M.1 61 ((3 * i1) + 1)))) (by first | rfl | (simp only [mput, mrow_same, mrow_hit, mrow_miss, mrow_sw, idr_eq, ne_eq, Nat.reduceEqDiff, not_false_eq_true, Nat.reduceLT, reduceCtorEq]; done)) ?_
      rw [nI_add i1 1]
      simp only [k_sets_143, if_neg c21] at ih
      exact ih
set_option maxHeartbeats 4000000 in
set_option maxRecDepth 3000 in
theorem lp_k_sets_54_216 (z : Zp) (d : Nat) (M : Mem) (Q : Rs → Prop) (nf : Nat) (hnf : nf ≤ 6) (cf : M.1 54 23 = nI nf) (hX : G z mX12_sets (d + 1) 0 0 245 [some (.ref 54), none] [] (mrow M 71 (k_sets_216 (M.1 62) (M.1 71) nf)) Q) : G z mX12_sets (d + 1) 0 0 216 [some (.ref 54), some (.int (nI 0))] [] M Q := by
  refine G.mem (M' := mrow M 71 (M.1 71)) (by simp only [mrow_self]) ?_
  refine down (n := nf) (P := fun i1 => G z mX12_sets (d + 1) 0 0 216 [some (.ref 54), some (.int (nI i1))] [] (mrow M 71 (k_sets_216 (M.1 62) (M.1 71) i1)) Q) ?_ ?_ 0 (Nat.zero_le _)
  · skip
    refine G.sl [(.iload_n 1, 1, 1, 0, 0, 0), (.aload_n 0, 1, 0, 0, 0, 0), (.getfield 165, 3, 11, 23, 146, 0)] [] (pc2 := 221) (ls2 := [some (.ref 54), some (.int (nI nf))]) (st2 := [.int (M.1 54 23), .int (nI nf)]) (M2 := mrow M 71 (k_sets_216 (M.1 62) (M.1 71) nf)) (Ps := []) (by decide +kernel) rfl rfl trivial ?_
    rw [cf]
    refine G.ic_ge (off := (24)) (tgt := 245) (by decide +kernel) rfl (fun _ => ?_) (fun h9 => absurd (nI_le (by omega) (by omega)) h9)
    refine G.loc (ls2 := [some (.ref 54), none]) (by simp [subL]) ?_
    exact hX
  · skip
    intro i1 hi ih
    show G z mX12_sets (d + 1) 0 0 216 [some (.ref 54), some (.int (nI i1))] [] (mrow M 71 (k_sets_216 (M.1 62) (M.1 71) i1)) Q
    refine G.sl [(.iload_n 1, 1, 1, 0, 0, 0), (.aload_n 0, 1, 0, 0, 0, 0), (.getfield 165, 3, 11, 23, 146, 0)] [] (pc2 := 221) (ls2 := [some (.ref 54), some (.int (nI i1))]) (st2 := [.int (M.1 54 23), .int (nI i1)]) (M2 := mrow M 71 (k_sets_216 (M.1 62) (M.1 71) i1)) (Ps := []) (by decide +kernel) rfl rfl trivial ?_
    rw [cf]
    refine G.ic_ge (off := (24)) (tgt := 245) (by decide +kernel) rfl (fun h9 => absurd h9 (nI_ge (by omega) (by omega))) (fun _ => ?_)
    refine G.sl [(.aload_n 0, 1, 0, 0, 0, 0), (.getfield 65, 3, 11, 40, 163, 0), (.bipush 20, 2, 0, 0, 0, nI 20), (.iload_n 1, 1, 1, 0, 0, 0), (.iadd, 1, 0, 0, 0, 0), (.aload_n 0, 1, 0, 0, 0, 0), (.getfield 38, 3, 11, 15, 138, 0), (.iload_n 1, 1, 1, 0, 0, 0), (.iaload, 1, 0, 0, 0, 0), (.iastore, 1, 0, 0, 0, 0), (.iinc 1 1, 3, 1, 0, 0, nI 1), (.goto (-26), 3, 216, 0, 0, 0)] [i1, 20 + i1] (pc2 := 216) (ls2 := [some (.ref 54), some (.int ((nI i1) + nI 1))]) (st2 := []) (M2 := mput (mrow M 71 (k_sets_216 (M.1 62) (M.1 71) i1)) 71 (20 + i1) (M.1 62 i1)) (Ps := [(nI i1) = nI i1 ∧ i1 < 6, ((nI 20) + (nI i1)) = nI (20 + i1) ∧ (20 + i1) < 51]) (by decide +kernel) rfl rfl ⟨⟨rfl, (by omega)⟩, ⟨(nI_add _ _), (by omega)⟩, trivial⟩ ?_
    refine G.mem (M' := mrow M 71 (upd (k_sets_216 (M.1 62) (M.1 71) i1) (20 + i1) (M.1 62 i1))) (by first | rfl | (simp only [mput, mrow_same, mrow_hit, mrow_miss, mrow_sw, idr_eq, ne_eq, Nat.reduceEqDiff, not_false_eq_true, Nat.reduceLT, reduceCtorEq]; done)) ?_
    rw [nI_add i1 1]
    simp only [k_sets_216] at ih
    exact ih
set_option maxHeartbeats 4000000 in
set_option maxRecDepth 3000 in
theorem lp_k_layFar_54_2 (z : Zp) (d : Nat) (M : Mem) (Q : Rs → Prop) (nn : Nat) (hnn : nn = 64) (hX : G z mX12_layFar (d) 0 0 38 [some (.ref 54), none, none, none, none, none, none, none] [] (mrow M 76 (k_layFar_2 (M.1 76) nn)) Q) : G z mX12_layFar (d) 0 0 2 [some (.ref 54), some (.int (nI 0)), none, none, none, none, none, none] [] M Q := by
  refine G.mem (M' := mrow M 76 (M.1 76)) (by simp only [mrow_self]) ?_
  refine down (n := nn) (P := fun i1 => G z mX12_layFar (d) 0 0 2 [some (.ref 54), some (.int (nI i1)), none, none, none, none, none, none] [] (mrow M 76 (k_layFar_2 (M.1 76) i1)) Q) ?_ ?_ 0 (Nat.zero_le _)
  · skip
    refine G.sl [(.iload_n 1, 1, 1, 0, 0, 0), (.bipush 64, 2, 0, 0, 0, nI 64)] [] (pc2 := 5) (ls2 := [some (.ref 54), some (.int (nI nn)), none, none, none, none, none, none]) (st2 := [.int (nI 64), .int (nI nn)]) (M2 := mrow M 76 (k_layFar_2 (M.1 76) nn)) (Ps := []) (by decide +kernel) rfl rfl trivial ?_
    refine G.ic_ge (off := (33)) (tgt := 38) (by decide +kernel) rfl (fun _ => ?_) (fun h9 => absurd (nI_le (by omega) (by omega)) h9)
    refine G.loc (ls2 := [some (.ref 54), none, none, none, none, none, none, none]) (by simp [subL]) ?_
    exact hX
  · skip
    intro i1 hi ih
    show G z mX12_layFar (d) 0 0 2 [some (.ref 54), some (.int (nI i1)), none, none, none, none, none, none] [] (mrow M 76 (k_layFar_2 (M.1 76) i1)) Q
    refine G.sl [(.iload_n 1, 1, 1, 0, 0, 0), (.bipush 64, 2, 0, 0, 0, nI 64)] [] (pc2 := 5) (ls2 := [some (.ref 54), some (.int (nI i1)), none, none, none, none, none, none]) (st2 := [.int (nI 64), .int (nI i1)]) (M2 := mrow M 76 (k_layFar_2 (M.1 76) i1)) (Ps := []) (by decide +kernel) rfl rfl trivial ?_
    refine G.ic_ge (off := (33)) (tgt := 38) (by decide +kernel) rfl (fun h9 => absurd h9 (nI_ge (by omega) (by omega))) (fun _ => ?_)
    refine G.sl [(.aload_n 0, 1, 0, 0, 0, 0), (.getfield 80, 3, 11, 46, 169, 0), (.iload_n 1, 1, 1, 0, 0, 0), (.iload_n 1, 1, 1, 0, 0, 0), (.bipush 8, 2, 0, 0, 0, nI 8), (.idiv, 1, 0, 0, 0, 0), (.iload_n 1, 1, 1, 0, 0, 0), (.bipush 8, 2, 0, 0, 0, nI 8), (.irem, 1, 0, 0, 0, 0)] [] (pc2 := 21) (ls2 := [some (.ref 54), some (.int (nI i1)), none, none, none, none, none, none]) (st2 := [.int ((nI i1) - (nI i1) / (nI 8) * (nI 8)), .int ((nI i1) / (nI 8)), .int (nI i1), .ref 76]) (M2 := mrow M 76 (k_layFar_2 (M.1 76) i1)) (Ps := [¬ (nI 8) = 0, ¬ (nI 8) = 0]) (by decide +kernel) rfl rfl ⟨(by decide), (by decide), trivial⟩ ?_
    refine G.ic_ne (off := (7)) (tgt := 28) (by decide +kernel) rfl (fun c1 => ?_) (fun c1 => ?_)
    · skip
      refine G.sl [(.sipush 9999, 3, 0, 0, 0, nI 9999), (.iastore, 1, 0, 0, 0, 0), (.iinc 1 1, 3, 1, 0, 0, nI 1), (.goto (-33), 3, 2, 0, 0, 0)] [i1] (pc2 := 2) (ls2 := [some (.ref 54), some (.int ((nI i1) + nI 1)), none, none, none, none, none, none]) (st2 := []) (M2 := mput (mrow M 76 (k_layFar_2 (M.1 76) i1)) 76 i1 (nI 9999)) (Ps := [(nI i1) = nI i1 ∧ i1 < 64]) (by decide +kernel) rfl rfl ⟨⟨rfl, (by omega)⟩, trivial⟩ ?_
      refine G.mem (M' := mrow M 76 (upd (k_layFar_2 (M.1 76) i1) i1 (nI 9999))) (by first | rfl | (simp only [mput, mrow_same, mrow_hit, mrow_miss, mrow_sw, idr_eq, ne_eq, Nat.reduceEqDiff, not_false_eq_true, Nat.reduceLT, reduceCtorEq]; done)) ?_
      rw [nI_add i1 1]
      simp only [k_layFar_2, if_neg c1] at ih
      exact ih
    · skip
      refine G.sl [(.iconst 0, 1, 0, 0, 0, nI 0), (.goto 6, 3, 31, 0, 0, 0), (.iastore, 1, 0, 0, 0, 0), (.iinc 1 1, 3, 1, 0, 0, nI 1), (.goto (-33), 3, 2, 0, 0, 0)] [i1] (pc2 := 2) (ls2 := [some (.ref 54), some (.int ((nI i1) + nI 1)), none, none, none, none, none, none]) (st2 := []) (M2 := mput (mrow M 76 (k_layFar_2 (M.1 76) i1)) 76 i1 (nI 0)) (Ps := [(nI i1) = nI i1 ∧ i1 < 64]) (by decide +kernel) rfl rfl ⟨⟨rfl, (by omega)⟩, trivial⟩ ?_
      refine G.mem (M' := mrow M 76 (upd (k_layFar_2 (M.1 76) i1) i1 (nI 0))) (by first | rfl | (simp only [mput, mrow_same, mrow_hit, mrow_miss, mrow_sw, idr_eq, ne_eq, Nat.reduceEqDiff, not_false_eq_true, Nat.reduceLT, reduceCtorEq]; done)) ?_
      rw [nI_add i1 1]
      simp only [k_layFar_2, if_pos c1] at ih
      exact ih
set_option maxHeartbeats 4000000 in
set_option maxRecDepth 3000 in
theorem lp_k_layFar_54_80 (z : Zp) (d : Nat) (M : Mem) (Q : Rs → Prop) (n1 : Nat) (n2 : Nat) (x3 : Int32) (x4 : Int32) (np : Nat) (hnp : np ≤ 8) (cp : M.1 54 20 = nI np) (b1 : n1 < 8) (b2 : n2 < 12) (hk : ∀ i5, i5 < np → k_layFar_80_ok (M.1 60) (M.1 76) n1 n2 x3 x4 i5) (hX : G z mX12_layFar (d) 0 0 210 [some (.ref 54), some (.int (nI n1)), some (.int (nI n2)), none, none, none, none, none] [] (mrow M 76 (k_layFar_80 (M.1 60) (M.1 76) n1 n2 x3 x4 np)) Q) : G z mX12_layFar (d) 0 0 80 [some (.ref 54), some (.int (nI n1)), some (.int (nI n2)), some (.int x3), some (.int x4), some (.int (nI 0)), none, none] [] M Q := by
  refine G.mem (M' := mrow M 76 (M.1 76)) (by simp only [mrow_self]) ?_
  refine down (n := np) (P := fun i5 => G z mX12_layFar (d) 0 0 80 [some (.ref 54), some (.int (nI n1)), some (.int (nI n2)), some (.int x3), some (.int x4), some (.int (nI i5)), none, none] [] (mrow M 76 (k_layFar_80 (M.1 60) (M.1 76) n1 n2 x3 x4 i5)) Q) ?_ ?_ 0 (Nat.zero_le _)
  · skip
    refine G.sl [(.iload 5, 2, 5, 0, 0, 0), (.aload_n 0, 1, 0, 0, 0, 0), (.getfield 156, 3, 11, 20, 143, 0)] [] (pc2 := 86) (ls2 := [some (.ref 54), some (.int (nI n1)), some (.int (nI n2)), some (.int x3), some (.int x4), some (.int (nI np)), none, none]) (st2 := [.int (M.1 54 20), .int (nI np)]) (M2 := mrow M 76 (k_layFar_80 (M.1 60) (M.1 76) n1 n2 x3 x4 np)) (Ps := []) (by decide +kernel) rfl rfl trivial ?_
    rw [cp]
    refine G.ic_ge (off := (124)) (tgt := 210) (by decide +kernel) rfl (fun _ => ?_) (fun h9 => absurd (nI_le (by omega) (by omega)) h9)
    refine G.loc (ls2 := [some (.ref 54), some (.int (nI n1)), some (.int (nI n2)), none, none, none, none, none]) (by simp [subL]) ?_
    exact hX
  · skip
    intro i5 hi ih
    have hk := hk i5 hi
    simp only [k_layFar_80_ok] at hk
    show G z mX12_layFar (d) 0 0 80 [some (.ref 54), some (.int (nI n1)), some (.int (nI n2)), some (.int x3), some (.int x4), some (.int (nI i5)), none, none] [] (mrow M 76 (k_layFar_80 (M.1 60) (M.1 76) n1 n2 x3 x4 i5)) Q
    refine G.sl [(.iload 5, 2, 5, 0, 0, 0), (.aload_n 0, 1, 0, 0, 0, 0), (.getfield 156, 3, 11, 20, 143, 0)] [] (pc2 := 86) (ls2 := [some (.ref 54), some (.int (nI n1)), some (.int (nI n2)), some (.int x3), some (.int x4), some (.int (nI i5)), none, none]) (st2 := [.int (M.1 54 20), .int (nI i5)]) (M2 := mrow M 76 (k_layFar_80 (M.1 60) (M.1 76) n1 n2 x3 x4 i5)) (Ps := []) (by decide +kernel) rfl rfl trivial ?_
    rw [cp]
    refine G.ic_ge (off := (124)) (tgt := 210) (by decide +kernel) rfl (fun h9 => absurd h9 (nI_ge (by omega) (by omega))) (fun _ => ?_)
    obtain ⟨k3, k4, k5, k6, hk⟩ := hk
    refine G.sl [(.aload_n 0, 1, 0, 0, 0, 0), (.getfield 80, 3, 11, 46, 169, 0), (.bipush 8, 2, 0, 0, 0, nI 8), (.iload 5, 2, 5, 0, 0, 0), (.imul, 1, 0, 0, 0, 0), (.iload_n 3, 1, 3, 0, 0, 0), (.iadd, 1, 0, 0, 0, 0), (.iaload, 1, 0, 0, 0, 0), (.aload_n 0, 1, 0, 0, 0, 0), (.getfield 32, 3, 11, 13, 136, 0), (.iconst 3, 1, 0, 0, 0, nI 3), (.iload_n 2, 1, 2, 0, 0, 0), (.imul, 1, 0, 0, 0, 0), (.iconst 2, 1, 0, 0, 0, nI 2), (.iadd, 1, 0, 0, 0, 0), (.iaload, 1, 0, 0, 0, 0), (.iadd, 1, 0, 0, 0, 0), (.istore 6, 2, 6, 0, 0, 0), (.aload_n 0, 1, 0, 0, 0, 0), (.getfield 80, 3, 11, 46, 169, 0), (.bipush 8, 2, 0, 0, 0, nI 8), (.iload 5, 2, 5, 0, 0, 0), (.imul, 1, 0, 0, 0, 0), (.iload 4, 2, 4, 0, 0, 0), (.iadd, 1, 0, 0, 0, 0), (.iaload, 1, 0, 0, 0, 0), (.aload_n 0, 1, 0, 0, 0, 0), (.getfield 32, 3, 11, 13, 136, 0), (.iconst 3, 1, 0, 0, 0, nI 3), (.iload_n 2, 1, 2, 0, 0, 0), (.imul, 1, 0, 0, 0, 0), (.iconst 2, 1, 0, 0, 0, nI 2), (.iadd, 1, 0, 0, 0, 0), (.iaload, 1, 0, 0, 0, 0), (.iadd, 1, 0, 0, 0, 0), (.istore 7, 2, 7, 0, 0, 0), (.iload 6, 2, 6, 0, 0, 0), (.aload_n 0, 1, 0, 0, 0, 0), (.getfield 80, 3, 11, 46, 169, 0), (.bipush 8, 2, 0, 0, 0, nI 8), (.iload 5, 2, 5, 0, 0, 0), (.imul, 1, 0, 0, 0, 0), (.iload 4, 2, 4, 0, 0, 0), (.iadd, 1, 0, 0, 0, 0), (.iaload, 1, 0, 0, 0, 0)] [(8 * i5) + (ix x3), (3 * n2) + 2, (8 * i5) + (ix x4), (3 * n2) + 2, (8 * i5) + (ix x4)] (pc2 := 155) (ls2 := [some (.ref 54), some (.int (nI n1)), some (.int (nI n2)), some (.int x3), some (.int x4), some (.int (nI i5)), some (.int (((k_layFar_80 (M.1 60) (M.1 76) n1 n2 x3 x4 i5) ((8 * i5) + (ix x3))) + (M.1 60 ((3 * n2) + 2)))), some (.int (((k_layFar_80 (M.1 60) (M.1 76) n1 n2 x3 x4 i5) ((8 * i5) + (ix x4))) + (M.1 60 ((3 * n2) + 2))))]) (st2 := [.int ((k_layFar_80 (M.1 60) (M.1 76) n1 n2 x3 x4 i5) ((8 * i5) + (ix x4))), .int (((k_layFar_80 (M.1 60) (M.1 76) n1 n2 x3 x4 i5) ((8 * i5) + (ix x3))) + (M.1 60 ((3 * n2) + 2)))]) (M2 := mrow M 76 (k_layFar_80 (M.1 60) (M.1 76) n1 n2 x3 x4 i5)) (Ps := [(((nI 8) * (nI i5)) + x3) = nI ((8 * i5) + (ix x3)) ∧ ((8 * i5) + (ix x3)) < 64, (((nI 3) * (nI n2)) + (nI 2)) = nI ((3 * n2) + 2) ∧ ((3 * n2) + 2) < 36, (((nI 8) * (nI i5)) + x4) = nI ((8 * i5) + (ix x4)) ∧ ((8 * i5) + (ix x4)) < 64, (((nI 3) * (nI n2)) + (nI 2)) = nI ((3 * n2) + 2) ∧ ((3 * n2) + 2) < 36, (((nI 8) * (nI i5)) + x4) = nI ((8 * i5) + (ix x4)) ∧ ((8 * i5) + (ix x4)) < 64]) (by decide +kernel) rfl rfl ⟨⟨(nAdd (pk_mul _ _) (ixE k3)), k4⟩, ⟨(nAdd (pk_mul _ _) rfl), (by omega)⟩, ⟨(nAdd (pk_mul _ _) (ixE k5)), k6⟩, ⟨(nAdd (pk_mul _ _) rfl), (by omega)⟩, ⟨(nAdd (pk_mul _ _) (ixE k5)), k6⟩, trivial⟩ ?_
    refine G.ic_ge (off := (18)) (tgt := 173) (by decide +kernel) rfl (fun c7 => ?_) (fun c7 => ?_)
    · skip
      refine G.sl [(.iload 7, 2, 7, 0, 0, 0), (.aload_n 0, 1, 0, 0, 0, 0), (.getfield 80, 3, 11, 46, 169, 0), (.bipush 8, 2, 0, 0, 0, nI 8), (.iload 5, 2, 5, 0, 0, 0), (.imul, 1, 0, 0, 0, 0), (.iload_n 3, 1, 3, 0, 0, 0), (.iadd, 1, 0, 0, 0, 0), (.iaload, 1, 0, 0, 0, 0)] [(8 * i5) + (ix x3)] (pc2 := 187) (ls2 := [some (.ref 54), some (.int (nI n1)), some (.int (nI n2)), some (.int x3), some (.int x4), some (.int (nI i5)), some (.int (((k_layFar_80 (M.1 60) (M.1 76) n1 n2 x3 x4 i5) ((8 * i5) + (ix x3))) + (M.1 60 ((3 * n2) + 2)))), some (.int (((k_layFar_80 (M.1 60) (M.1 76) n1 n2 x3 x4 i5) ((8 * i5) + (ix x4))) + (M.1 60 ((3 * n2) + 2))))]) (st2 := [.int ((k_layFar_80 (M.1 60) (M.1 76) n1 n2 x3 x4 i5) ((8 * i5) + (ix x3))), .int (((k_layFar_80 (M.1 60) (M.1 76) n1 n2 x3 x4 i5) ((8 * i5) + (ix x4))) + (M.1 60 ((3 * n2) + 2)))]) (M2 := mrow M 76 (k_layFar_80 (M.1 60) (M.1 76) n1 n2 x3 x4 i5)) (Ps := [(((nI 8) * (nI i5)) + x3) = nI ((8 * i5) + (ix x3)) ∧ ((8 * i5) + (ix x3)) < 64]) (by decide +kernel) rfl rfl ⟨⟨(nAdd (pk_mul _ _) (ixE k3)), k4⟩, trivial⟩ ?_
      refine G.ic_ge (off := (17)) (tgt := 204) (by decide +kernel) rfl (fun c8 => ?_) (fun c8 => ?_)
      · skip
        refine G.sl [(.iinc 5 1, 3, 5, 0, 0, nI 1), (.goto (-127), 3, 80, 0, 0, 0)] [] (pc2 := 80) (ls2 := [some (.ref 54), some (.int (nI n1)), some (.int (nI n2)), some (.int x3), some (.int x4), some (.int ((nI i5) + nI 1)), some (.int (((k_layFar_80 (M.1 60) (M.1 76) n1 n2 x3 x4 i5) ((8 * i5) + (ix x3))) + (M.1 60 ((3 * n2) + 2)))), some (.int (((k_layFar_80 (M.1 60) (M.1 76) n1 n2 x3 x4 i5) ((8 * i5) + (ix x4))) + (M.1 60 ((3 * n2) + 2))))]) (st2 := []) (M2 := mrow M 76 (k_layFar_80 (M.1 60) (M.1 76) n1 n2 x3 x4 i5)) (Ps := []) (by decide +kernel) rfl rfl trivial ?_
        refine G.loc (ls2 := [some (.ref 54), some (.int (nI n1)), some (.int (nI n2)), some (.int x3), some (.int x4), some (.int ((nI i5) + nI 1)), none, none]) (by simp [subL]) ?_
        rw [nI_add i5 1]
        simp only [k_layFar_80, if_pos c7, if_pos c8] at ih
        exact ih
      · skip
        refine G.sl [(.aload_n 0, 1, 0, 0, 0, 0), (.getfield 80, 3, 11, 46, 169, 0), (.bipush 8, 2, 0, 0, 0, nI 8), (.iload 5, 2, 5, 0, 0, 0), (.imul, 1, 0, 0, 0, 0), (.iload_n 3, 1, 3, 0, 0, 0), (.iadd, 1, 0, 0, 0, 0), (.iload 7, 2, 7, 0, 0, 0), (.iastore, 1, 0, 0, 0, 0), (.iinc 5 1, 3, 5, 0, 0, nI 1), (.goto (-127), 3, 80, 0, 0, 0)] [(8 * i5) + (ix x3)] (pc2 := 80) (ls2 := [some (.ref 54), some (.int (nI n1)), some (.int (nI n2)), some (.int x3), some (.int x4), some (.int ((nI i5) + nI 1)), some (.int (((k_layFar_80 (M.1 60) (M.1 76) n1 n2 x3 x4 i5) ((8 * i5) + (ix x3))) + (M.1 60 ((3 * n2) + 2)))), some (.int (((k_layFar_80 (M.1 60) (M.1 76) n1 n2 x3 x4 i5) ((8 * i5) + (ix x4))) + (M.1 60 ((3 * n2) + 2))))]) (st2 := []) (M2 := mput (mrow M 76 (k_layFar_80 (M.1 60) (M.1 76) n1 n2 x3 x4 i5)) 76 ((8 * i5) + (ix x3)) (((k_layFar_80 (M.1 60) (M.1 76) n1 n2 x3 x4 i5) ((8 * i5) + (ix x4))) + (M.1 60 ((3 * n2) + 2)))) (Ps := [(((nI 8) * (nI i5)) + x3) = nI ((8 * i5) + (ix x3)) ∧ ((8 * i5) + (ix x3)) < 64]) (by decide +kernel) rfl rfl ⟨⟨(nAdd (pk_mul _ _) (ixE k3)), k4⟩, trivial⟩ ?_
        refine G.mem (M' := mrow M 76 (upd (k_layFar_80 (M.1 60) (M.1 76) n1 n2 x3 x4 i5) ((8 * i5) + (ix x3)) (((k_layFar_80 (M.1 60) (M.1 76) n1 n2 x3 x4 i5) ((8 * i5) + (ix x4))) + (M.1 60 ((3 * n2) + 2))))) (by first | rfl | (simp only [mput, mrow_same, mrow_hit, mrow_miss, mrow_sw, idr_eq, ne_eq, Nat.reduceEqDiff, not_false_eq_true, Nat.reduceLT, reduceCtorEq]; done)) ?_
        refine G.loc (ls2 := [some (.ref 54), some (.int (nI n1)), some (.int (nI n2)), some (.int x3), some (.int x4), some (.int ((nI i5) + nI 1)), none, none]) (by simp [subL]) ?_
        rw [nI_add i5 1]
        simp only [k_layFar_80, if_pos c7, if_neg c8] at ih
        exact ih
    · skip
      refine G.sl [(.aload_n 0, 1, 0, 0, 0, 0), (.getfield 80, 3, 11, 46, 169, 0), (.bipush 8, 2, 0, 0, 0, nI 8), (.iload 5, 2, 5, 0, 0, 0), (.imul, 1, 0, 0, 0, 0), (.iload 4, 2, 4, 0, 0, 0), (.iadd, 1, 0, 0, 0, 0), (.iload 6, 2, 6, 0, 0, 0), (.iastore, 1, 0, 0, 0, 0), (.iload 7, 2, 7, 0, 0, 0), (.aload_n 0, 1, 0, 0, 0, 0), (.getfield 80, 3, 11, 46, 169, 0), (.bipush 8, 2, 0, 0, 0, nI 8), (.iload 5, 2, 5, 0, 0, 0), (.imul, 1, 0, 0, 0, 0), (.iload_n 3, 1, 3, 0, 0, 0), (.iadd, 1, 0, 0, 0, 0), (.iaload, 1, 0, 0, 0, 0)] [(8 * i5) + (ix x4), (8 * i5) + (ix x3)] (pc2 := 187) (ls2 := [some (.ref 54), some (.int (nI n1)), some (.int (nI n2)), some (.int x3), some (.int x4), some (.int (nI i5)), some (.int (((k_layFar_80 (M.1 60) (M.1 76) n1 n2 x3 x4 i5) ((8 * i5) + (ix x3))) + (M.1 60 ((3 * n2) + 2)))), some (.int (((k_layFar_80 (M.1 60) (M.1 76) n1 n2 x3 x4 i5) ((8 * i5) + (ix x4))) + (M.1 60 ((3 * n2) + 2))))]) (st2 := [.int ((upd (k_layFar_80 (M.1 60) (M.1 76) n1 n2 x3 x4 i5) ((8 * i5) + (ix x4)) (((k_layFar_80 (M.1 60) (M.1 76) n1 n2 x3 x4 i5) ((8 * i5) + (ix x3))) + (M.1 60 ((3 * n2) + 2)))) ((8 * i5) + (ix x3))), .int (((k_layFar_80 (M.1 60) (M.1 76) n1 n2 x3 x4 i5) ((8 * i5) + (ix x4))) + (M.1 60 ((3 * n2) + 2)))]) (M2 := mput (mrow M 76 (k_layFar_80 (M.1 60) (M.1 76) n1 n2 x3 x4 i5)) 76 ((8 * i5) + (ix x4)) (((k_layFar_80 (M.1 60) (M.1 76) n1 n2 x3 x4 i5) ((8 * i5) + (ix x3))) + (M.1 60 ((3 * n2) + 2)))) (Ps := [(((nI 8) * (nI i5)) + x4) = nI ((8 * i5) + (ix x4)) ∧ ((8 * i5) + (ix x4)) < 64, (((nI 8) * (nI i5)) + x3) = nI ((8 * i5) + (ix x3)) ∧ ((8 * i5) + (ix x3)) < 64]) (by decide +kernel) rfl rfl ⟨⟨(nAdd (pk_mul _ _) (ixE k5)), k6⟩, ⟨(nAdd (pk_mul _ _) (ixE k3)), k4⟩, trivial⟩ ?_
      refine G.mem (M' := mrow M 76 (upd (k_layFar_80 (M.1 60) (M.1 76) n1 n2 x3 x4 i5) ((8 * i5) + (ix x4)) (((k_layFar_80 (M.1 60) (M.1 76) n1 n2 x3 x4 i5) ((8 * i5) + (ix x3))) + (M.1 60 ((3 * n2) + 2))))) (by first | rfl | (simp only [mput, mrow_same, mrow_hit, mrow_miss, mrow_sw, idr_eq, ne_eq, Nat.reduceEqDiff, not_false_eq_true, Nat.reduceLT, reduceCtorEq]; done)) ?_
      refine G.ic_ge (off := (17)) (tgt := 204) (by decide +kernel) rfl (fun c9 => ?_) (fun c9 => ?_)
      · skip
        refine G.sl [(.iinc 5 1, 3, 5, 0, 0, nI 1), (.goto (-127), 3, 80, 0, 0, 0)] [] (pc2 := 80) (ls2 := [some (.ref 54), some (.int (nI n1)), some (.int (nI n2)), some (.int x3), some (.int x4), some (.int ((nI i5) + nI 1)), some (.int (((k_layFar_80 (M.1 60) (M.1 76) n1 n2 x3 x4 i5) ((8 * i5) + (ix x3))) + (M.1 60 ((3 * n2) + 2)))), some (.int (((k_layFar_80 (M.1 60) (M.1 76) n1 n2 x3 x4 i5) ((8 * i5) + (ix x4))) + (M.1 60 ((3 * n2) + 2))))]) (st2 := []) (M2 := mrow M 76 (upd (k_layFar_80 (M.1 60) (M.1 76) n1 n2 x3 x4 i5) ((8 * i5) + (ix x4)) (((k_layFar_80 (M.1 60) (M.1 76) n1 n2 x3 x4 i5) ((8 * i5) + (ix x3))) + (M.1 60 ((3 * n2) + 2))))) (Ps := []) (by decide +kernel) rfl rfl trivial ?_
        refine G.loc (ls2 := [some (.ref 54), some (.int (nI n1)), some (.int (nI n2)), some (.int x3), some (.int x4), some (.int ((nI i5) + nI 1)), none, none]) (by simp [subL]) ?_
        rw [nI_add i5 1]
        simp only [k_layFar_80, if_neg c7, if_pos c9] at ih
        exact ih
      · skip
        refine G.sl [(.aload_n 0, 1, 0, 0, 0, 0), (.getfield 80, 3, 11, 46, 169, 0), (.bipush 8, 2, 0, 0, 0, nI 8), (.iload 5, 2, 5, 0, 0, 0), (.imul, 1, 0, 0, 0, 0), (.iload_n 3, 1, 3, 0, 0, 0), (.iadd, 1, 0, 0, 0, 0), (.iload 7, 2, 7, 0, 0, 0), (.iastore, 1, 0, 0, 0, 0), (.iinc 5 1, 3, 5, 0, 0, nI 1), (.goto (-127), 3, 80, 0, 0, 0)] [(8 * i5) + (ix x3)] (pc2 := 80) (ls2 := [some (.ref 54), some (.int (nI n1)), some (.int (nI n2)), some (.int x3), some (.int x4), some (.int ((nI i5) + nI 1)), some (.int (((k_layFar_80 (M.1 60) (M.1 76) n1 n2 x3 x4 i5) ((8 * i5) + (ix x3))) + (M.1 60 ((3 * n2) + 2)))), some (.int (((k_layFar_80 (M.1 60) (M.1 76) n1 n2 x3 x4 i5) ((8 * i5) + (ix x4))) + (M.1 60 ((3 * n2) + 2))))]) (st2 := []) (M2 := mput (mrow M 76 (upd (k_layFar_80 (M.1 60) (M.1 76) n1 n2 x3 x4 i5) ((8 * i5) + (ix x4)) (((k_layFar_80 (M.1 60) (M.1 76) n1 n2 x3 x4 i5) ((8 * i5) + (ix x3))) + (M.1 60 ((3 * n2) + 2))))) 76 ((8 * i5) + (ix x3)) (((k_layFar_80 (M.1 60) (M.1 76) n1 n2 x3 x4 i5) ((8 * i5) + (ix x4))) + (M.1 60 ((3 * n2) + 2)))) (Ps := [(((nI 8) * (nI i5)) + x3) = nI ((8 * i5) + (ix x3)) ∧ ((8 * i5) + (ix x3)) < 64]) (by decide +kernel) rfl rfl ⟨⟨(nAdd (pk_mul _ _) (ixE k3)), k4⟩, trivial⟩ ?_
        refine G.mem (M' := mrow M 76 (upd (upd (k_layFar_80 (M.1 60) (M.1 76) n1 n2 x3 x4 i5) ((8 * i5) + (ix x4)) (((k_layFar_80 (M.1 60) (M.1 76) n1 n2 x3 x4 i5) ((8 * i5) + (ix x3))) + (M.1 60 ((3 * n2) + 2)))) ((8 * i5) + (ix x3)) (((k_layFar_80 (M.1 60) (M.1 76) n1 n2 x3 x4 i5) ((8 * i5) + (ix x4))) + (M.1 60 ((3 * n2) + 2))))) (by first | rfl | (simp only [mput, mrow_same, mrow_hit, mrow_miss, mrow_sw, idr_eq, ne_eq, Nat.reduceEqDiff, not_false_eq_true, Nat.reduceLT, reduceCtorEq]; done)) ?_
        refine G.loc (ls2 := [some (.ref 54), some (.int (nI n1)), some (.int (nI n2)), some (.int x3), some (.int x4), some (.int ((nI i5) + nI 1)), none, none]) (by simp [subL]) ?_
        rw [nI_add i5 1]
        simp only [k_layFar_80, if_neg c7, if_neg c9] at ih
        exact ih
set_option maxHeartbeats 4000000 in
set_option maxRecDepth 3000 in
theorem lp_k_layFar_54_48 (z : Zp) (d : Nat) (M : Mem) (Q : Rs → Prop) (n1 : Nat) (np : Nat) (hnp : np ≤ 8) (cp : M.1 54 20 = nI np) (nr : Nat) (hnr : nr ≤ 12) (cr : M.1 54 21 = nI nr) (b1 : n1 < 8) (hk : ∀ i2, i2 < nr → k_layFar_48_ok (M.1 60) (M.1 76) np n1 i2) (hX : G z mX12_layFar (d) 0 0 216 [some (.ref 54), some (.int (nI n1)), none, none, none, none, none, none] [] (mrow M 76 (k_layFar_48 (M.1 60) (M.1 76) np n1 nr)) Q) : G z mX12_layFar (d) 0 0 48 [some (.ref 54), some (.int (nI n1)), some (.int (nI 0)), none, none, none, none, none] [] M Q := by
  refine G.mem (M' := mrow M 76 (M.1 76)) (by simp only [mrow_self]) ?_
  refine down (n := nr) (P := fun i2 => G z mX12_layFar (d) 0 0 48 [some (.ref 54), some (.int (nI n1)), some (.int (nI i2)), none, none, none, none, none] [] (mrow M 76 (k_layFar_48 (M.1 60) (M.1 76) np n1 i2)) Q) ?_ ?_ 0 (Nat.zero_le _)
  · skip
    refine G.sl [(.iload_n 2, 1, 2, 0, 0, 0), (.aload_n 0, 1, 0, 0, 0, 0), (.getfield 159, 3, 11, 21, 144, 0)] [] (pc2 := 53) (ls2 := [some (.ref 54), some (.int (nI n1)), some (.int (nI nr)), none, none, none, none, none]) (st2 := [.int (M.1 54 21), .int (nI nr)]) (M2 := mrow M 76 (k_layFar_48 (M.1 60) (M.1 76) np n1 nr)) (Ps := []) (by decide +kernel) rfl rfl trivial ?_
    rw [cr]
    refine G.ic_ge (off := (163)) (tgt := 216) (by decide +kernel) rfl (fun _ => ?_) (fun h9 => absurd (nI_le (by omega) (by omega)) h9)
    refine G.loc (ls2 := [some (.ref 54), some (.int (nI n1)), none, none, none, none, none, none]) (by simp [subL]) ?_
    exact hX
  · skip
    intro i2 hi ih
    have hk := hk i2 hi
    simp only [k_layFar_48_ok] at hk
    show G z mX12_layFar (d) 0 0 48 [some (.ref 54), some (.int (nI n1)), some (.int (nI i2)), none, none, none, none, none] [] (mrow M 76 (k_layFar_48 (M.1 60) (M.1 76) np n1 i2)) Q
    refine G.sl [(.iload_n 2, 1, 2, 0, 0, 0), (.aload_n 0, 1, 0, 0, 0, 0), (.getfield 159, 3, 11, 21, 144, 0)] [] (pc2 := 53) (ls2 := [some (.ref 54), some (.int (nI n1)), some (.int (nI i2)), none, none, none, none, none]) (st2 := [.int (M.1 54 21), .int (nI i2)]) (M2 := mrow M 76 (k_layFar_48 (M.1 60) (M.1 76) np n1 i2)) (Ps := []) (by decide +kernel) rfl rfl trivial ?_
    rw [cr]
    refine G.ic_ge (off := (163)) (tgt := 216) (by decide +kernel) rfl (fun h9 => absurd h9 (nI_ge (by omega) (by omega))) (fun _ => ?_)
    refine G.sl [(.aload_n 0, 1, 0, 0, 0, 0), (.getfield 32, 3, 11, 13, 136, 0), (.iconst 3, 1, 0, 0, 0, nI 3), (.iload_n 2, 1, 2, 0, 0, 0), (.imul, 1, 0, 0, 0, 0), (.iaload, 1, 0, 0, 0, 0), (.istore_n 3, 1, 3, 0, 0, 0), (.aload_n 0, 1, 0, 0, 0, 0), (.getfield 32, 3, 11, 13, 136, 0), (.iconst 3, 1, 0, 0, 0, nI 3), (.iload_n 2, 1, 2, 0, 0, 0), (.imul, 1, 0, 0, 0, 0), (.iconst 1, 1, 0, 0, 0, nI 1), (.iadd, 1, 0, 0, 0, 0), (.iaload, 1, 0, 0, 0, 0), (.istore 4, 2, 4, 0, 0, 0), (.iconst 0, 1, 0, 0, 0, nI 0), (.istore 5, 2, 5, 0, 0, 0)] [3 * i2, (3 * i2) + 1] (pc2 := 80) (ls2 := [some (.ref 54), some (.int (nI n1)), some (.int (nI i2)), some (.int (M.1 60 (3 * i2))), some (.int (M.1 60 ((3 * i2) + 1))), some (.int (nI 0)), none, none]) (st2 := []) (M2 := mrow M 76 (k_layFar_48 (M.1 60) (M.1 76) np n1 i2)) (Ps := [((nI 3) * (nI i2)) = nI (3 * i2) ∧ (3 * i2) < 36, (((nI 3) * (nI i2)) + (nI 1)) = nI ((3 * i2) + 1) ∧ ((3 * i2) + 1) < 36]) (by decide +kernel) rfl rfl ⟨⟨(pk_mul _ _), (by omega)⟩, ⟨(nAdd (pk_mul _ _) rfl), (by omega)⟩, trivial⟩ ?_
    obtain ⟨k10, hk⟩ := hk
    refine lp_k_layFar_54_80 z d (mrow M 76 (k_layFar_48 (M.1 60) (M.1 76) np n1 i2)) Q n1 i2 (M.1 60 (3 * i2)) (M.1 60 ((3 * i2) + 1)) np hnp cp (by omega) (by omega) (by first | (simp only [mput, mrow_same, mrow_hit, mrow_miss, mrow_sw, idr_eq, ne_eq, Nat.reduceEqDiff, not_false_eq_true, Nat.reduceLT, reduceCtorEq]; exact k10) | exact k10) ?_
    try simp only [mput, mrow_same, mrow_hit, mrow_miss, mrow_sw, idr_eq, ne_eq, Nat.reduceEqDiff, not_false_eq_true, Nat.reduceLT, reduceCtorEq]
    show G z mX12_layFar (d) 0 0 210 [some (.ref 54), some (.int (nI n1)), some (.int (nI i2)), none, none, none, none, none] [] (mrow M 76 (k_layFar_80 (M.1 60) (k_layFar_48 (M.1 60) (M.1 76) np n1 i2) n1 i2 (M.1 60 (3 * i2)) (M.1 60 ((3 * i2) + 1)) np)) Q
    refine G.sl [(.iinc 2 1, 3, 2, 0, 0, nI 1), (.goto (-165), 3, 48, 0, 0, 0)] [] (pc2 := 48) (ls2 := [some (.ref 54), some (.int (nI n1)), some (.int ((nI i2) + nI 1)), none, none, none, none, none]) (st2 := []) (M2 := mrow M 76 (k_layFar_80 (M.1 60) (k_layFar_48 (M.1 60) (M.1 76) np n1 i2) n1 i2 (M.1 60 (3 * i2)) (M.1 60 ((3 * i2) + 1)) np)) (Ps := []) (by decide +kernel) rfl rfl trivial ?_
    rw [nI_add i2 1]
    simp only [k_layFar_48] at ih
    exact ih
set_option maxHeartbeats 4000000 in
set_option maxRecDepth 3000 in
theorem lp_k_layFar_54_40 (z : Zp) (d : Nat) (M : Mem) (Q : Rs → Prop) (nn : Nat) (np : Nat) (hnp : np ≤ 8) (cp : M.1 54 20 = nI np) (nr : Nat) (hnr : nr ≤ 12) (cr : M.1 54 21 = nI nr) (hnn : nn = 8) (hk : ∀ i1, i1 < nn → k_layFar_40_ok (M.1 60) (M.1 76) np nr i1) (hX : G z mX12_layFar (d) 0 0 222 [none, none, none, none, none, none, none, none] [] (mrow M 76 (k_layFar_40 (M.1 60) (M.1 76) np nr nn)) Q) : G z mX12_layFar (d) 0 0 40 [some (.ref 54), some (.int (nI 0)), none, none, none, none, none, none] [] M Q := by
  refine G.mem (M' := mrow M 76 (M.1 76)) (by simp only [mrow_self]) ?_
  refine down (n := nn) (P := fun i1 => G z mX12_layFar (d) 0 0 40 [some (.ref 54), some (.int (nI i1)), none, none, none, none, none, none] [] (mrow M 76 (k_layFar_40 (M.1 60) (M.1 76) np nr i1)) Q) ?_ ?_ 0 (Nat.zero_le _)
  · skip
    refine G.sl [(.iload_n 1, 1, 1, 0, 0, 0), (.bipush 8, 2, 0, 0, 0, nI 8)] [] (pc2 := 43) (ls2 := [some (.ref 54), some (.int (nI nn)), none, none, none, none, none, none]) (st2 := [.int (nI 8), .int (nI nn)]) (M2 := mrow M 76 (k_layFar_40 (M.1 60) (M.1 76) np nr nn)) (Ps := []) (by decide +kernel) rfl rfl trivial ?_
    refine G.ic_ge (off := (179)) (tgt := 222) (by decide +kernel) rfl (fun _ => ?_) (fun h9 => absurd (nI_le (by omega) (by omega)) h9)
    refine G.loc (ls2 := [none, none, none, none, none, none, none, none]) (by simp [subL]) ?_
    exact hX
  · skip
    intro i1 hi ih
    have hk := hk i1 hi
    simp only [k_layFar_40_ok] at hk
    show G z mX12_layFar (d) 0 0 40 [some (.ref 54), some (.int (nI i1)), none, none, none, none, none, none] [] (mrow M 76 (k_layFar_40 (M.1 60) (M.1 76) np nr i1)) Q
    refine G.sl [(.iload_n 1, 1, 1, 0, 0, 0), (.bipush 8, 2, 0, 0, 0, nI 8)] [] (pc2 := 43) (ls2 := [some (.ref 54), some (.int (nI i1)), none, none, none, none, none, none]) (st2 := [.int (nI 8), .int (nI i1)]) (M2 := mrow M 76 (k_layFar_40 (M.1 60) (M.1 76) np nr i1)) (Ps := []) (by decide +kernel) rfl rfl trivial ?_
    refine G.ic_ge (off := (179)) (tgt := 222) (by decide +kernel) rfl (fun h9 => absurd h9 (nI_ge (by omega) (by omega))) (fun _ => ?_)
    refine G.sl [(.iconst 0, 1, 0, 0, 0, nI 0), (.istore_n 2, 1, 2, 0, 0, 0)] [] (pc2 := 48) (ls2 := [some (.ref 54), some (.int (nI i1)), some (.int (nI 0)), none, none, none, none, none]) (st2 := []) (M2 := mrow M 76 (k_layFar_40 (M.1 60) (M.1 76) np nr i1)) (Ps := []) (by decide +kernel) rfl rfl trivial ?_
    obtain ⟨k11, hk⟩ := hk
    refine lp_k_layFar_54_48 z d (mrow M 76 (k_layFar_40 (M.1 60) (M.1 76) np nr i1)) Q i1 np hnp cp nr hnr cr (by omega) (by first | (simp only [mput, mrow_same, mrow_hit, mrow_miss, mrow_sw, idr_eq, ne_eq, Nat.reduceEqDiff, not_false_eq_true, Nat.reduceLT, reduceCtorEq]; exact k11) | exact k11) ?_
    try simp only [mput, mrow_same, mrow_hit, mrow_miss, mrow_sw, idr_eq, ne_eq, Nat.reduceEqDiff, not_false_eq_true, Nat.reduceLT, reduceCtorEq]
    show G z mX12_layFar (d) 0 0 216 [some (.ref 54), some (.int (nI i1)), none, none, none, none, none, none] [] (mrow M 76 (k_layFar_48 (M.1 60) (k_layFar_40 (M.1 60) (M.1 76) np nr i1) np i1 nr)) Q
    refine G.sl [(.iinc 1 1, 3, 1, 0, 0, nI 1), (.goto (-179), 3, 40, 0, 0, 0)] [] (pc2 := 40) (ls2 := [some (.ref 54), some (.int ((nI i1) + nI 1)), none, none, none, none, none, none]) (st2 := []) (M2 := mrow M 76 (k_layFar_48 (M.1 60) (k_layFar_40 (M.1 60) (M.1 76) np nr i1) np i1 nr)) (Ps := []) (by decide +kernel) rfl rfl trivial ?_
    rw [nI_add i1 1]
    simp only [k_layFar_40] at ih
    exact ih
set_option maxHeartbeats 4000000 in
set_option maxRecDepth 3000 in
theorem c_k_layFar_54 (z : Zp) (d : Nat) (M : Mem) (np : Nat) (hnp : np ≤ 8) (cp : M.1 54 20 = nI np) (nr : Nat) (hnr : nr ≤ 12) (cr : M.1 54 21 = nI nr) (hk : k_layFar_ok (M.1 60) (M.1 76) np nr) : GM z mX12_layFar (d) [.ref 54] M (fun rs => rs = .inl (none, mrow M 76 ((k_layFar (M.1 60) (M.1 76) np nr).2))) := by
  simp only [k_layFar_ok] at hk
  refine GM.of oX12_layFar.1 (Nat.le_of_ble_eq_true rfl) ?_
  show G z mX12_layFar (d) 0 0 0 [some (.ref 54), none, none, none, none, none, none, none] [] M _
  obtain ⟨Q, hQ⟩ : ∃ Q : Rs → Prop, Q = (fun rs => rs = .inl (none, mrow M 76 ((k_layFar (M.1 60) (M.1 76) np nr).2))) := ⟨_, rfl⟩
  rw [← hQ]
  refine G.sl [(.iconst 0, 1, 0, 0, 0, nI 0), (.istore_n 1, 1, 1, 0, 0, 0)] [] (pc2 := 2) (ls2 := [some (.ref 54), some (.int (nI 0)), none, none, none, none, none, none]) (st2 := []) (M2 := M) (Ps := []) (by decide +kernel) rfl rfl trivial ?_
  obtain ⟨k2, hk⟩ := hk
  refine lp_k_layFar_54_2 z d M Q (cN 64) (cN_eq 64) ?_
  try simp only [mput, mrow_same, mrow_hit, mrow_miss, mrow_sw, idr_eq, ne_eq, Nat.reduceEqDiff, not_false_eq_true, Nat.reduceLT, reduceCtorEq]
  show G z mX12_layFar (d) 0 0 38 [some (.ref 54), none, none, none, none, none, none, none] [] (mrow M 76 (k_layFar_2 (M.1 76) (cN 64))) Q
  refine G.sl [(.iconst 0, 1, 0, 0, 0, nI 0), (.istore_n 1, 1, 1, 0, 0, 0)] [] (pc2 := 40) (ls2 := [some (.ref 54), some (.int (nI 0)), none, none, none, none, none, none]) (st2 := []) (M2 := mrow M 76 (k_layFar_2 (M.1 76) (cN 64))) (Ps := []) (by decide +kernel) rfl rfl trivial ?_
  obtain ⟨k12, hk⟩ := hk
  refine lp_k_layFar_54_40 z d (mrow M 76 (k_layFar_2 (M.1 76) (cN 64))) Q (cN 8) np hnp cp nr hnr cr (cN_eq 8) (by first | (simp only [mput, mrow_same, mrow_hit, mrow_miss, mrow_sw, idr_eq, ne_eq, Nat.reduceEqDiff, not_false_eq_true, Nat.reduceLT, reduceCtorEq]; exact k12) | exact k12) ?_
  try simp only [mput, mrow_same, mrow_hit, mrow_miss, mrow_sw, idr_eq, ne_eq, Nat.reduceEqDiff, not_false_eq_true, Nat.reduceLT, reduceCtorEq]
  show G z mX12_layFar (d) 0 0 222 [none, none, none, none, none, none, none, none] [] (mrow M 76 (k_layFar_40 (M.1 60) (k_layFar_2 (M.1 76) (cN 64)) np nr (cN 8))) Q
  exact G.retv (by decide +kernel) rfl (Nat.le_of_ble_eq_true rfl) (Nat.le_of_ble_eq_true rfl) ((by rw [hQ]; simp only [k_layFar, mrow_self]))
set_option maxHeartbeats 4000000 in
set_option maxRecDepth 3000 in
theorem c_k_sets_54 (z : Zp) (d : Nat) (M : Mem) (hk : k_sets_ok (M.1 54) (M.1 57) (M.1 58) (M.1 59) (M.1 60) (M.1 61) (M.1 62) (M.1 71) (M.1 75) (M.1 76)) : GM z mX12_sets (d + 1) [.ref 54] M (fun rs => rs = .inl (none, mrow (mrow (mrow (mrow (mrow (mrow (mrow M 54 ((k_sets (M.1 54) (M.1 57) (M.1 58) (M.1 59) (M.1 60) (M.1 61) (M.1 62) (M.1 71) (M.1 75) (M.1 76)).2.1)) 60 ((k_sets (M.1 54) (M.1 57) (M.1 58) (M.1 59) (M.1 60) (M.1 61) (M.1 62) (M.1 71) (M.1 75) (M.1 76)).2.2.1)) 61 ((k_sets (M.1 54) (M.1 57) (M.1 58) (M.1 59) (M.1 60) (M.1 61) (M.1 62) (M.1 71) (M.1 75) (M.1 76)).2.2.2.1)) 62 ((k_sets (M.1 54) (M.1 57) (M.1 58) (M.1 59) (M.1 60) (M.1 61) (M.1 62) (M.1 71) (M.1 75) (M.1 76)).2.2.2.2.1)) 71 ((k_sets (M.1 54) (M.1 57) (M.1 58) (M.1 59) (M.1 60) (M.1 61) (M.1 62) (M.1 71) (M.1 75) (M.1 76)).2.2.2.2.2.1)) 75 ((k_sets (M.1 54) (M.1 57) (M.1 58) (M.1 59) (M.1 60) (M.1 61) (M.1 62) (M.1 71) (M.1 75) (M.1 76)).2.2.2.2.2.2.1)) 76 ((k_sets (M.1 54) (M.1 57) (M.1 58) (M.1 59) (M.1 60) (M.1 61) (M.1 62) (M.1 71) (M.1 75) (M.1 76)).2.2.2.2.2.2.2))) := by
  simp only [k_sets_ok] at hk
  refine GM.of oX12_sets.1 (Nat.le_of_ble_eq_true rfl) ?_
  show G z mX12_sets (d + 1) 0 0 0 [some (.ref 54), none] [] M _
  obtain ⟨Q, hQ⟩ : ∃ Q : Rs → Prop, Q = (fun rs => rs = .inl (none, mrow (mrow (mrow (mrow (mrow (mrow (mrow M 54 ((k_sets (M.1 54) (M.1 57) (M.1 58) (M.1 59) (M.1 60) (M.1 61) (M.1 62) (M.1 71) (M.1 75) (M.1 76)).2.1)) 60 ((k_sets (M.1 54) (M.1 57) (M.1 58) (M.1 59) (M.1 60) (M.1 61) (M.1 62) (M.1 71) (M.1 75) (M.1 76)).2.2.1)) 61 ((k_sets (M.1 54) (M.1 57) (M.1 58) (M.1 59) (M.1 60) (M.1 61) (M.1 62) (M.1 71) (M.1 75) (M.1 76)).2.2.2.1)) 62 ((k_sets (M.1 54) (M.1 57) (M.1 58) (M.1 59) (M.1 60) (M.1 61) (M.1 62) (M.1 71) (M.1 75) (M.1 76)).2.2.2.2.1)) 71 ((k_sets (M.1 54) (M.1 57) (M.1 58) (M.1 59) (M.1 60) (M.1 61) (M.1 62) (M.1 71) (M.1 75) (M.1 76)).2.2.2.2.2.1)) 75 ((k_sets (M.1 54) (M.1 57) (M.1 58) (M.1 59) (M.1 60) (M.1 61) (M.1 62) (M.1 71) (M.1 75) (M.1 76)).2.2.2.2.2.2.1)) 76 ((k_sets (M.1 54) (M.1 57) (M.1 58) (M.1 59) (M.1 60) (M.1 61) (M.1 62) (M.1 71) (M.1 75) (M.1 76)).2.2.2.2.2.2.2))) := ⟨_, rfl⟩
  rw [← hQ]
  refine G.sl [(.aload_n 0, 1, 0, 0, 0, 0), (.aload_n 0, 1, 0, 0, 0, 0), (.getfield 144, 3, 11, 16, 139, 0), (.putfield 156, 3, 11, 20, 143, 0), (.aload_n 0, 1, 0, 0, 0, 0), (.aload_n 0, 1, 0, 0, 0, 0), (.getfield 147, 3, 11, 17, 140, 0), (.putfield 159, 3, 11, 21, 144, 0), (.aload_n 0, 1, 0, 0, 0, 0), (.aload_n 0, 1, 0, 0, 0, 0), (.getfield 150, 3, 11, 18, 141, 0), (.putfield 162, 3, 11, 22, 145, 0), (.aload_n 0, 1, 0, 0, 0, 0), (.aload_n 0, 1, 0, 0, 0, 0), (.getfield 153, 3, 11, 19, 142, 0), (.putfield 165, 3, 11, 23, 146, 0), (.aload_n 0, 1, 0, 0, 0, 0), (.aload_n 0, 1, 0, 0, 0, 0), (.getfield 23, 3, 11, 10, 133, 0), (.aload_n 0, 1, 0, 0, 0, 0), (.getfield 32, 3, 11, 13, 136, 0), (.bipush 36, 2, 0, 0, 0, nI 36)] [] (pc2 := 43) (ls2 := [some (.ref 54), none]) (st2 := [.int (nI 36), .ref 60, .ref 57, .ref 54]) (M2 := mput (mput (mput (mput M 54 20 (M.1 54 16)) 54 21 (M.1 54 17)) 54 22 (M.1 54 18)) 54 23 (M.1 54 19)) (Ps := []) (by decide +kernel) rfl rfl trivial ?_
  refine G.mem (M' := mrow M 54 (upd (upd (upd (upd (M.1 54) 20 (M.1 54 16)) 21 (M.1 54 17)) 22 (M.1 54 18)) 23 (M.1 54 19))) (by first | rfl | (simp only [mput, mrow_same, mrow_hit, mrow_miss, mrow_sw, idr_eq, ne_eq, Nat.reduceEqDiff, not_false_eq_true, Nat.reduceLT, reduceCtorEq]; done)) ?_
  obtain ⟨k1, hk⟩ := hk
  rcases g2 : k_copies_L36_L36 (M.1 57) (M.1 60) 36 with ⟨u3, r4⟩
  try simp only [g2] at hk
  have t5 : GM z mX12_copies (d) [.ref 54, .ref 57, .ref 60, .int (nI 36)] (mrow M 54 (upd (upd (upd (upd (M.1 54) 20 (M.1 54 16)) 21 (M.1 54 17)) 22 (M.1 54 18)) 23 (M.1 54 19))) (fun rs => rs = .inl (none, mrow (mrow M 54 (upd (upd (upd (upd (M.1 54) 20 (M.1 54 16)) 21 (M.1 54 17)) 22 (M.1 54 18)) 23 (M.1 54 19))) 60 r4)) := by
    have q9 := c_k_copies_L36_L36_54_57_60 z d (mrow M 54 (upd (upd (upd (upd (M.1 54) 20 (M.1 54 16)) 21 (M.1 54 17)) 22 (M.1 54 18)) 23 (M.1 54 19))) 36 (by omega) k1
    try simp only [mput, mrow_same, mrow_hit, mrow_miss, mrow_sw, idr_eq, ne_eq, Nat.reduceEqDiff, not_false_eq_true, Nat.reduceLT, reduceCtorEq, g2] at q9
    exact q9
  refine G.callV (as := [.ref 57, .ref 60, .int (nI 36)]) (rest := []) (a := 54) oX12_copies lk_EvenFindersModel_168 (by decide +kernel) rfl rfl ⟨rfl, rfl⟩ (Nat.le_of_ble_eq_true rfl) rfl ⟨Nat.le_of_ble_eq_true rfl, Nat.le_of_ble_eq_true rfl⟩ t5 (fun v9 N9 h6 => ?_) (fun E9 N9 h6 => by cases h6)
  cases h6
  show G z mX12_sets (d + 1) 0 0 46 [some (.ref 54), none] [] (mrow (mrow M 54 (upd (upd (upd (upd (M.1 54) 20 (M.1 54 16)) 21 (M.1 54 17)) 22 (M.1 54 18)) 23 (M.1 54 19))) 60 r4) Q
  refine G.sl [(.aload_n 0, 1, 0, 0, 0, 0), (.aload_n 0, 1, 0, 0, 0, 0), (.getfield 26, 3, 11, 11, 134, 0), (.aload_n 0, 1, 0, 0, 0, 0), (.getfield 35, 3, 11, 14, 137, 0), (.bipush 30, 2, 0, 0, 0, nI 30)] [] (pc2 := 57) (ls2 := [some (.ref 54), none]) (st2 := [.int (nI 30), .ref 61, .ref 58, .ref 54]) (M2 := mrow (mrow M 54 (upd (upd (upd (upd (M.1 54) 20 (M.1 54 16)) 21 (M.1 54 17)) 22 (M.1 54 18)) 23 (M.1 54 19))) 60 r4) (Ps := []) (by decide +kernel) rfl rfl trivial ?_
  obtain ⟨k7, hk⟩ := hk
  rcases g8 : k_copies_L30_L30 (M.1 58) (M.1 61) 30 with ⟨u9, r10⟩
  try simp only [g8] at hk
  have t11 : GM z mX12_copies (d) [.ref 54, .ref 58, .ref 61, .int (nI 30)] (mrow (mrow M 54 (upd (upd (upd (upd (M.1 54) 20 (M.1 54 16)) 21 (M.1 54 17)) 22 (M.1 54 18)) 23 (M.1 54 19))) 60 r4) (fun rs => rs = .inl (none, mrow (mrow (mrow M 54 (upd (upd (upd (upd (M.1 54) 20 (M.1 54 16)) 21 (M.1 54 17)) 22 (M.1 54 18)) 23 (M.1 54 19))) 60 r4) 61 r10)) := by
    have q9 := c_k_copies_L30_L30_54_58_61 z d (mrow (mrow M 54 (upd (upd (upd (upd (M.1 54) 20 (M.1 54 16)) 21 (M.1 54 17)) 22 (M.1 54 18)) 23 (M.1 54 19))) 60 r4) 30 (by omega) k7
    try simp only [mput, mrow_same, mrow_hit, mrow_miss, mrow_sw, idr_eq, ne_eq, Nat.reduceEqDiff, not_false_eq_true, Nat.reduceLT, reduceCtorEq, g8] at q9
    exact q9
  refine G.callV (as := [.ref 58, .ref 61, .int (nI 30)]) (rest := []) (a := 54) oX12_copies lk_EvenFindersModel_168 (by decide +kernel) rfl rfl ⟨rfl, rfl⟩ (Nat.le_of_ble_eq_true rfl) rfl ⟨Nat.le_of_ble_eq_true rfl, Nat.le_of_ble_eq_true rfl⟩ t11 (fun v9 N9 h12 => ?_) (fun E9 N9 h12 => by cases h12)
  cases h12
  show G z mX12_sets (d + 1) 0 0 60 [some (.ref 54), none] [] (mrow (mrow (mrow M 54 (upd (upd (upd (upd (M.1 54) 20 (M.1 54 16)) 21 (M.1 54 17)) 22 (M.1 54 18)) 23 (M.1 54 19))) 60 r4) 61 r10) Q
  refine G.sl [(.aload_n 0, 1, 0, 0, 0, 0), (.aload_n 0, 1, 0, 0, 0, 0), (.getfield 29, 3, 11, 12, 135, 0), (.aload_n 0, 1, 0, 0, 0, 0), (.getfield 38, 3, 11, 15, 138, 0), (.bipush 6, 2, 0, 0, 0, nI 6)] [] (pc2 := 71) (ls2 := [some (.ref 54), none]) (st2 := [.int (nI 6), .ref 62, .ref 59, .ref 54]) (M2 := mrow (mrow (mrow M 54 (upd (upd (upd (upd (M.1 54) 20 (M.1 54 16)) 21 (M.1 54 17)) 22 (M.1 54 18)) 23 (M.1 54 19))) 60 r4) 61 r10) (Ps := []) (by decide +kernel) rfl rfl trivial ?_
  obtain ⟨k13, hk⟩ := hk
  rcases g14 : k_copies_L6_L6 (M.1 59) (M.1 62) 6 with ⟨u15, r16⟩
  try simp only [g14] at hk
  have t17 : GM z mX12_copies (d) [.ref 54, .ref 59, .ref 62, .int (nI 6)] (mrow (mrow (mrow M 54 (upd (upd (upd (upd (M.1 54) 20 (M.1 54 16)) 21 (M.1 54 17)) 22 (M.1 54 18)) 23 (M.1 54 19))) 60 r4) 61 r10) (fun rs => rs = .inl (none, mrow (mrow (mrow (mrow M 54 (upd (upd (upd (upd (M.1 54) 20 (M.1 54 16)) 21 (M.1 54 17)) 22 (M.1 54 18)) 23 (M.1 54 19))) 60 r4) 61 r10) 62 r16)) := by
    have q9 := c_k_copies_L6_L6_54_59_62 z d (mrow (mrow (mrow M 54 (upd (upd (upd (upd (M.1 54) 20 (M.1 54 16)) 21 (M.1 54 17)) 22 (M.1 54 18)) 23 (M.1 54 19))) 60 r4) 61 r10) 6 (by omega) k13
    try simp only [mput, mrow_same, mrow_hit, mrow_miss, mrow_sw, idr_eq, ne_eq, Nat.reduceEqDiff, not_false_eq_true, Nat.reduceLT, reduceCtorEq, g14] at q9
    exact q9
  refine G.callV (as := [.ref 59, .ref 62, .int (nI 6)]) (rest := []) (a := 54) oX12_copies lk_EvenFindersModel_168 (by decide +kernel) rfl rfl ⟨rfl, rfl⟩ (Nat.le_of_ble_eq_true rfl) rfl ⟨Nat.le_of_ble_eq_true rfl, Nat.le_of_ble_eq_true rfl⟩ t17 (fun v9 N9 h18 => ?_) (fun E9 N9 h18 => by cases h18)
  cases h18
  show G z mX12_sets (d + 1) 0 0 74 [some (.ref 54), none] [] (mrow (mrow (mrow (mrow M 54 (upd (upd (upd (upd (M.1 54) 20 (M.1 54 16)) 21 (M.1 54 17)) 22 (M.1 54 18)) 23 (M.1 54 19))) 60 r4) 61 r10) 62 r16) Q
  refine G.sl [(.aload_n 0, 1, 0, 0, 0, 0), (.iconst 0, 1, 0, 0, 0, nI 0), (.putfield 172, 3, 11, 30, 153, 0), (.aload_n 0, 1, 0, 0, 0, 0), (.iconst 0, 1, 0, 0, 0, nI 0), (.putfield 175, 3, 11, 45, 168, 0), (.aload_n 0, 1, 0, 0, 0, 0), (.iconst 0, 1, 0, 0, 0, nI 0), (.putfield 178, 3, 11, 35, 158, 0), (.aload_n 0, 1, 0, 0, 0, 0), (.iconst 0, 1, 0, 0, 0, nI 0), (.putfield 181, 3, 11, 51, 174, 0), (.aload_n 0, 1, 0, 0, 0, 0), (.iconst 0, 1, 0, 0, 0, nI 0), (.putfield 184, 3, 11, 36, 159, 0), (.iconst 0, 1, 0, 0, 0, nI 0), (.istore_n 1, 1, 1, 0, 0, 0)] [] (pc2 := 101) (ls2 := [some (.ref 54), some (.int (nI 0))]) (st2 := []) (M2 := mput (mput (mput (mput (mput (mrow (mrow (mrow (mrow M 54 (upd (upd (upd (upd (M.1 54) 20 (M.1 54 16)) 21 (M.1 54 17)) 22 (M.1 54 18)) 23 (M.1 54 19))) 60 r4) 61 r10) 62 r16) 54 30 (nI 0)) 54 45 (nI 0)) 54 35 (nI 0)) 54 51 (nI 0)) 54 36 (nI 0)) (Ps := []) (by decide +kernel) rfl rfl trivial ?_
  refine G.mem (M' := mrow (mrow (mrow (mrow M 54 (upd (upd (upd (upd (upd (upd (upd (upd (upd (M.1 54) 20 (M.1 54 16)) 21 (M.1 54 17)) 22 (M.1 54 18)) 23 (M.1 54 19)) 30 (nI 0)) 45 (nI 0)) 35 (nI 0)) 51 (nI 0)) 36 (nI 0))) 60 r4) 61 r10) 62 r16) (by first | rfl | (simp only [mput, mrow_same, mrow_hit, mrow_miss, mrow_sw, idr_eq, ne_eq, Nat.reduceEqDiff, not_false_eq_true, Nat.reduceLT, reduceCtorEq]; done)) ?_
  obtain ⟨k19, hk⟩ := hk
  refine lp_k_sets_54_101 z d (mrow (mrow (mrow (mrow M 54 (upd (upd (upd (upd (upd (upd (upd (upd (upd (M.1 54) 20 (M.1 54 16)) 21 (M.1 54 17)) 22 (M.1 54 18)) 23 (M.1 54 19)) 30 (nI 0)) 45 (nI 0)) 35 (nI 0)) 51 (nI 0)) 36 (nI 0))) 60 r4) 61 r10) 62 r16) Q (cN 8) (cN_eq 8) ?_
  try simp only [mput, mrow_same, mrow_hit, mrow_miss, mrow_sw, idr_eq, ne_eq, Nat.reduceEqDiff, not_false_eq_true, Nat.reduceLT, reduceCtorEq]
  show G z mX12_sets (d + 1) 0 0 120 [some (.ref 54), none] [] (mrow (mrow (mrow (mrow (mrow M 54 (upd (upd (upd (upd (upd (upd (upd (upd (upd (M.1 54) 20 (M.1 54 16)) 21 (M.1 54 17)) 22 (M.1 54 18)) 23 (M.1 54 19)) 30 (nI 0)) 45 (nI 0)) 35 (nI 0)) 51 (nI 0)) 36 (nI 0))) 60 r4) 61 r10) 62 r16) 75 (k_sets_101 (M.1 75) (cN 8))) Q
  refine G.sl [(.iconst 0, 1, 0, 0, 0, nI 0), (.istore_n 1, 1, 1, 0, 0, 0)] [] (pc2 := 122) (ls2 := [some (.ref 54), some (.int (nI 0))]) (st2 := []) (M2 := mrow (mrow (mrow (mrow (mrow M 54 (upd (upd (upd (upd (upd (upd (upd (upd (upd (M.1 54) 20 (M.1 54 16)) 21 (M.1 54 17)) 22 (M.1 54 18)) 23 (M.1 54 19)) 30 (nI 0)) 45 (nI 0)) 35 (nI 0)) 51 (nI 0)) 36 (nI 0))) 60 r4) 61 r10) 62 r16) 75 (k_sets_101 (M.1 75) (cN 8))) (Ps := []) (by decide +kernel) rfl rfl trivial ?_
  obtain ⟨k20, hk⟩ := hk
  refine lp_k_sets_54_122 z d (mrow (mrow (mrow (mrow (mrow M 54 (upd (upd (upd (upd (upd (upd (upd (upd (upd (M.1 54) 20 (M.1 54 16)) 21 (M.1 54 17)) 22 (M.1 54 18)) 23 (M.1 54 19)) 30 (nI 0)) 45 (nI 0)) 35 (nI 0)) 51 (nI 0)) 36 (nI 0))) 60 r4) 61 r10) 62 r16) 75 (k_sets_101 (M.1 75) (cN 8))) Q (cN 51) (cN_eq 51) ?_
  try simp only [mput, mrow_same, mrow_hit, mrow_miss, mrow_sw, idr_eq, ne_eq, Nat.reduceEqDiff, not_false_eq_true, Nat.reduceLT, reduceCtorEq]
  show G z mX12_sets (d + 1) 0 0 141 [some (.ref 54), none] [] (mrow (mrow (mrow (mrow (mrow (mrow M 54 (upd (upd (upd (upd (upd (upd (upd (upd (upd (M.1 54) 20 (M.1 54 16)) 21 (M.1 54 17)) 22 (M.1 54 18)) 23 (M.1 54 19)) 30 (nI 0)) 45 (nI 0)) 35 (nI 0)) 51 (nI 0)) 36 (nI 0))) 60 r4) 61 r10) 62 r16) 71 (k_sets_122 (M.1 71) (cN 51))) 75 (k_sets_101 (M.1 75) (cN 8))) Q
  refine G.sl [(.iconst 0, 1, 0, 0, 0, nI 0), (.istore_n 1, 1, 1, 0, 0, 0)] [] (pc2 := 143) (ls2 := [some (.ref 54), some (.int (nI 0))]) (st2 := []) (M2 := mrow (mrow (mrow (mrow (mrow (mrow M 54 (upd (upd (upd (upd (upd (upd (upd (upd (upd (M.1 54) 20 (M.1 54 16)) 21 (M.1 54 17)) 22 (M.1 54 18)) 23 (M.1 54 19)) 30 (nI 0)) 45 (nI 0)) 35 (nI 0)) 51 (nI 0)) 36 (nI 0))) 60 r4) 61 r10) 62 r16) 71 (k_sets_122 (M.1 71) (cN 51))) 75 (k_sets_101 (M.1 75) (cN 8))) (Ps := []) (by decide +kernel) rfl rfl trivial ?_
  obtain ⟨k22, k23, hk⟩ := hk
  obtain ⟨k24, hk⟩ := hk
  refine lp_k_sets_54_143 z d (mrow (mrow (mrow (mrow (mrow (mrow M 54 (upd (upd (upd (upd (upd (upd (upd (upd (upd (M.1 54) 20 (M.1 54 16)) 21 (M.1 54 17)) 22 (M.1 54 18)) 23 (M.1 54 19)) 30 (nI 0)) 45 (nI 0)) 35 (nI 0)) 51 (nI 0)) 36 (nI 0))) 60 r4) 61 r10) 62 r16) 71 (k_sets_122 (M.1 71) (cN 51))) 75 (k_sets_101 (M.1 75) (cN 8))) Q (cN 10) (ix (M.1 54 18)) k23 (ixE k22) (cN_eq 10) ?_
  try simp only [mput, mrow_same, mrow_hit, mrow_miss, mrow_sw, idr_eq, ne_eq, Nat.reduceEqDiff, not_false_eq_true, Nat.reduceLT, reduceCtorEq]
  show G z mX12_sets (d + 1) 0 0 214 [some (.ref 54), none] [] (mrow (mrow (mrow (mrow (mrow (mrow M 54 (upd (upd (upd (upd (upd (upd (upd (upd (upd (M.1 54) 20 (M.1 54 16)) 21 (M.1 54 17)) 22 (M.1 54 18)) 23 (M.1 54 19)) 30 (nI 0)) 45 (nI 0)) 35 (nI 0)) 51 (nI 0)) 36 (nI 0))) 60 r4) 61 r10) 62 r16) 71 (k_sets_143 r10 (k_sets_122 (M.1 71) (cN 51)) (ix (M.1 54 18)) (cN 10))) 75 (k_sets_101 (M.1 75) (cN 8))) Q
  refine G.sl [(.iconst 0, 1, 0, 0, 0, nI 0), (.istore_n 1, 1, 1, 0, 0, 0)] [] (pc2 := 216) (ls2 := [some (.ref 54), some (.int (nI 0))]) (st2 := []) (M2 := mrow (mrow (mrow (mrow (mrow (mrow M 54 (upd (upd (upd (upd (upd (upd (upd (upd (upd (M.1 54) 20 (M.1 54 16)) 21 (M.1 54 17)) 22 (M.1 54 18)) 23 (M.1 54 19)) 30 (nI 0)) 45 (nI 0)) 35 (nI 0)) 51 (nI 0)) 36 (nI 0))) 60 r4) 61 r10) 62 r16) 71 (k_sets_143 r10 (k_sets_122 (M.1 71) (cN 51)) (ix (M.1 54 18)) (cN 10))) 75 (k_sets_101 (M.1 75) (cN 8))) (Ps := []) (by decide +kernel) rfl rfl trivial ?_
  obtain ⟨k25, k26, hk⟩ := hk
  obtain ⟨k27, hk⟩ := hk
  refine lp_k_sets_54_216 z d (mrow (mrow (mrow (mrow (mrow (mrow M 54 (upd (upd (upd (upd (upd (upd (upd (upd (upd (M.1 54) 20 (M.1 54 16)) 21 (M.1 54 17)) 22 (M.1 54 18)) 23 (M.1 54 19)) 30 (nI 0)) 45 (nI 0)) 35 (nI 0)) 51 (nI 0)) 36 (nI 0))) 60 r4) 61 r10) 62 r16) 71 (k_sets_143 r10 (k_sets_122 (M.1 71) (cN 51)) (ix (M.1 54 18)) (cN 10))) 75 (k_sets_101 (M.1 75) (cN 8))) Q (ix (M.1 54 19)) k26 (ixE k25) ?_
  try simp only [mput, mrow_same, mrow_hit, mrow_miss, mrow_sw, idr_eq, ne_eq, Nat.reduceEqDiff, not_false_eq_true, Nat.reduceLT, reduceCtorEq]
  show G z mX12_sets (d + 1) 0 0 245 [some (.ref 54), none] [] (mrow (mrow (mrow (mrow (mrow (mrow M 54 (upd (upd (upd (upd (upd (upd (upd (upd (upd (M.1 54) 20 (M.1 54 16)) 21 (M.1 54 17)) 22 (M.1 54 18)) 23 (M.1 54 19)) 30 (nI 0)) 45 (nI 0)) 35 (nI 0)) 51 (nI 0)) 36 (nI 0))) 60 r4) 61 r10) 62 r16) 71 (k_sets_216 r16 (k_sets_143 r10 (k_sets_122 (M.1 71) (cN 51)) (ix (M.1 54 18)) (cN 10)) (ix (M.1 54 19)))) 75 (k_sets_101 (M.1 75) (cN 8))) Q
  refine G.sl [(.aload_n 0, 1, 0, 0, 0, 0)] [] (pc2 := 246) (ls2 := [some (.ref 54), none]) (st2 := [.ref 54]) (M2 := mrow (mrow (mrow (mrow (mrow (mrow M 54 (upd (upd (upd (upd (upd (upd (upd (upd (upd (M.1 54) 20 (M.1 54 16)) 21 (M.1 54 17)) 22 (M.1 54 18)) 23 (M.1 54 19)) 30 (nI 0)) 45 (nI 0)) 35 (nI 0)) 51 (nI 0)) 36 (nI 0))) 60 r4) 61 r10) 62 r16) 71 (k_sets_216 r16 (k_sets_143 r10 (k_sets_122 (M.1 71) (cN 51)) (ix (M.1 54 18)) (cN 10)) (ix (M.1 54 19)))) 75 (k_sets_101 (M.1 75) (cN 8))) (Ps := []) (by decide +kernel) rfl rfl trivial ?_
  obtain ⟨k28, k29, k30, k31, hk⟩ := hk
  obtain ⟨k32, hk⟩ := hk
  rcases g33 : k_layFar r4 (M.1 76) (ix (M.1 54 16)) (ix (M.1 54 17)) with ⟨u34, r35⟩
  have t36 : GM z mX12_layFar (d) [.ref 54] (mrow (mrow (mrow (mrow (mrow (mrow M 54 (upd (upd (upd (upd (upd (upd (upd (upd (upd (M.1 54) 20 (M.1 54 16)) 21 (M.1 54 17)) 22 (M.1 54 18)) 23 (M.1 54 19)) 30 (nI 0)) 45 (nI 0)) 35 (nI 0)) 51 (nI 0)) 36 (nI 0))) 60 r4) 61 r10) 62 r16) 71 (k_sets_216 r16 (k_sets_143 r10 (k_sets_122 (M.1 71) (cN 51)) (ix (M.1 54 18)) (cN 10)) (ix (M.1 54 19)))) 75 (k_sets_101 (M.1 75) (cN 8))) (fun rs => rs = .inl (none, mrow (mrow (mrow (mrow (mrow (mrow (mrow M 54 (upd (upd (upd (upd (upd (upd (upd (upd (upd (M.1 54) 20 (M.1 54 16)) 21 (M.1 54 17)) 22 (M.1 54 18)) 23 (M.1 54 19)) 30 (nI 0)) 45 (nI 0)) 35 (nI 0)) 51 (nI 0)) 36 (nI 0))) 60 r4) 61 r10) 62 r16) 71 (k_sets_216 r16 (k_sets_143 r10 (k_sets_122 (M.1 71) (cN 51)) (ix (M.1 54 18)) (cN 10)) (ix (M.1 54 19)))) 75 (k_sets_101 (M.1 75) (cN 8))) 76 r35)) := by
    have q9 := c_k_layFar_54 z d (mrow (mrow (mrow (mrow (mrow (mrow M 54 (upd (upd (upd (upd (upd (upd (upd (upd (upd (M.1 54) 20 (M.1 54 16)) 21 (M.1 54 17)) 22 (M.1 54 18)) 23 (M.1 54 19)) 30 (nI 0)) 45 (nI 0)) 35 (nI 0)) 51 (nI 0)) 36 (nI 0))) 60 r4) 61 r10) 62 r16) 71 (k_sets_216 r16 (k_sets_143 r10 (k_sets_122 (M.1 71) (cN 51)) (ix (M.1 54 18)) (cN 10)) (ix (M.1 54 19)))) 75 (k_sets_101 (M.1 75) (cN 8))) (ix (M.1 54 16)) k29 (ixE k28) (ix (M.1 54 17)) k31 (ixE k30) k32
    try simp only [mput, mrow_same, mrow_hit, mrow_miss, mrow_sw, idr_eq, ne_eq, Nat.reduceEqDiff, not_false_eq_true, Nat.reduceLT, reduceCtorEq, g33] at q9
    exact q9
  refine G.callV (as := []) (rest := []) (a := 54) oX12_layFar lk_EvenFindersModel_187 (by decide +kernel) rfl rfl ⟨rfl, rfl⟩ (Nat.le_of_ble_eq_true rfl) rfl ⟨Nat.le_of_ble_eq_true rfl, Nat.le_of_ble_eq_true rfl⟩ t36 (fun v9 N9 h37 => ?_) (fun E9 N9 h37 => by cases h37)
  cases h37
  show G z mX12_sets (d + 1) 0 0 249 [some (.ref 54), none] [] (mrow (mrow (mrow (mrow (mrow (mrow (mrow M 54 (upd (upd (upd (upd (upd (upd (upd (upd (upd (M.1 54) 20 (M.1 54 16)) 21 (M.1 54 17)) 22 (M.1 54 18)) 23 (M.1 54 19)) 30 (nI 0)) 45 (nI 0)) 35 (nI 0)) 51 (nI 0)) 36 (nI 0))) 60 r4) 61 r10) 62 r16) 71 (k_sets_216 r16 (k_sets_143 r10 (k_sets_122 (M.1 71) (cN 51)) (ix (M.1 54 18)) (cN 10)) (ix (M.1 54 19)))) 75 (k_sets_101 (M.1 75) (cN 8))) 76 r35) Q
  exact G.retv (by decide +kernel) rfl (Nat.le_of_ble_eq_true rfl) (Nat.le_of_ble_eq_true rfl) ((by rw [hQ]; simp only [k_sets, g2, g8, g14, g33, mrow_self]))
set_option maxHeartbeats 4000000 in
set_option maxRecDepth 3000 in
theorem lp_k_feed_54_23 (z : Zp) (d : Nat) (M : Mem) (Q : Rs → Prop) (nn : Nat) (x1 : Int32) (x2 : Int32) (x3 : Int32) (x4 : Int32) (x5 : Int32) (hnn : nn = 20) (hk : ∀ i6, i6 < nn → k_feed_23_ok (M.1 54) (M.1 56) x1 x2 x3 x4 x5 i6) (hX : G z mX12_feed (d) 0 0 120 [some (.ref 54), none, none, none, none, none, none, none] [] (mrow (mrow M 54 ((k_feed_23 (M.1 54) (M.1 56) x1 x2 x3 x4 x5 nn).1)) 56 ((k_feed_23 (M.1 54) (M.1 56) x1 x2 x3 x4 x5 nn).2)) Q) : G z mX12_feed (d) 0 0 23 [some (.ref 54), some (.int x1), some (.int x2), some (.int x3), some (.int x4), some (.int x5), some (.int (nI 0)), none] [] M Q := by
  refine G.mem (M' := mrow (mrow M 54 (M.1 54)) 56 (M.1 56)) (by simp only [mrow_self]) ?_
  refine down (n := nn) (P := fun i6 => G z mX12_feed (d) 0 0 23 [some (.ref 54), some (.int x1), some (.int x2), some (.int x3), some (.int x4), some (.int x5), some (.int (nI i6)), none] [] (mrow (mrow M 54 ((k_feed_23 (M.1 54) (M.1 56) x1 x2 x3 x4 x5 i6).1)) 56 ((k_feed_23 (M.1 54) (M.1 56) x1 x2 x3 x4 x5 i6).2)) Q) ?_ ?_ 0 (Nat.zero_le _)
  · skip
    refine G.sl [(.iload 6, 2, 6, 0, 0, 0), (.bipush 20, 2, 0, 0, 0, nI 20)] [] (pc2 := 27) (ls2 := [some (.ref 54), some (.int x1), some (.int x2), some (.int x3), some (.int x4), some (.int x5), some (.int (nI nn)), none]) (st2 := [.int (nI 20), .int (nI nn)]) (M2 := mrow (mrow M 54 ((k_feed_23 (M.1 54) (M.1 56) x1 x2 x3 x4 x5 nn).1)) 56 ((k_feed_23 (M.1 54) (M.1 56) x1 x2 x3 x4 x5 nn).2)) (Ps := []) (by decide +kernel) rfl rfl trivial ?_
    refine G.ic_ge (off := (93)) (tgt := 120) (by decide +kernel) rfl (fun _ => ?_) (fun h9 => absurd (nI_le (by omega) (by omega)) h9)
    refine G.loc (ls2 := [some (.ref 54), none, none, none, none, none, none, none]) (by simp [subL]) ?_
    exact hX
  · skip
    intro i6 hi ih
    have hk := hk i6 hi
    simp only [k_feed_23_ok] at hk
    rcases g2 : k_feed_23 (M.1 54) (M.1 56) x1 x2 x3 x4 x5 i6 with ⟨q54, q56⟩
    try simp only [g2] at hk
    try simp only [g2]
    show G z mX12_feed (d) 0 0 23 [some (.ref 54), some (.int x1), some (.int x2), some (.int x3), some (.int x4), some (.int x5), some (.int (nI i6)), none] [] (mrow (mrow M 54 q54) 56 q56) Q
    refine G.sl [(.iload 6, 2, 6, 0, 0, 0), (.bipush 20, 2, 0, 0, 0, nI 20)] [] (pc2 := 27) (ls2 := [some (.ref 54), some (.int x1), some (.int x2), some (.int x3), some (.int x4), some (.int x5), some (.int (nI i6)), none]) (st2 := [.int (nI 20), .int (nI i6)]) (M2 := mrow (mrow M 54 q54) 56 q56) (Ps := []) (by decide +kernel) rfl rfl trivial ?_
    refine G.ic_ge (off := (93)) (tgt := 120) (by decide +kernel) rfl (fun h9 => absurd h9 (nI_ge (by omega) (by omega))) (fun _ => ?_)
    refine G.sl [(.iload 6, 2, 6, 0, 0, 0), (.iconst 4, 1, 0, 0, 0, nI 4)] [] (pc2 := 33) (ls2 := [some (.ref 54), some (.int x1), some (.int x2), some (.int x3), some (.int x4), some (.int x5), some (.int (nI i6)), none]) (st2 := [.int (nI 4), .int (nI i6)]) (M2 := mrow (mrow M 54 q54) 56 q56) (Ps := []) (by decide +kernel) rfl rfl trivial ?_
    refine G.ic_ge (off := (7)) (tgt := 40) (by decide +kernel) rfl (fun c3 => ?_) (fun c3 => ?_)
    · skip
      rw [if_pos c3] at hk
      refine G.sl [(.iload 6, 2, 6, 0, 0, 0), (.bipush 8, 2, 0, 0, 0, nI 8)] [] (pc2 := 44) (ls2 := [some (.ref 54), some (.int x1), some (.int x2), some (.int x3), some (.int x4), some (.int x5), some (.int (nI i6)), none]) (st2 := [.int (nI 8), .int (nI i6)]) (M2 := mrow (mrow M 54 q54) 56 q56) (Ps := []) (by decide +kernel) rfl rfl trivial ?_
      refine G.ic_ge (off := (7)) (tgt := 51) (by decide +kernel) rfl (fun c4 => ?_) (fun c4 => ?_)
      · skip
        rw [if_pos c4] at hk
        refine G.sl [(.iload 6, 2, 6, 0, 0, 0), (.bipush 12, 2, 0, 0, 0, nI 12)] [] (pc2 := 55) (ls2 := [some (.ref 54), some (.int x1), some (.int x2), some (.int x3), some (.int x4), some (.int x5), some (.int (nI i6)), none]) (st2 := [.int (nI 12), .int (nI i6)]) (M2 := mrow (mrow M 54 q54) 56 q56) (Ps := []) (by decide +kernel) rfl rfl trivial ?_
        refine G.ic_ge (off := (7)) (tgt := 62) (by decide +kernel) rfl (fun c5 => ?_) (fun c5 => ?_)
        · skip
          rw [if_pos c5] at hk
          refine G.sl [(.iload 6, 2, 6, 0, 0, 0), (.bipush 16, 2, 0, 0, 0, nI 16)] [] (pc2 := 66) (ls2 := [some (.ref 54), some (.int x1), some (.int x2), some (.int x3), some (.int x4), some (.int x5), some (.int (nI i6)), none]) (st2 := [.int (nI 16), .int (nI i6)]) (M2 := mrow (mrow M 54 q54) 56 q56) (Ps := []) (by decide +kernel) rfl rfl trivial ?_
          refine G.ic_ge (off := (8)) (tgt := 74) (by decide +kernel) rfl (fun c6 => ?_) (fun c6 => ?_)
          · skip
            rw [if_pos c6] at hk
            obtain ⟨k7, k8, hk⟩ := hk
            refine G.sl [(.iload 5, 2, 5, 0, 0, 0), (.istore 7, 2, 7, 0, 0, 0), (.aload_n 0, 1, 0, 0, 0, 0), (.getfield 20, 3, 11, 9, 132, 0), (.aload_n 0, 1, 0, 0, 0, 0), (.getfield 98, 3, 11, 2, 125, 0), (.iload 7, 2, 7, 0, 0, 0), (.bipush 24, 2, 0, 0, 0, nI 24), (.bipush 8, 2, 0, 0, 0, nI 8), (.iload 6, 2, 6, 0, 0, 0), (.iconst 4, 1, 0, 0, 0, nI 4), (.irem, 1, 0, 0, 0, 0), (.imul, 1, 0, 0, 0, 0), (.isub, 1, 0, 0, 0, 0), (.ishr, 1, 0, 0, 0, 0), (.sipush 255, 3, 0, 0, 0, nI 255), (.iand, 1, 0, 0, 0, 0), (.iastore, 1, 0, 0, 0, 0), (.aload_n 0, 1, 0, 0, 0, 0), (.dup, 1, 0, 0, 0, 0), (.getfield 98, 3, 11, 2, 125, 0), (.iconst 1, 1, 0, 0, 0, nI 1), (.iadd, 1, 0, 0, 0, 0), (.putfield 98, 3, 11, 2, 125, 0), (.iinc 6 1, 3, 6, 0, 0, nI 1), (.goto (-94), 3, 23, 0, 0, 0)] [ix (q54 2)] (pc2 := 23) (ls2 := [some (.ref 54), some (.int x1), some (.int x2), some (.int x3), some (.int x4), some (.int x5), some (.int ((nI i6) + nI 1)), some (.int x5)]) (st2 := []) (M2 := mput (mput (mrow (mrow M 54 q54) 56 q56) 56 (ix (q54 2)) ((x5 >>> (((nI 24) - ((nI 8) * ((nI i6) - (nI i6) / (nI 4) * (nI 4)))) &&& 31)) &&& (nI 255))) 54 2 ((q54 2) + (nI 1))) (Ps := [¬ (nI 4) = 0, (q54 2) = nI (ix (q54 2)) ∧ (ix (q54 2)) < 600]) (by decide +kernel) rfl rfl ⟨(by decide), ⟨(ixE k7), k8⟩, trivial⟩ ?_
            refine G.mem (M' := mrow (mrow M 54 (upd q54 2 ((q54 2) + (nI 1)))) 56 (upd q56 (ix (q54 2)) ((x5 >>> (((nI 24) - ((nI 8) * ((nI i6) - (nI i6) / (nI 4) * (nI 4)))) &&& 31)) &&& (nI 255)))) (by first | rfl | (simp only [mput, mrow_same, mrow_hit, mrow_miss, mrow_sw, idr_eq, ne_eq, Nat.reduceEqDiff, not_false_eq_true, Nat.reduceLT, reduceCtorEq]; done)) ?_
            refine G.loc (ls2 := [some (.ref 54), some (.int x1), some (.int x2), some (.int x3), some (.int x4), some (.int x5), some (.int ((nI i6) + nI 1)), none]) (by simp [subL]) ?_
            rw [nI_add i6 1]
            simp only [k_feed_23, g2, if_pos c3, if_pos c4, if_pos c5, if_pos c6] at ih
            exact ih
          · skip
            rw [if_neg c6] at hk
            obtain ⟨k9, k10, hk⟩ := hk
            refine G.sl [(.iload 4, 2, 4, 0, 0, 0), (.goto 5, 3, 76, 0, 0, 0), (.istore 7, 2, 7, 0, 0, 0), (.aload_n 0, 1, 0, 0, 0, 0), (.getfield 20, 3, 11, 9, 132, 0), (.aload_n 0, 1, 0, 0, 0, 0), (.getfield 98, 3, 11, 2, 125, 0), (.iload 7, 2, 7, 0, 0, 0), (.bipush 24, 2, 0, 0, 0, nI 24), (.bipush 8, 2, 0, 0, 0, nI 8), (.iload 6, 2, 6, 0, 0, 0), (.iconst 4, 1, 0, 0, 0, nI 4), (.irem, 1, 0, 0, 0, 0), (.imul, 1, 0, 0, 0, 0), (.isub, 1, 0, 0, 0, 0), (.ishr, 1, 0, 0, 0, 0), (.sipush 255, 3, 0, 0, 0, nI 255), (.iand, 1, 0, 0, 0, 0), (.iastore, 1, 0, 0, 0, 0), (.aload_n 0, 1, 0, 0, 0, 0), (.dup, 1, 0, 0, 0, 0), (.getfield 98, 3, 11, 2, 125, 0), (.iconst 1, 1, 0, 0, 0, nI 1), (.iadd, 1, 0, 0, 0, 0), (.putfield 98, 3, 11, 2, 125, 0), (.iinc 6 1, 3, 6, 0, 0, nI 1), (.goto (-94), 3, 23, 0, 0, 0)] [ix (q54 2)] (pc2 := 23) (ls2 := [some (.ref 54), some (.int x1), some (.int x2), some (.int x3), some (.int x4), some (.int x5), some (.int ((nI i6) + nI 1)), some (.int x4)]) (st2 := []) (M2 := mput (mput (mrow (mrow M 54 q54) 56 q56) 56 (ix (q54 2)) ((x4 >>> (((nI 24) - ((nI 8) * ((nI i6) - (nI i6) / (nI 4) * (nI 4)))) &&& 31)) &&& (nI 255))) 54 2 ((q54 2) + (nI 1))) (Ps := [¬ (nI 4) = 0, (q54 2) = nI (ix (q54 2)) ∧ (ix (q54 2)) < 600]) (by decide +kernel) rfl rfl ⟨(by decide), ⟨(ixE k9), k10⟩, trivial⟩ ?_
            refine G.mem (M' := mrow (mrow M 54 (upd q54 2 ((q54 2) + (nI 1)))) 56 (upd q56 (ix (q54 2)) ((x4 >>> (((nI 24) - ((nI 8) * ((nI i6) - (nI i6) / (nI 4) * (nI 4)))) &&& 31)) &&& (nI 255)))) (by first | rfl | (simp only [mput, mrow_same, mrow_hit, mrow_miss, mrow_sw, idr_eq, ne_eq, Nat.reduceEqDiff, not_false_eq_true, Nat.reduceLT, reduceCtorEq]; done)) ?_
            refine G.loc (ls2 := [some (.ref 54), some (.int x1), some (.int x2), some (.int x3), some (.int x4), some (.int x5), some (.int ((nI i6) + nI 1)), none]) (by simp [subL]) ?_
            rw [nI_add i6 1]
            simp only [k_feed_23, g2, if_pos c3, if_pos c4, if_pos c5, if_neg c6] at ih
            exact ih
        · skip
          rw [if_neg c5] at hk
          obtain ⟨k11, k12, hk⟩ := hk
          refine G.sl [(.iload_n 3, 1, 3, 0, 0, 0), (.goto 17, 3, 76, 0, 0, 0), (.istore 7, 2, 7, 0, 0, 0), (.aload_n 0, 1, 0, 0, 0, 0), (.getfield 20, 3, 11, 9, 132, 0), (.aload_n 0, 1, 0, 0, 0, 0), (.getfield 98, 3, 11, 2, 125, 0), (.iload 7, 2, 7, 0, 0, 0), (.bipush 24, 2, 0, 0, 0, nI 24), (.bipush 8, 2, 0, 0, 0, nI 8), (.iload 6, 2, 6, 0, 0, 0), (.iconst 4, 1, 0, 0, 0, nI 4), (.irem, 1, 0, 0, 0, 0), (.imul, 1, 0, 0, 0, 0), (.isub, 1, 0, 0, 0, 0), (.ishr, 1, 0, 0, 0, 0), (.sipush 255, 3, 0, 0, 0, nI 255), (.iand, 1, 0, 0, 0, 0), (.iastore, 1, 0, 0, 0, 0), (.aload_n 0, 1, 0, 0, 0, 0), (.dup, 1, 0, 0, 0, 0), (.getfield 98, 3, 11, 2, 125, 0), (.iconst 1, 1, 0, 0, 0, nI 1), (.iadd, 1, 0, 0, 0, 0), (.putfield 98, 3, 11, 2, 125, 0), (.iinc 6 1, 3, 6, 0, 0, nI 1), (.goto (-94), 3, 23, 0, 0, 0)] [ix (q54 2)] (pc2 := 23) (ls2 := [some (.ref 54), some (.int x1), some (.int x2), some (.int x3), some (.int x4), some (.int x5), some (.int ((nI i6) + nI 1)), some (.int x3)]) (st2 := []) (M2 := mput (mput (mrow (mrow M 54 q54) 56 q56) 56 (ix (q54 2)) ((x3 >>> (((nI 24) - ((nI 8) * ((nI i6) - (nI i6) / (nI 4) * (nI 4)))) &&& 31)) &&& (nI 255))) 54 2 ((q54 2) + (nI 1))) (Ps := [¬ (nI 4) = 0, (q54 2) = nI (ix (q54 2)) ∧ (ix (q54 2)) < 600]) (by decide +kernel) rfl rfl ⟨(by decide), ⟨(ixE k11), k12⟩, trivial⟩ ?_
          refine G.mem (M' := mrow (mrow M 54 (upd q54 2 ((q54 2) + (nI 1)))) 56 (upd q56 (ix (q54 2)) ((x3 >>> (((nI 24) - ((nI 8) * ((nI i6) - (nI i6) / (nI 4) * (nI 4)))) &&& 31)) &&& (nI 255)))) (by first | rfl | (simp only [mput, mrow_same, mrow_hit, mrow_miss, mrow_sw, idr_eq, ne_eq, Nat.reduceEqDiff, not_false_eq_true, Nat.reduceLT, reduceCtorEq]; done)) ?_
          refine G.loc (ls2 := [some (.ref 54), some (.int x1), some (.int x2), some (.int x3), some (.int x4), some (.int x5), some (.int ((nI i6) + nI 1)), none]) (by simp [subL]) ?_
          rw [nI_add i6 1]
          simp only [k_feed_23, g2, if_pos c3, if_pos c4, if_neg c5] at ih
          exact ih
      · skip
        rw [if_neg c4] at hk
        obtain ⟨k13, k14, hk⟩ := hk
        refine G.sl [(.iload_n 2, 1, 2, 0, 0, 0), (.goto 28, 3, 76, 0, 0, 0), (.istore 7, 2, 7, 0, 0, 0), (.aload_n 0, 1, 0, 0, 0, 0), (.getfield 20, 3, 11, 9, 132, 0), (.aload_n 0, 1, 0, 0, 0, 0), (.getfield 98, 3, 11, 2, 125, 0), (.iload 7, 2, 7, 0, 0, 0), (.bipush 24, 2, 0, 0, 0, nI 24), (.bipush 8, 2, 0, 0, 0, nI 8), (.iload 6, 2, 6, 0, 0, 0), (.iconst 4, 1, 0, 0, 0, nI 4), (.irem, 1, 0, 0, 0, 0), (.imul, 1, 0, 0, 0, 0), (.isub, 1, 0, 0, 0, 0), (.ishr, 1, 0, 0, 0, 0), (.sipush 255, 3, 0, 0, 0, nI 255), (.iand, 1, 0, 0, 0, 0), (.iastore, 1, 0, 0, 0, 0), (.aload_n 0, 1, 0, 0, 0, 0), (.dup, 1, 0, 0, 0, 0), (.getfield 98, 3, 11, 2, 125, 0), (.iconst 1, 1, 0, 0, 0, nI 1), (.iadd, 1, 0, 0, 0, 0), (.putfield 98, 3, 11, 2, 125, 0), (.iinc 6 1, 3, 6, 0, 0, nI 1), (.goto (-94), 3, 23, 0, 0, 0)] [ix (q54 2)] (pc2 := 23) (ls2 := [some (.ref 54), some (.int x1), some (.int x2), some (.int x3), some (.int x4), some (.int x5), some (.int ((nI i6) + nI 1)), some (.int x2)]) (st2 := []) (M2 := mput (mput (mrow (mrow M 54 q54) 56 q56) 56 (ix (q54 2)) ((x2 >>> (((nI 24) - ((nI 8) * ((nI i6) - (nI i6) / (nI 4) * (nI 4)))) &&& 31)) &&& (nI 255))) 54 2 ((q54 2) + (nI 1))) (Ps := [¬ (nI 4) = 0, (q54 2) = nI (ix (q54 2)) ∧ (ix (q54 2)) < 600]) (by decide +kernel) rfl rfl ⟨(by decide), ⟨(ixE k13), k14⟩, trivial⟩ ?_
        refine G.mem (M' := mrow (mrow M 54 (upd q54 2 ((q54 2) + (nI 1)))) 56 (upd q56 (ix (q54 2)) ((x2 >>> (((nI 24) - ((nI 8) * ((nI i6) - (nI i6) / (nI 4) * (nI 4)))) &&& 31)) &&& (nI 255)))) (by first | rfl | (simp only [mput, mrow_same, mrow_hit, mrow_miss, mrow_sw, idr_eq, ne_eq, Nat.reduceEqDiff, not_false_eq_true, Nat.reduceLT, reduceCtorEq]; done)) ?_
        refine G.loc (ls2 := [some (.ref 54), some (.int x1), some (.int x2), some (.int x3), some (.int x4), some (.int x5), some (.int ((nI i6) + nI 1)), none]) (by simp [subL]) ?_
        rw [nI_add i6 1]
        simp only [k_feed_23, g2, if_pos c3, if_neg c4] at ih
        exact ih
    · skip
      rw [if_neg c3] at hk
      obtain ⟨k15, k16, hk⟩ := hk
      refine G.sl [(.iload_n 1, 1, 1, 0, 0, 0), (.goto 39, 3, 76, 0, 0, 0), (.istore 7, 2, 7, 0, 0, 0), (.aload_n 0, 1, 0, 0, 0, 0), (.getfield 20, 3, 11, 9, 132, 0), (.aload_n 0, 1, 0, 0, 0, 0), (.getfield 98, 3, 11, 2, 125, 0), (.iload 7, 2, 7, 0, 0, 0), (.bipush 24, 2, 0, 0, 0, nI 24), (.bipush 8, 2, 0, 0, 0, nI 8), (.iload 6, 2, 6, 0, 0, 0), (.iconst 4, 1, 0, 0, 0, nI 4), (.irem, 1, 0, 0, 0, 0), (.imul, 1, 0, 0, 0, 0), (.isub, 1, 0, 0, 0, 0), (.ishr, 1, 0, 0, 0, 0), (.sipush 255, 3, 0, 0, 0, nI 255), (.iand, 1, 0, 0, 0, 0), (.iastore, 1, 0, 0, 0, 0), (.aload_n 0, 1, 0, 0, 0, 0), (.dup, 1, 0, 0, 0, 0), (.getfield 98, 3, 11, 2, 125, 0), (.iconst 1, 1, 0, 0, 0, nI 1), (.iadd, 1, 0, 0, 0, 0), (.putfield 98, 3, 11, 2, 125, 0), (.iinc 6 1, 3, 6, 0, 0, nI 1), (.goto (-94), 3, 23, 0, 0, 0)] [ix (q54 2)] (pc2 := 23) (ls2 := [some (.ref 54), some (.int x1), some (.int x2), some (.int x3), some (.int x4), some (.int x5), some (.int ((nI i6) + nI 1)), some (.int x1)]) (st2 := []) (M2 := mput (mput (mrow (mrow M 54 q54) 56 q56) 56 (ix (q54 2)) ((x1 >>> (((nI 24) - ((nI 8) * ((nI i6) - (nI i6) / (nI 4) * (nI 4)))) &&& 31)) &&& (nI 255))) 54 2 ((q54 2) + (nI 1))) (Ps := [¬ (nI 4) = 0, (q54 2) = nI (ix (q54 2)) ∧ (ix (q54 2)) < 600]) (by decide +kernel) rfl rfl ⟨(by decide), ⟨(ixE k15), k16⟩, trivial⟩ ?_
      refine G.mem (M' := mrow (mrow M 54 (upd q54 2 ((q54 2) + (nI 1)))) 56 (upd q56 (ix (q54 2)) ((x1 >>> (((nI 24) - ((nI 8) * ((nI i6) - (nI i6) / (nI 4) * (nI 4)))) &&& 31)) &&& (nI 255)))) (by first | rfl | (simp only [mput, mrow_same, mrow_hit, mrow_miss, mrow_sw, idr_eq, ne_eq, Nat.reduceEqDiff, not_false_eq_true, Nat.reduceLT, reduceCtorEq]; done)) ?_
      refine G.loc (ls2 := [some (.ref 54), some (.int x1), some (.int x2), some (.int x3), some (.int x4), some (.int x5), some (.int ((nI i6) + nI 1)), none]) (by simp [subL]) ?_
      rw [nI_add i6 1]
      simp only [k_feed_23, g2, if_neg c3] at ih
      exact ih
set_option maxHeartbeats 4000000 in
set_option maxRecDepth 3000 in
theorem c_k_feed_54 (z : Zp) (d : Nat) (M : Mem) (x1 : Int32) (x2 : Int32) (x3 : Int32) (x4 : Int32) (x5 : Int32) (hk : k_feed_ok (M.1 54) (M.1 56) x1 x2 x3 x4 x5) : GM z mX12_feed (d) [.ref 54, .int x1, .int x2, .int x3, .int x4, .int x5] M (fun rs => rs = .inl (some (.int ((k_feed (M.1 54) (M.1 56) x1 x2 x3 x4 x5).1)), mrow (mrow M 54 ((k_feed (M.1 54) (M.1 56) x1 x2 x3 x4 x5).2.1)) 56 ((k_feed (M.1 54) (M.1 56) x1 x2 x3 x4 x5).2.2))) := by
  simp only [k_feed_ok] at hk
  refine GM.of oX12_feed.1 (Nat.le_of_ble_eq_true rfl) ?_
  show G z mX12_feed (d) 0 0 0 [some (.ref 54), some (.int x1), some (.int x2), some (.int x3), some (.int x4), some (.int x5), none, none] [] M _
  obtain ⟨Q, hQ⟩ : ∃ Q : Rs → Prop, Q = (fun rs => rs = .inl (some (.int ((k_feed (M.1 54) (M.1 56) x1 x2 x3 x4 x5).1)), mrow (mrow M 54 ((k_feed (M.1 54) (M.1 56) x1 x2 x3 x4 x5).2.1)) 56 ((k_feed (M.1 54) (M.1 56) x1 x2 x3 x4 x5).2.2))) := ⟨_, rfl⟩
  rw [← hQ]
  refine G.sl [(.aload_n 0, 1, 0, 0, 0, 0), (.iconst 0, 1, 0, 0, 0, nI 0), (.putfield 3, 3, 11, 0, 123, 0), (.aload_n 0, 1, 0, 0, 0, 0), (.getfield 98, 3, 11, 2, 125, 0), (.bipush 20, 2, 0, 0, 0, nI 20), (.iadd, 1, 0, 0, 0, 0), (.sipush 600, 3, 0, 0, 0, nI 600)] [] (pc2 := 15) (ls2 := [some (.ref 54), some (.int x1), some (.int x2), some (.int x3), some (.int x4), some (.int x5), none, none]) (st2 := [.int (nI 600), .int ((M.1 54 2) + (nI 20))]) (M2 := mput M 54 0 (nI 0)) (Ps := []) (by decide +kernel) rfl rfl trivial ?_
  refine G.mem (M' := mrow M 54 (upd (M.1 54) 0 (nI 0))) (by first | rfl | (simp only [mput, mrow_same, mrow_hit, mrow_miss, mrow_sw, idr_eq, ne_eq, Nat.reduceEqDiff, not_false_eq_true, Nat.reduceLT, reduceCtorEq]; done)) ?_
  refine G.ic_le (off := (5)) (tgt := 20) (by decide +kernel) rfl (fun c1 => ?_) (fun c1 => ?_)
  · skip
    rw [if_pos c1] at hk
    refine G.sl [(.iconst 0, 1, 0, 0, 0, nI 0), (.istore 6, 2, 6, 0, 0, 0)] [] (pc2 := 23) (ls2 := [some (.ref 54), some (.int x1), some (.int x2), some (.int x3), some (.int x4), some (.int x5), some (.int (nI 0)), none]) (st2 := []) (M2 := mrow M 54 (upd (M.1 54) 0 (nI 0))) (Ps := []) (by decide +kernel) rfl rfl trivial ?_
    obtain ⟨k17, hk⟩ := hk
    refine lp_k_feed_54_23 z d (mrow M 54 (upd (M.1 54) 0 (nI 0))) Q (cN 20) x1 x2 x3 x4 x5 (cN_eq 20) (by first | (simp only [mput, mrow_same, mrow_hit, mrow_miss, mrow_sw, idr_eq, ne_eq, Nat.reduceEqDiff, not_false_eq_true, Nat.reduceLT, reduceCtorEq]; exact k17) | exact k17) ?_
    try simp only [mput, mrow_same, mrow_hit, mrow_miss, mrow_sw, idr_eq, ne_eq, Nat.reduceEqDiff, not_false_eq_true, Nat.reduceLT, reduceCtorEq]
    rcases g18 : k_feed_23 (upd (M.1 54) 0 (nI 0)) (M.1 56) x1 x2 x3 x4 x5 (cN 20) with ⟨r19, r20⟩
    show G z mX12_feed (d) 0 0 120 [some (.ref 54), none, none, none, none, none, none, none] [] (mrow (mrow M 54 r19) 56 r20) Q
    refine G.sl [(.aload_n 0, 1, 0, 0, 0, 0), (.getfield 98, 3, 11, 2, 125, 0)] [] (pc2 := 124) (ls2 := [some (.ref 54), none, none, none, none, none, none, none]) (st2 := [.int (r19 2)]) (M2 := mrow (mrow M 54 r19) 56 r20) (Ps := []) (by decide +kernel) rfl rfl trivial ?_
    exact G.reti (by decide +kernel) rfl rfl (Nat.le_of_ble_eq_true rfl) (Nat.le_of_ble_eq_true rfl) ((by rw [hQ]; simp only [k_feed, if_pos c1, g18, mrow_self]))
  · skip
    rw [if_neg c1] at hk
    refine G.sl [(.iconst (-1), 1, 0, 0, 0, (-1))] [] (pc2 := 19) (ls2 := [some (.ref 54), some (.int x1), some (.int x2), some (.int x3), some (.int x4), some (.int x5), none, none]) (st2 := [.int ((-1))]) (M2 := mrow M 54 (upd (M.1 54) 0 (nI 0))) (Ps := []) (by decide +kernel) rfl rfl trivial ?_
    refine G.mem (M' := mrow (mrow M 54 (upd (M.1 54) 0 (nI 0))) 56 (M.1 56)) (((mrow_id (N := mrow M 54 (upd (M.1 54) 0 (nI 0))) (c := 56) (f := M.1 56) (by first | rfl | (simp only [mput, mrow_same, mrow_hit, mrow_miss, mrow_sw, idr_eq, ne_eq, Nat.reduceEqDiff, not_false_eq_true, Nat.reduceLT, reduceCtorEq]; done))).symm).trans (by first | rfl | (simp only [mput, mrow_same, mrow_hit, mrow_miss, mrow_sw, idr_eq, ne_eq, Nat.reduceEqDiff, not_false_eq_true, Nat.reduceLT, reduceCtorEq]; done))) ?_
    exact G.reti (by decide +kernel) rfl rfl (Nat.le_of_ble_eq_true rfl) (Nat.le_of_ble_eq_true rfl) ((by rw [hQ]; simp only [k_feed, if_neg c1, mrow_self]))
set_option maxHeartbeats 4000000 in
set_option maxRecDepth 3000 in
theorem c_k_fault_54 (z : Zp) (d : Nat) (M : Mem) : GM z mX12_fault (d) [.ref 54] M (fun rs => rs = .inl (some (.int ((k_fault (M.1 54)).1)), mrow M 54 ((k_fault (M.1 54)).2))) := by
  refine GM.of oX12_fault.1 (Nat.le_of_ble_eq_true rfl) ?_
  show G z mX12_fault (d) 0 0 0 [some (.ref 54)] [] M _
  obtain ⟨Q, hQ⟩ : ∃ Q : Rs → Prop, Q = (fun rs => rs = .inl (some (.int ((k_fault (M.1 54)).1)), mrow M 54 ((k_fault (M.1 54)).2))) := ⟨_, rfl⟩
  rw [← hQ]
  refine G.sl [(.aload_n 0, 1, 0, 0, 0, 0), (.iconst 0, 1, 0, 0, 0, nI 0), (.putfield 3, 3, 11, 0, 123, 0), (.aload_n 0, 1, 0, 0, 0, 0), (.getfield 17, 3, 11, 8, 131, 0)] [] (pc2 := 9) (ls2 := [some (.ref 54)]) (st2 := [.int (M.1 54 8)]) (M2 := mput M 54 0 (nI 0)) (Ps := []) (by decide +kernel) rfl rfl trivial ?_
  refine G.mem (M' := mrow M 54 (upd (M.1 54) 0 (nI 0))) (by first | rfl | (simp only [mput, mrow_same, mrow_hit, mrow_miss, mrow_sw, idr_eq, ne_eq, Nat.reduceEqDiff, not_false_eq_true, Nat.reduceLT, reduceCtorEq]; done)) ?_
  exact G.reti (by decide +kernel) rfl rfl (Nat.le_of_ble_eq_true rfl) (Nat.le_of_ble_eq_true rfl) ((by rw [hQ]; simp only [k_fault, mrow_self]))
theorem k_may_1_01 (Rmd Rrefused : Nat → Int32) (x1 : Int32) (x2 : Int32) : (k_may_1 Rmd Rrefused x1 x2).1 = 0 ∨ (k_may_1 Rmd Rrefused x1 x2).1 = 1 := by
  unfold k_may_1
  repeat' split
  all_goals first | exact Or.inl rfl | exact Or.inr rfl
set_option maxHeartbeats 4000000 in
set_option maxRecDepth 3000 in
theorem c_k_may_1_54 (z : Zp) (d : Nat) (M : Mem) (x1 : Int32) (x2 : Int32) : GM z mX12_may (d) [.ref 54, .int x1, .int x2, .int (nI 1)] M (fun rs => rs = .inl (some (.int ((k_may_1 (M.1 54) (M.1 55) x1 x2).1)), mrow (mrow M 54 ((k_may_1 (M.1 54) (M.1 55) x1 x2).2.1)) 55 ((k_may_1 (M.1 54) (M.1 55) x1 x2).2.2))) := by
  refine GM.of oX12_may.1 (Nat.le_of_ble_eq_true rfl) ?_
  show G z mX12_may (d) 0 0 0 [some (.ref 54), some (.int x1), some (.int x2), some (.int (nI 1))] [] M _
  obtain ⟨Q, hQ⟩ : ∃ Q : Rs → Prop, Q = (fun rs => rs = .inl (some (.int ((k_may_1 (M.1 54) (M.1 55) x1 x2).1)), mrow (mrow M 54 ((k_may_1 (M.1 54) (M.1 55) x1 x2).2.1)) 55 ((k_may_1 (M.1 54) (M.1 55) x1 x2).2.2))) := ⟨_, rfl⟩
  rw [← hQ]
  refine G.sl [(.iload_n 1, 1, 1, 0, 0, 0)] [] (pc2 := 1) (ls2 := [some (.ref 54), some (.int x1), some (.int x2), some (.int (nI 1))]) (st2 := [.int x1]) (M2 := M) (Ps := []) (by decide +kernel) rfl rfl trivial ?_
  refine G.if_ne (off := (25)) (tgt := 26) (by decide +kernel) rfl (fun c1 => ?_) (fun c1 => ?_)
  · skip
    refine G.sl [(.aload_n 0, 1, 0, 0, 0, 0), (.getfield 3, 3, 11, 0, 123, 0)] [] (pc2 := 30) (ls2 := [some (.ref 54), some (.int x1), some (.int x2), some (.int (nI 1))]) (st2 := [.int (M.1 54 0)]) (M2 := M) (Ps := []) (by decide +kernel) rfl rfl trivial ?_
    refine G.if_ne (off := (7)) (tgt := 37) (by decide +kernel) rfl (fun c2 => ?_) (fun c2 => ?_)
    · skip
      refine G.sl [(.iconst 0, 1, 0, 0, 0, nI 0)] [] (pc2 := 38) (ls2 := [some (.ref 54), some (.int x1), some (.int x2), some (.int (nI 1))]) (st2 := [.int (nI 0)]) (M2 := M) (Ps := []) (by decide +kernel) rfl rfl trivial ?_
      refine G.mem (M' := mrow (mrow M 54 (M.1 54)) 55 (M.1 55)) ((((mrow_id (N := M) (c := 54) (f := M.1 54) (by first | rfl | (simp only [mput, mrow_same, mrow_hit, mrow_miss, mrow_sw, idr_eq, ne_eq, Nat.reduceEqDiff, not_false_eq_true, Nat.reduceLT, reduceCtorEq]; done))).symm).trans (mrow_id (N := mrow M 54 (M.1 54)) (c := 55) (f := M.1 55) (by first | rfl | (simp only [mput, mrow_same, mrow_hit, mrow_miss, mrow_sw, idr_eq, ne_eq, Nat.reduceEqDiff, not_false_eq_true, Nat.reduceLT, reduceCtorEq]; done))).symm).trans (by first | rfl | (simp only [mput, mrow_same, mrow_hit, mrow_miss, mrow_sw, idr_eq, ne_eq, Nat.reduceEqDiff, not_false_eq_true, Nat.reduceLT, reduceCtorEq]; done))) ?_
      exact G.reti (by decide +kernel) rfl rfl (Nat.le_of_ble_eq_true rfl) (Nat.le_of_ble_eq_true rfl) ((by rw [hQ]; simp only [k_may_1, if_neg c1, if_neg c2, mrow_self]))
    · skip
      refine G.sl [(.iconst 1, 1, 0, 0, 0, nI 1), (.goto 4, 3, 38, 0, 0, 0)] [] (pc2 := 38) (ls2 := [some (.ref 54), some (.int x1), some (.int x2), some (.int (nI 1))]) (st2 := [.int (nI 1)]) (M2 := M) (Ps := []) (by decide +kernel) rfl rfl trivial ?_
      refine G.mem (M' := mrow (mrow M 54 (M.1 54)) 55 (M.1 55)) ((((mrow_id (N := M) (c := 54) (f := M.1 54) (by first | rfl | (simp only [mput, mrow_same, mrow_hit, mrow_miss, mrow_sw, idr_eq, ne_eq, Nat.reduceEqDiff, not_false_eq_true, Nat.reduceLT, reduceCtorEq]; done))).symm).trans (mrow_id (N := mrow M 54 (M.1 54)) (c := 55) (f := M.1 55) (by first | rfl | (simp only [mput, mrow_same, mrow_hit, mrow_miss, mrow_sw, idr_eq, ne_eq, Nat.reduceEqDiff, not_false_eq_true, Nat.reduceLT, reduceCtorEq]; done))).symm).trans (by first | rfl | (simp only [mput, mrow_same, mrow_hit, mrow_miss, mrow_sw, idr_eq, ne_eq, Nat.reduceEqDiff, not_false_eq_true, Nat.reduceLT, reduceCtorEq]; done))) ?_
      exact G.reti (by decide +kernel) rfl rfl (Nat.le_of_ble_eq_true rfl) (Nat.le_of_ble_eq_true rfl) ((by rw [hQ]; simp only [k_may_1, if_neg c1, if_pos c2, mrow_self]))
  · skip
    refine G.sl [(.aload_n 0, 1, 0, 0, 0, 0), (.getfield 3, 3, 11, 0, 123, 0)] [] (pc2 := 8) (ls2 := [some (.ref 54), some (.int x1), some (.int x2), some (.int (nI 1))]) (st2 := [.int (M.1 54 0)]) (M2 := M) (Ps := []) (by decide +kernel) rfl rfl trivial ?_
    refine G.if_ne (off := (18)) (tgt := 26) (by decide +kernel) rfl (fun c3 => ?_) (fun c3 => ?_)
    · skip
      refine G.sl [(.aload_n 0, 1, 0, 0, 0, 0), (.getfield 3, 3, 11, 0, 123, 0)] [] (pc2 := 30) (ls2 := [some (.ref 54), some (.int x1), some (.int x2), some (.int (nI 1))]) (st2 := [.int (M.1 54 0)]) (M2 := M) (Ps := []) (by decide +kernel) rfl rfl trivial ?_
      refine G.if_ne (off := (7)) (tgt := 37) (by decide +kernel) rfl (fun _ => ?_) (fun h9 => absurd h9 c3)
      refine G.sl [(.iconst 0, 1, 0, 0, 0, nI 0)] [] (pc2 := 38) (ls2 := [some (.ref 54), some (.int x1), some (.int x2), some (.int (nI 1))]) (st2 := [.int (nI 0)]) (M2 := M) (Ps := []) (by decide +kernel) rfl rfl trivial ?_
      refine G.mem (M' := mrow (mrow M 54 (M.1 54)) 55 (M.1 55)) ((((mrow_id (N := M) (c := 54) (f := M.1 54) (by first | rfl | (simp only [mput, mrow_same, mrow_hit, mrow_miss, mrow_sw, idr_eq, ne_eq, Nat.reduceEqDiff, not_false_eq_true, Nat.reduceLT, reduceCtorEq]; done))).symm).trans (mrow_id (N := mrow M 54 (M.1 54)) (c := 55) (f := M.1 55) (by first | rfl | (simp only [mput, mrow_same, mrow_hit, mrow_miss, mrow_sw, idr_eq, ne_eq, Nat.reduceEqDiff, not_false_eq_true, Nat.reduceLT, reduceCtorEq]; done))).symm).trans (by first | rfl | (simp only [mput, mrow_same, mrow_hit, mrow_miss, mrow_sw, idr_eq, ne_eq, Nat.reduceEqDiff, not_false_eq_true, Nat.reduceLT, reduceCtorEq]; done))) ?_
      exact G.reti (by decide +kernel) rfl rfl (Nat.le_of_ble_eq_true rfl) (Nat.le_of_ble_eq_true rfl) ((by rw [hQ]; simp only [k_may_1, if_pos c1, if_neg c3, mrow_self]))
    · skip
      refine G.sl [(.aload_n 0, 1, 0, 0, 0, 0), (.iload_n 2, 1, 2, 0, 0, 0), (.putfield 3, 3, 11, 0, 123, 0), (.aload_n 0, 1, 0, 0, 0, 0), (.getfield 7, 3, 11, 1, 124, 0), (.iload_n 3, 1, 3, 0, 0, 0), (.dup2, 1, 0, 0, 0, 0), (.iaload, 1, 0, 0, 0, 0), (.iconst 1, 1, 0, 0, 0, nI 1), (.iadd, 1, 0, 0, 0, 0), (.iastore, 1, 0, 0, 0, 0), (.aload_n 0, 1, 0, 0, 0, 0), (.getfield 3, 3, 11, 0, 123, 0)] [1, 1] (pc2 := 30) (ls2 := [some (.ref 54), some (.int x1), some (.int x2), some (.int (nI 1))]) (st2 := [.int x2]) (M2 := mput (mput M 54 0 x2) 55 1 ((M.1 55 1) + (nI 1))) (Ps := [(nI 1) = nI 1 ∧ 1 < 2, (nI 1) = nI 1 ∧ 1 < 2]) (by decide +kernel) rfl rfl ⟨⟨rfl, (by omega)⟩, ⟨rfl, (by omega)⟩, trivial⟩ ?_
      refine G.mem (M' := mrow (mrow M 54 (upd (M.1 54) 0 x2)) 55 (upd (M.1 55) 1 ((M.1 55 1) + (nI 1)))) (by first | rfl | (simp only [mput, mrow_same, mrow_hit, mrow_miss, mrow_sw, idr_eq, ne_eq, Nat.reduceEqDiff, not_false_eq_true, Nat.reduceLT, reduceCtorEq]; done)) ?_
      refine G.if_ne (off := (7)) (tgt := 37) (by decide +kernel) rfl (fun c4 => ?_) (fun c4 => ?_)
      · skip
        refine G.sl [(.iconst 0, 1, 0, 0, 0, nI 0)] [] (pc2 := 38) (ls2 := [some (.ref 54), some (.int x1), some (.int x2), some (.int (nI 1))]) (st2 := [.int (nI 0)]) (M2 := mrow (mrow M 54 (upd (M.1 54) 0 x2)) 55 (upd (M.1 55) 1 ((M.1 55 1) + (nI 1)))) (Ps := []) (by decide +kernel) rfl rfl trivial ?_
        exact G.reti (by decide +kernel) rfl rfl (Nat.le_of_ble_eq_true rfl) (Nat.le_of_ble_eq_true rfl) ((by rw [hQ]; simp only [k_may_1, if_pos c1, if_pos c3, if_neg c4, mrow_self]))
      · skip
        refine G.sl [(.iconst 1, 1, 0, 0, 0, nI 1), (.goto 4, 3, 38, 0, 0, 0)] [] (pc2 := 38) (ls2 := [some (.ref 54), some (.int x1), some (.int x2), some (.int (nI 1))]) (st2 := [.int (nI 1)]) (M2 := mrow (mrow M 54 (upd (M.1 54) 0 x2)) 55 (upd (M.1 55) 1 ((M.1 55 1) + (nI 1)))) (Ps := []) (by decide +kernel) rfl rfl trivial ?_
        exact G.reti (by decide +kernel) rfl rfl (Nat.le_of_ble_eq_true rfl) (Nat.le_of_ble_eq_true rfl) ((by rw [hQ]; simp only [k_may_1, if_pos c1, if_pos c3, if_pos c4, mrow_self]))
set_option maxHeartbeats 4000000 in
set_option maxRecDepth 3000 in
theorem c_k_begins_54 (z : Zp) (d : Nat) (M : Mem) (x1 : Int32) : GM z mX12_begins (d) [.ref 54, .int x1] M (fun rs => rs = .inl (none, mrow M 54 ((k_begins (M.1 54) x1).2))) := by
  refine GM.of oX12_begins.1 (Nat.le_of_ble_eq_true rfl) ?_
  show G z mX12_begins (d) 0 0 0 [some (.ref 54), some (.int x1)] [] M _
  obtain ⟨Q, hQ⟩ : ∃ Q : Rs → Prop, Q = (fun rs => rs = .inl (none, mrow M 54 ((k_begins (M.1 54) x1).2))) := ⟨_, rfl⟩
  rw [← hQ]
  refine G.sl [(.aload_n 0, 1, 0, 0, 0, 0), (.iconst 0, 1, 0, 0, 0, nI 0), (.putfield 98, 3, 11, 2, 125, 0), (.aload_n 0, 1, 0, 0, 0, 0), (.iconst (-1), 1, 0, 0, 0, (-1)), (.putfield 17, 3, 11, 8, 131, 0), (.aload_n 0, 1, 0, 0, 0, 0), (.iload_n 1, 1, 1, 0, 0, 0), (.putfield 110, 3, 11, 3, 126, 0), (.aload_n 0, 1, 0, 0, 0, 0), (.iconst 0, 1, 0, 0, 0, nI 0), (.putfield 107, 3, 11, 4, 127, 0), (.aload_n 0, 1, 0, 0, 0, 0), (.iconst (-1), 1, 0, 0, 0, (-1)), (.putfield 101, 3, 11, 5, 128, 0), (.aload_n 0, 1, 0, 0, 0, 0), (.iconst 0, 1, 0, 0, 0, nI 0), (.putfield 141, 3, 11, 7, 130, 0)] [] (pc2 := 30) (ls2 := [some (.ref 54), some (.int x1)]) (st2 := []) (M2 := mput (mput (mput (mput (mput (mput M 54 2 (nI 0)) 54 8 ((-1))) 54 3 x1) 54 4 (nI 0)) 54 5 ((-1))) 54 7 (nI 0)) (Ps := []) (by decide +kernel) rfl rfl trivial ?_
  refine G.mem (M' := mrow M 54 (upd (upd (upd (upd (upd (upd (M.1 54) 2 (nI 0)) 8 ((-1))) 3 x1) 4 (nI 0)) 5 ((-1))) 7 (nI 0))) (by first | rfl | (simp only [mput, mrow_same, mrow_hit, mrow_miss, mrow_sw, idr_eq, ne_eq, Nat.reduceEqDiff, not_false_eq_true, Nat.reduceLT, reduceCtorEq]; done)) ?_
  exact G.retv (by decide +kernel) rfl (Nat.le_of_ble_eq_true rfl) (Nat.le_of_ble_eq_true rfl) ((by rw [hQ]; simp only [k_begins, mrow_self]))
set_option maxHeartbeats 4000000 in
set_option maxRecDepth 3000 in
theorem lp_k_book_54_46 (z : Zp) (d : Nat) (M : Mem) (Q : Rs → Prop) (nn : Nat) (hnn : nn = 8) (hX : G z mX12_book (d + 2) 0 0 65 [some (.ref 54), none, none, none, none, none] [] (mrow M 74 (k_book_46 (M.1 74) nn)) Q) : G z mX12_book (d + 2) 0 0 46 [some (.ref 54), none, some (.int (nI 0)), none, none, none] [] M Q := by
  refine G.mem (M' := mrow M 74 (M.1 74)) (by simp only [mrow_self]) ?_
  refine down (n := nn) (P := fun i2 => G z mX12_book (d + 2) 0 0 46 [some (.ref 54), none, some (.int (nI i2)), none, none, none] [] (mrow M 74 (k_book_46 (M.1 74) i2)) Q) ?_ ?_ 0 (Nat.zero_le _)
  · skip
    refine G.sl [(.iload_n 2, 1, 2, 0, 0, 0), (.bipush 8, 2, 0, 0, 0, nI 8)] [] (pc2 := 49) (ls2 := [some (.ref 54), none, some (.int (nI nn)), none, none, none]) (st2 := [.int (nI 8), .int (nI nn)]) (M2 := mrow M 74 (k_book_46 (M.1 74) nn)) (Ps := []) (by decide +kernel) rfl rfl trivial ?_
    refine G.ic_ge (off := (16)) (tgt := 65) (by decide +kernel) rfl (fun _ => ?_) (fun h9 => absurd (nI_le (by omega) (by omega)) h9)
    refine G.loc (ls2 := [some (.ref 54), none, none, none, none, none]) (by simp [subL]) ?_
    exact hX
  · skip
    intro i2 hi ih
    show G z mX12_book (d + 2) 0 0 46 [some (.ref 54), none, some (.int (nI i2)), none, none, none] [] (mrow M 74 (k_book_46 (M.1 74) i2)) Q
    refine G.sl [(.iload_n 2, 1, 2, 0, 0, 0), (.bipush 8, 2, 0, 0, 0, nI 8)] [] (pc2 := 49) (ls2 := [some (.ref 54), none, some (.int (nI i2)), none, none, none]) (st2 := [.int (nI 8), .int (nI i2)]) (M2 := mrow M 74 (k_book_46 (M.1 74) i2)) (Ps := []) (by decide +kernel) rfl rfl trivial ?_
    refine G.ic_ge (off := (16)) (tgt := 65) (by decide +kernel) rfl (fun h9 => absurd h9 (nI_ge (by omega) (by omega))) (fun _ => ?_)
    refine G.sl [(.aload_n 0, 1, 0, 0, 0, 0), (.getfield 74, 3, 11, 43, 166, 0), (.iload_n 2, 1, 2, 0, 0, 0), (.iconst (-1), 1, 0, 0, 0, (-1)), (.iastore, 1, 0, 0, 0, 0), (.iinc 2 1, 3, 2, 0, 0, nI 1), (.goto (-16), 3, 46, 0, 0, 0)] [i2] (pc2 := 46) (ls2 := [some (.ref 54), none, some (.int ((nI i2) + nI 1)), none, none, none]) (st2 := []) (M2 := mput (mrow M 74 (k_book_46 (M.1 74) i2)) 74 i2 ((-1))) (Ps := [(nI i2) = nI i2 ∧ i2 < 8]) (by decide +kernel) rfl rfl ⟨⟨rfl, (by omega)⟩, trivial⟩ ?_
    refine G.mem (M' := mrow M 74 (upd (k_book_46 (M.1 74) i2) i2 ((-1)))) (by first | rfl | (simp only [mput, mrow_same, mrow_hit, mrow_miss, mrow_sw, idr_eq, ne_eq, Nat.reduceEqDiff, not_false_eq_true, Nat.reduceLT, reduceCtorEq]; done)) ?_
    rw [nI_add i2 1]
    simp only [k_book_46] at ih
    exact ih
theorem k_fine_01 (Rmd : Nat → Int32) : k_fine Rmd = 0 ∨ k_fine Rmd = 1 := by
  unfold k_fine
  repeat' split
  all_goals first | exact Or.inl rfl | exact Or.inr rfl
set_option maxHeartbeats 4000000 in
set_option maxRecDepth 3000 in
theorem c_k_fine_54 (z : Zp) (d : Nat) (M : Mem) : GM z mX12_fine (d) [.ref 54] M (fun rs => rs = .inl (some (.int (k_fine (M.1 54))), M)) := by
  refine GM.of oX12_fine.1 (Nat.le_of_ble_eq_true rfl) ?_
  show G z mX12_fine (d) 0 0 0 [some (.ref 54)] [] M _
  obtain ⟨Q, hQ⟩ : ∃ Q : Rs → Prop, Q = (fun rs => rs = .inl (some (.int (k_fine (M.1 54))), M)) := ⟨_, rfl⟩
  rw [← hQ]
  refine G.sl [(.aload_n 0, 1, 0, 0, 0, 0), (.getfield 101, 3, 11, 5, 128, 0), (.iconst (-1), 1, 0, 0, 0, (-1))] [] (pc2 := 5) (ls2 := [some (.ref 54)]) (st2 := [.int ((-1)), .int (M.1 54 5)]) (M2 := M) (Ps := []) (by decide +kernel) rfl rfl trivial ?_
  refine G.ic_ne (off := (7)) (tgt := 12) (by decide +kernel) rfl (fun c1 => ?_) (fun c1 => ?_)
  · skip
    refine G.sl [(.iconst 0, 1, 0, 0, 0, nI 0)] [] (pc2 := 13) (ls2 := [some (.ref 54)]) (st2 := [.int (nI 0)]) (M2 := M) (Ps := []) (by decide +kernel) rfl rfl trivial ?_
    exact G.reti (by decide +kernel) rfl rfl (Nat.le_of_ble_eq_true rfl) (Nat.le_of_ble_eq_true rfl) ((by rw [hQ]; simp only [k_fine, if_neg c1, mrow_self]))
  · skip
    refine G.sl [(.iconst 1, 1, 0, 0, 0, nI 1), (.goto 4, 3, 13, 0, 0, 0)] [] (pc2 := 13) (ls2 := [some (.ref 54)]) (st2 := [.int (nI 1)]) (M2 := M) (Ps := []) (by decide +kernel) rfl rfl trivial ?_
    exact G.reti (by decide +kernel) rfl rfl (Nat.le_of_ble_eq_true rfl) (Nat.le_of_ble_eq_true rfl) ((by rw [hQ]; simp only [k_fine, if_pos c1, mrow_self]))
set_option maxHeartbeats 4000000 in
set_option maxRecDepth 3000 in
theorem lp_k_here_54_0 (z : Zp) (d : Nat) (M : Mem) (Q : Rs → Prop) : ∀ (k0 : Nat) (q54 : (Nat → Int32)), k_here_0_ok (M.1 56) k0 q54 → (match k_here_0 (M.1 56) k0 q54 with | q54' => G z mX12_here (d) 0 0 38 [some (.ref 54)] [] (mrow M 54 (q54')) Q) → G z mX12_here (d) 0 0 0 [some (.ref 54)] [] (mrow M 54 q54) Q := by
  intro k0
  induction k0 with
  | zero =>
      intro q54 hk hX
      exact (by simpa only [k_here_0_ok] using hk : False).elim
  | succ k0 ih =>
      intro q54 hk hX
      simp only [k_here_0_ok] at hk
      refine G.sl [(.aload_n 0, 1, 0, 0, 0, 0), (.getfield 107, 3, 11, 4, 127, 0), (.aload_n 0, 1, 0, 0, 0, 0), (.getfield 110, 3, 11, 3, 126, 0)] [] (pc2 := 8) (ls2 := [some (.ref 54)]) (st2 := [.int (q54 3), .int (q54 4)]) (M2 := mrow M 54 q54) (Ps := []) (by decide +kernel) rfl rfl trivial ?_
      refine G.ic_ge (off := (30)) (tgt := 38) (by decide +kernel) rfl (fun c1 => ?_) (fun c1 => ?_)
      · skip
        rw [if_pos c1] at hk
        simp only [k_here_0, if_pos c1] at hX
        exact hX
      · skip
        rw [if_neg c1] at hk
        obtain ⟨k2, k3, hk⟩ := hk
        refine G.sl [(.aload_n 0, 1, 0, 0, 0, 0), (.getfield 20, 3, 11, 9, 132, 0), (.aload_n 0, 1, 0, 0, 0, 0), (.getfield 107, 3, 11, 4, 127, 0), (.iaload, 1, 0, 0, 0, 0), (.bipush 32, 2, 0, 0, 0, nI 32)] [ix (q54 4)] (pc2 := 22) (ls2 := [some (.ref 54)]) (st2 := [.int (nI 32), .int (M.1 56 (ix (q54 4)))]) (M2 := mrow M 54 q54) (Ps := [(q54 4) = nI (ix (q54 4)) ∧ (ix (q54 4)) < 600]) (by decide +kernel) rfl rfl ⟨⟨(ixE k2), k3⟩, trivial⟩ ?_
        refine G.ic_ne (off := (16)) (tgt := 38) (by decide +kernel) rfl (fun c4 => ?_) (fun c4 => ?_)
        · skip
          rw [if_neg c4] at hk
          simp only [k_here_0, if_neg c1, if_neg c4] at hX
          exact hX
        · skip
          rw [if_pos c4] at hk
          refine G.sl [(.aload_n 0, 1, 0, 0, 0, 0), (.dup, 1, 0, 0, 0, 0), (.getfield 107, 3, 11, 4, 127, 0), (.iconst 1, 1, 0, 0, 0, nI 1), (.iadd, 1, 0, 0, 0, 0), (.putfield 107, 3, 11, 4, 127, 0), (.goto (-35), 3, 0, 0, 0, 0)] [] (pc2 := 0) (ls2 := [some (.ref 54)]) (st2 := []) (M2 := mput (mrow M 54 q54) 54 4 ((q54 4) + (nI 1))) (Ps := []) (by decide +kernel) rfl rfl trivial ?_
          refine G.mem (M' := mrow M 54 (upd q54 4 ((q54 4) + (nI 1)))) (by first | rfl | (simp only [mput, mrow_same, mrow_hit, mrow_miss, mrow_sw, idr_eq, ne_eq, Nat.reduceEqDiff, not_false_eq_true, Nat.reduceLT, reduceCtorEq]; done)) ?_
          simp only [k_here_0, if_neg c1, if_pos c4] at hX
          exact ih (upd q54 4 ((q54 4) + (nI 1))) hk hX
set_option maxHeartbeats 4000000 in
set_option maxRecDepth 3000 in
theorem c_k_here_54 (z : Zp) (d : Nat) (M : Mem) (hk : k_here_ok (M.1 54) (M.1 56)) : GM z mX12_here (d) [.ref 54] M (fun rs => rs = .inl (some (.int ((k_here (M.1 54) (M.1 56)).1)), mrow M 54 ((k_here (M.1 54) (M.1 56)).2))) := by
  simp only [k_here_ok] at hk
  refine GM.of oX12_here.1 (Nat.le_of_ble_eq_true rfl) ?_
  show G z mX12_here (d) 0 0 0 [some (.ref 54)] [] M _
  obtain ⟨Q, hQ⟩ : ∃ Q : Rs → Prop, Q = (fun rs => rs = .inl (some (.int ((k_here (M.1 54) (M.1 56)).1)), mrow M 54 ((k_here (M.1 54) (M.1 56)).2))) := ⟨_, rfl⟩
  rw [← hQ]
  obtain ⟨k5, hk⟩ := hk
  refine G.mem (M' := mrow M 54 (M.1 54)) (by simp only [mrow_self]) ?_
  refine lp_k_here_54_0 z d M Q FU (M.1 54) (by first | (simp only [mput, mrow_same, mrow_hit, mrow_miss, mrow_sw, idr_eq, ne_eq, Nat.reduceEqDiff, not_false_eq_true, Nat.reduceLT, reduceCtorEq]; exact k5) | exact k5) ?_
  try simp only [mput, mrow_same, mrow_hit, mrow_miss, mrow_sw, idr_eq, ne_eq, Nat.reduceEqDiff, not_false_eq_true, Nat.reduceLT, reduceCtorEq]
  show G z mX12_here (d) 0 0 38 [some (.ref 54)] [] (mrow M 54 (k_here_0 (M.1 56) FU (M.1 54))) Q
  refine G.sl [(.aload_n 0, 1, 0, 0, 0, 0), (.getfield 107, 3, 11, 4, 127, 0), (.aload_n 0, 1, 0, 0, 0, 0), (.getfield 110, 3, 11, 3, 126, 0)] [] (pc2 := 46) (ls2 := [some (.ref 54)]) (st2 := [.int ((k_here_0 (M.1 56) FU (M.1 54)) 3), .int ((k_here_0 (M.1 56) FU (M.1 54)) 4)]) (M2 := mrow M 54 (k_here_0 (M.1 56) FU (M.1 54))) (Ps := []) (by decide +kernel) rfl rfl trivial ?_
  refine G.ic_ge (off := (15)) (tgt := 61) (by decide +kernel) rfl (fun c6 => ?_) (fun c6 => ?_)
  · skip
    rw [if_pos c6] at hk
    refine G.sl [(.iconst 0, 1, 0, 0, 0, nI 0)] [] (pc2 := 62) (ls2 := [some (.ref 54)]) (st2 := [.int (nI 0)]) (M2 := mrow M 54 (k_here_0 (M.1 56) FU (M.1 54))) (Ps := []) (by decide +kernel) rfl rfl trivial ?_
    exact G.reti (by decide +kernel) rfl rfl (Nat.le_of_ble_eq_true rfl) (Nat.le_of_ble_eq_true rfl) ((by rw [hQ]; simp only [k_here, if_pos c6, mrow_self]))
  · skip
    rw [if_neg c6] at hk
    obtain ⟨k7, k8, hk⟩ := hk
    refine G.sl [(.aload_n 0, 1, 0, 0, 0, 0), (.getfield 20, 3, 11, 9, 132, 0), (.aload_n 0, 1, 0, 0, 0, 0), (.getfield 107, 3, 11, 4, 127, 0), (.iaload, 1, 0, 0, 0, 0), (.goto 4, 3, 62, 0, 0, 0)] [ix ((k_here_0 (M.1 56) FU (M.1 54)) 4)] (pc2 := 62) (ls2 := [some (.ref 54)]) (st2 := [.int (M.1 56 (ix ((k_here_0 (M.1 56) FU (M.1 54)) 4)))]) (M2 := mrow M 54 (k_here_0 (M.1 56) FU (M.1 54))) (Ps := [((k_here_0 (M.1 56) FU (M.1 54)) 4) = nI (ix ((k_here_0 (M.1 56) FU (M.1 54)) 4)) ∧ (ix ((k_here_0 (M.1 56) FU (M.1 54)) 4)) < 600]) (by decide +kernel) rfl rfl ⟨⟨(ixE k7), k8⟩, trivial⟩ ?_
    exact G.reti (by decide +kernel) rfl rfl (Nat.le_of_ble_eq_true rfl) (Nat.le_of_ble_eq_true rfl) ((by rw [hQ]; simp only [k_here, if_neg c6, mrow_self]))
theorem k_isMore_01 (Rmd Rtape : Nat → Int32) : (k_isMore Rmd Rtape).1 = 0 ∨ (k_isMore Rmd Rtape).1 = 1 := by
  unfold k_isMore
  repeat' split
  all_goals first | exact Or.inl rfl | exact Or.inr rfl
set_option maxHeartbeats 4000000 in
set_option maxRecDepth 3000 in
theorem c_k_isMore_54 (z : Zp) (d : Nat) (M : Mem) (hk : k_isMore_ok (M.1 54) (M.1 56)) : GM z mX12_isMore (d + 1) [.ref 54] M (fun rs => rs = .inl (some (.int ((k_isMore (M.1 54) (M.1 56)).1)), mrow M 54 ((k_isMore (M.1 54) (M.1 56)).2))) := by
  simp only [k_isMore_ok] at hk
  refine GM.of oX12_isMore.1 (Nat.le_of_ble_eq_true rfl) ?_
  show G z mX12_isMore (d + 1) 0 0 0 [some (.ref 54)] [] M _
  obtain ⟨Q, hQ⟩ : ∃ Q : Rs → Prop, Q = (fun rs => rs = .inl (some (.int ((k_isMore (M.1 54) (M.1 56)).1)), mrow M 54 ((k_isMore (M.1 54) (M.1 56)).2))) := ⟨_, rfl⟩
  rw [← hQ]
  refine G.sl [(.aload_n 0, 1, 0, 0, 0, 0)] [] (pc2 := 1) (ls2 := [some (.ref 54)]) (st2 := [.ref 54]) (M2 := M) (Ps := []) (by decide +kernel) rfl rfl trivial ?_
  obtain ⟨k1, hk⟩ := hk
  rcases g2 : k_here (M.1 54) (M.1 56) with ⟨v3, r4⟩
  have t5 : GM z mX12_here (d) [.ref 54] M (fun rs => rs = .inl (some (.int v3), mrow M 54 r4)) := by
    have q9 := c_k_here_54 z d M k1
    try simp only [mput, mrow_same, mrow_hit, mrow_miss, mrow_sw, idr_eq, ne_eq, Nat.reduceEqDiff, not_false_eq_true, Nat.reduceLT, reduceCtorEq, g2] at q9
    exact q9
  refine G.callV (as := []) (rest := []) (a := 54) oX12_here lk_EvenFindersModel_113 (by decide +kernel) rfl rfl ⟨rfl, rfl⟩ (Nat.le_of_ble_eq_true rfl) rfl ⟨Nat.le_of_ble_eq_true rfl, Nat.le_of_ble_eq_true rfl⟩ t5 (fun v9 N9 h6 => ?_) (fun E9 N9 h6 => by cases h6)
  cases h6
  show G z mX12_isMore (d + 1) 0 0 4 [some (.ref 54)] [.int v3] (mrow M 54 r4) Q
  refine G.sl [(.pop, 1, 0, 0, 0, 0), (.aload_n 0, 1, 0, 0, 0, 0), (.getfield 107, 3, 11, 4, 127, 0), (.aload_n 0, 1, 0, 0, 0, 0), (.getfield 110, 3, 11, 3, 126, 0)] [] (pc2 := 13) (ls2 := [some (.ref 54)]) (st2 := [.int (r4 3), .int (r4 4)]) (M2 := mrow M 54 r4) (Ps := []) (by decide +kernel) rfl rfl trivial ?_
  refine G.ic_ge (off := (7)) (tgt := 20) (by decide +kernel) rfl (fun c7 => ?_) (fun c7 => ?_)
  · skip
    refine G.sl [(.iconst 0, 1, 0, 0, 0, nI 0)] [] (pc2 := 21) (ls2 := [some (.ref 54)]) (st2 := [.int (nI 0)]) (M2 := mrow M 54 r4) (Ps := []) (by decide +kernel) rfl rfl trivial ?_
    exact G.reti (by decide +kernel) rfl rfl (Nat.le_of_ble_eq_true rfl) (Nat.le_of_ble_eq_true rfl) ((by rw [hQ]; simp only [k_isMore, g2, if_pos c7, mrow_self]))
  · skip
    refine G.sl [(.iconst 1, 1, 0, 0, 0, nI 1), (.goto 4, 3, 21, 0, 0, 0)] [] (pc2 := 21) (ls2 := [some (.ref 54)]) (st2 := [.int (nI 1)]) (M2 := mrow M 54 r4) (Ps := []) (by decide +kernel) rfl rfl trivial ?_
    exact G.reti (by decide +kernel) rfl rfl (Nat.le_of_ble_eq_true rfl) (Nat.le_of_ble_eq_true rfl) ((by rw [hQ]; simp only [k_isMore, g2, if_neg c7, mrow_self]))
theorem k_isDigit_01 (x0 : Int32) : k_isDigit x0 = 0 ∨ k_isDigit x0 = 1 := by
  unfold k_isDigit
  repeat' split
  all_goals first | exact Or.inl rfl | exact Or.inr rfl
set_option maxHeartbeats 4000000 in
set_option maxRecDepth 3000 in
theorem c_k_isDigit (z : Zp) (d : Nat) (M : Mem) (x0 : Int32) : GM z mX12_isDigit (d) [.int x0] M (fun rs => rs = .inl (some (.int (k_isDigit x0)), M)) := by
  refine GM.of oX12_isDigit.1 (Nat.le_of_ble_eq_true rfl) ?_
  show G z mX12_isDigit (d) 0 0 0 [some (.int x0)] [] M _
  obtain ⟨Q, hQ⟩ : ∃ Q : Rs → Prop, Q = (fun rs => rs = .inl (some (.int (k_isDigit x0)), M)) := ⟨_, rfl⟩
  rw [← hQ]
  refine G.sl [(.iload_n 0, 1, 0, 0, 0, 0), (.bipush 48, 2, 0, 0, 0, nI 48)] [] (pc2 := 3) (ls2 := [some (.int x0)]) (st2 := [.int (nI 48), .int x0]) (M2 := M) (Ps := []) (by decide +kernel) rfl rfl trivial ?_
  refine G.ic_lt (off := (13)) (tgt := 16) (by decide +kernel) rfl (fun c1 => ?_) (fun c1 => ?_)
  · skip
    refine G.sl [(.iconst 0, 1, 0, 0, 0, nI 0)] [] (pc2 := 17) (ls2 := [some (.int x0)]) (st2 := [.int (nI 0)]) (M2 := M) (Ps := []) (by decide +kernel) rfl rfl trivial ?_
    exact G.reti (by decide +kernel) rfl rfl (Nat.le_of_ble_eq_true rfl) (Nat.le_of_ble_eq_true rfl) ((by rw [hQ]; simp only [k_isDigit, if_pos c1, mrow_self]))
  · skip
    refine G.sl [(.iload_n 0, 1, 0, 0, 0, 0), (.bipush 57, 2, 0, 0, 0, nI 57)] [] (pc2 := 9) (ls2 := [some (.int x0)]) (st2 := [.int (nI 57), .int x0]) (M2 := M) (Ps := []) (by decide +kernel) rfl rfl trivial ?_
    refine G.ic_gt (off := (7)) (tgt := 16) (by decide +kernel) rfl (fun c2 => ?_) (fun c2 => ?_)
    · skip
      refine G.sl [(.iconst 0, 1, 0, 0, 0, nI 0)] [] (pc2 := 17) (ls2 := [some (.int x0)]) (st2 := [.int (nI 0)]) (M2 := M) (Ps := []) (by decide +kernel) rfl rfl trivial ?_
      exact G.reti (by decide +kernel) rfl rfl (Nat.le_of_ble_eq_true rfl) (Nat.le_of_ble_eq_true rfl) ((by rw [hQ]; simp only [k_isDigit, if_neg c1, if_pos c2, mrow_self]))
    · skip
      refine G.sl [(.iconst 1, 1, 0, 0, 0, nI 1), (.goto 4, 3, 17, 0, 0, 0)] [] (pc2 := 17) (ls2 := [some (.int x0)]) (st2 := [.int (nI 1)]) (M2 := M) (Ps := []) (by decide +kernel) rfl rfl trivial ?_
      exact G.reti (by decide +kernel) rfl rfl (Nat.le_of_ble_eq_true rfl) (Nat.le_of_ble_eq_true rfl) ((by rw [hQ]; simp only [k_isDigit, if_neg c1, if_neg c2, mrow_self]))
set_option maxHeartbeats 4000000 in
set_option maxRecDepth 3000 in
theorem lp_k_readNumber_54_41 (z : Zp) (d : Nat) (M : Mem) (Q : Rs → Prop) (x1 : Int32) (x2 : Int32) (x4 : Int32) : ∀ (k0 : Nat) (s5 : Int32) (q54 : (Nat → Int32)), k_readNumber_41_ok (M.1 56) x1 x2 x4 k0 s5 q54 → (match k_readNumber_41 (M.1 56) x1 x2 x4 k0 s5 q54 with | (s5', q54') => G z mX12_readNumber (d + 1) 0 0 114 [some (.ref 54), some (.int x1), some (.int x2), none, some (.int x4), some (.int (s5'))] [] (mrow M 54 (q54')) Q) → G z mX12_readNumber (d + 1) 0 0 41 [some (.ref 54), some (.int x1), some (.int x2), none, some (.int x4), some (.int s5)] [] (mrow M 54 q54) Q := by
  intro k0
  induction k0 with
  | zero =>
      intro s5 q54 hk hX
      exact (by simpa only [k_readNumber_41_ok] using hk : False).elim
  | succ k0 ih =>
      intro s5 q54 hk hX
      simp only [k_readNumber_41_ok] at hk
      refine G.sl [(.aload_n 0, 1, 0, 0, 0, 0), (.getfield 107, 3, 11, 4, 127, 0), (.aload_n 0, 1, 0, 0, 0, 0), (.getfield 110, 3, 11, 3, 126, 0)] [] (pc2 := 49) (ls2 := [some (.ref 54), some (.int x1), some (.int x2), none, some (.int x4), some (.int s5)]) (st2 := [.int (q54 3), .int (q54 4)]) (M2 := mrow M 54 q54) (Ps := []) (by decide +kernel) rfl rfl trivial ?_
      refine G.ic_ge (off := (65)) (tgt := 114) (by decide +kernel) rfl (fun c15 => ?_) (fun c15 => ?_)
      · skip
        rw [if_pos c15] at hk
        simp only [k_readNumber_41, if_pos c15] at hX
        exact hX
      · skip
        rw [if_neg c15] at hk
        obtain ⟨k16, k17, hk⟩ := hk
        refine G.sl [(.aload_n 0, 1, 0, 0, 0, 0), (.getfield 20, 3, 11, 9, 132, 0), (.aload_n 0, 1, 0, 0, 0, 0), (.getfield 107, 3, 11, 4, 127, 0), (.iaload, 1, 0, 0, 0, 0)] [ix (q54 4)] (pc2 := 61) (ls2 := [some (.ref 54), some (.int x1), some (.int x2), none, some (.int x4), some (.int s5)]) (st2 := [.int (M.1 56 (ix (q54 4)))]) (M2 := mrow M 54 q54) (Ps := [(q54 4) = nI (ix (q54 4)) ∧ (ix (q54 4)) < 600]) (by decide +kernel) rfl rfl ⟨⟨(ixE k16), k17⟩, trivial⟩ ?_
        obtain ⟨k18, hk⟩ := hk
        have t19 : GM z mX12_isDigit (d) [.int (M.1 56 (ix (q54 4)))] (mrow M 54 q54) (fun rs => rs = .inl (some (.int (k_isDigit (M.1 56 (ix (q54 4))))), mrow M 54 q54)) := by
          have q9 := c_k_isDigit z d (mrow M 54 q54) (M.1 56 (ix (q54 4)))
          try simp only [mput, mrow_same, mrow_hit, mrow_miss, mrow_sw, idr_eq, ne_eq, Nat.reduceEqDiff, not_false_eq_true, Nat.reduceLT, reduceCtorEq] at q9
          exact q9
        refine G.callS (as := [.int (M.1 56 (ix (q54 4)))]) (rest := []) oX12_isDigit lk_EvenFindersModel_134 (by decide +kernel) rfl (Nat.le_of_ble_eq_true rfl) rfl ⟨Nat.le_of_ble_eq_true rfl, Nat.le_of_ble_eq_true rfl⟩ t19 (fun v9 N9 h20 => ?_) (fun E9 N9 h20 => by cases h20)
        cases h20
        show G z mX12_readNumber (d + 1) 0 0 64 [some (.ref 54), some (.int x1), some (.int x2), none, some (.int x4), some (.int s5)] [.int (k_isDigit (M.1 56 (ix (q54 4))))] (mrow M 54 q54) Q
        refine G.if_eq (off := (50)) (tgt := 114) (by decide +kernel) rfl (fun c21 => ?_) (fun c21 => ?_)
        · skip
          rw [if_pos c21] at hk
          simp only [k_readNumber_41, if_neg c15, if_pos c21] at hX
          exact hX
        · skip
          rw [if_neg c21] at hk
          refine G.sl [(.iload 5, 2, 5, 0, 0, 0), (.sipush 9999, 3, 0, 0, 0, nI 9999)] [] (pc2 := 72) (ls2 := [some (.ref 54), some (.int x1), some (.int x2), none, some (.int x4), some (.int s5)]) (st2 := [.int (nI 9999), .int s5]) (M2 := mrow M 54 q54) (Ps := []) (by decide +kernel) rfl rfl trivial ?_
          refine G.ic_le (off := (9)) (tgt := 81) (by decide +kernel) rfl (fun c22 => ?_) (fun c22 => ?_)
          · skip
            rw [if_pos c22] at hk
            refine G.sl [(.bipush 10, 2, 0, 0, 0, nI 10), (.iload 5, 2, 5, 0, 0, 0), (.imul, 1, 0, 0, 0, 0), (.aload_n 0, 1, 0, 0, 0, 0), (.getfield 20, 3, 11, 9, 132, 0), (.aload_n 0, 1, 0, 0, 0, 0), (.getfield 107, 3, 11, 4, 127, 0), (.iaload, 1, 0, 0, 0, 0), (.iadd, 1, 0, 0, 0, 0), (.bipush 48, 2, 0, 0, 0, nI 48), (.isub, 1, 0, 0, 0, 0), (.istore 5, 2, 5, 0, 0, 0), (.aload_n 0, 1, 0, 0, 0, 0), (.dup, 1, 0, 0, 0, 0), (.getfield 107, 3, 11, 4, 127, 0), (.iconst 1, 1, 0, 0, 0, nI 1), (.iadd, 1, 0, 0, 0, 0), (.putfield 107, 3, 11, 4, 127, 0), (.goto (-70), 3, 41, 0, 0, 0)] [ix (q54 4)] (pc2 := 41) (ls2 := [some (.ref 54), some (.int x1), some (.int x2), none, some (.int x4), some (.int ((((nI 10) * s5) + (M.1 56 (ix (q54 4)))) - (nI 48)))]) (st2 := []) (M2 := mput (mrow M 54 q54) 54 4 ((q54 4) + (nI 1))) (Ps := [(q54 4) = nI (ix (q54 4)) ∧ (ix (q54 4)) < 600]) (by decide +kernel) rfl rfl ⟨⟨(ixE k16), k17⟩, trivial⟩ ?_
            refine G.mem (M' := mrow M 54 (upd q54 4 ((q54 4) + (nI 1)))) (by first | rfl | (simp only [mput, mrow_same, mrow_hit, mrow_miss, mrow_sw, idr_eq, ne_eq, Nat.reduceEqDiff, not_false_eq_true, Nat.reduceLT, reduceCtorEq]; done)) ?_
            simp only [k_readNumber_41, if_neg c15, if_neg c21, if_pos c22] at hX
            exact ih ((((nI 10) * s5) + (M.1 56 (ix (q54 4)))) - (nI 48)) (upd q54 4 ((q54 4) + (nI 1))) hk hX
          · skip
            rw [if_neg c22] at hk
            refine G.sl [(.sipush 10000, 3, 0, 0, 0, nI 10000), (.goto 21, 3, 99, 0, 0, 0), (.istore 5, 2, 5, 0, 0, 0), (.aload_n 0, 1, 0, 0, 0, 0), (.dup, 1, 0, 0, 0, 0), (.getfield 107, 3, 11, 4, 127, 0), (.iconst 1, 1, 0, 0, 0, nI 1), (.iadd, 1, 0, 0, 0, 0), (.putfield 107, 3, 11, 4, 127, 0), (.goto (-70), 3, 41, 0, 0, 0)] [] (pc2 := 41) (ls2 := [some (.ref 54), some (.int x1), some (.int x2), none, some (.int x4), some (.int (nI 10000))]) (st2 := []) (M2 := mput (mrow M 54 q54) 54 4 ((q54 4) + (nI 1))) (Ps := []) (by decide +kernel) rfl rfl trivial ?_
            refine G.mem (M' := mrow M 54 (upd q54 4 ((q54 4) + (nI 1)))) (by first | rfl | (simp only [mput, mrow_same, mrow_hit, mrow_miss, mrow_sw, idr_eq, ne_eq, Nat.reduceEqDiff, not_false_eq_true, Nat.reduceLT, reduceCtorEq]; done)) ?_
            simp only [k_readNumber_41, if_neg c15, if_neg c21, if_neg c22] at hX
            exact ih (nI 10000) (upd q54 4 ((q54 4) + (nI 1))) hk hX
set_option maxHeartbeats 4000000 in
set_option maxRecDepth 3000 in
theorem c_k_wrong_54 (z : Zp) (d : Nat) (M : Mem) (x1 : Int32) (x2 : Int32) : GM z mX12_wrong (d) [.ref 54, .int x1, .int x2] M (fun rs => rs = .inl (none, mrow M 54 ((k_wrong (M.1 54) x1 x2).2))) := by
  refine GM.of oX12_wrong.1 (Nat.le_of_ble_eq_true rfl) ?_
  show G z mX12_wrong (d) 0 0 0 [some (.ref 54), some (.int x1), some (.int x2)] [] M _
  obtain ⟨Q, hQ⟩ : ∃ Q : Rs → Prop, Q = (fun rs => rs = .inl (none, mrow M 54 ((k_wrong (M.1 54) x1 x2).2))) := ⟨_, rfl⟩
  rw [← hQ]
  refine G.sl [(.aload_n 0, 1, 0, 0, 0, 0), (.getfield 101, 3, 11, 5, 128, 0), (.iconst (-1), 1, 0, 0, 0, (-1))] [] (pc2 := 5) (ls2 := [some (.ref 54), some (.int x1), some (.int x2)]) (st2 := [.int ((-1)), .int (M.1 54 5)]) (M2 := M) (Ps := []) (by decide +kernel) rfl rfl trivial ?_
  refine G.ic_eq (off := (4)) (tgt := 9) (by decide +kernel) rfl (fun c1 => ?_) (fun c1 => ?_)
  · skip
    refine G.sl [(.aload_n 0, 1, 0, 0, 0, 0), (.iload_n 2, 1, 2, 0, 0, 0), (.putfield 101, 3, 11, 5, 128, 0), (.aload_n 0, 1, 0, 0, 0, 0), (.iload_n 1, 1, 1, 0, 0, 0), (.putfield 104, 3, 11, 6, 129, 0)] [] (pc2 := 19) (ls2 := [some (.ref 54), some (.int x1), some (.int x2)]) (st2 := []) (M2 := mput (mput M 54 5 x2) 54 6 x1) (Ps := []) (by decide +kernel) rfl rfl trivial ?_
    refine G.mem (M' := mrow M 54 (upd (upd (M.1 54) 5 x2) 6 x1)) (by first | rfl | (simp only [mput, mrow_same, mrow_hit, mrow_miss, mrow_sw, idr_eq, ne_eq, Nat.reduceEqDiff, not_false_eq_true, Nat.reduceLT, reduceCtorEq]; done)) ?_
    exact G.retv (by decide +kernel) rfl (Nat.le_of_ble_eq_true rfl) (Nat.le_of_ble_eq_true rfl) ((by rw [hQ]; simp only [k_wrong, if_pos c1, mrow_self]))
  · skip
    refine G.mem (M' := mrow M 54 (M.1 54)) (((mrow_id (N := M) (c := 54) (f := M.1 54) (by first | rfl | (simp only [mput, mrow_same, mrow_hit, mrow_miss, mrow_sw, idr_eq, ne_eq, Nat.reduceEqDiff, not_false_eq_true, Nat.reduceLT, reduceCtorEq]; done))).symm).trans (by first | rfl | (simp only [mput, mrow_same, mrow_hit, mrow_miss, mrow_sw, idr_eq, ne_eq, Nat.reduceEqDiff, not_false_eq_true, Nat.reduceLT, reduceCtorEq]; done))) ?_
    exact G.retv (by decide +kernel) rfl (Nat.le_of_ble_eq_true rfl) (Nat.le_of_ble_eq_true rfl) ((by rw [hQ]; simp only [k_wrong, if_neg c1, mrow_self]))
set_option maxHeartbeats 4000000 in
set_option maxRecDepth 3000 in
theorem c_k_readNumber_54 (z : Zp) (d : Nat) (M : Mem) (x1 : Int32) (x2 : Int32) (hk : k_readNumber_ok (M.1 54) (M.1 56) x1 x2) : GM z mX12_readNumber (d + 1) [.ref 54, .int x1, .int x2] M (fun rs => rs = .inl (some (.int ((k_readNumber (M.1 54) (M.1 56) x1 x2).1)), mrow M 54 ((k_readNumber (M.1 54) (M.1 56) x1 x2).2))) := by
  simp only [k_readNumber_ok] at hk
  refine GM.of oX12_readNumber.1 (Nat.le_of_ble_eq_true rfl) ?_
  show G z mX12_readNumber (d + 1) 0 0 0 [some (.ref 54), some (.int x1), some (.int x2), none, none, none] [] M _
  obtain ⟨Q, hQ⟩ : ∃ Q : Rs → Prop, Q = (fun rs => rs = .inl (some (.int ((k_readNumber (M.1 54) (M.1 56) x1 x2).1)), mrow M 54 ((k_readNumber (M.1 54) (M.1 56) x1 x2).2))) := ⟨_, rfl⟩
  rw [← hQ]
  refine G.sl [(.aload_n 0, 1, 0, 0, 0, 0)] [] (pc2 := 1) (ls2 := [some (.ref 54), some (.int x1), some (.int x2), none, none, none]) (st2 := [.ref 54]) (M2 := M) (Ps := []) (by decide +kernel) rfl rfl trivial ?_
  obtain ⟨k1, hk⟩ := hk
  have t2 : GM z mX12_fine (d) [.ref 54] M (fun rs => rs = .inl (some (.int (k_fine (M.1 54))), M)) := by
    have q9 := c_k_fine_54 z d M 
    try simp only [mput, mrow_same, mrow_hit, mrow_miss, mrow_sw, idr_eq, ne_eq, Nat.reduceEqDiff, not_false_eq_true, Nat.reduceLT, reduceCtorEq] at q9
    exact q9
  refine G.callV (as := []) (rest := []) (a := 54) oX12_fine lk_EvenFindersModel_130 (by decide +kernel) rfl rfl ⟨rfl, rfl⟩ (Nat.le_of_ble_eq_true rfl) rfl ⟨Nat.le_of_ble_eq_true rfl, Nat.le_of_ble_eq_true rfl⟩ t2 (fun v9 N9 h3 => ?_) (fun E9 N9 h3 => by cases h3)
  cases h3
  show G z mX12_readNumber (d + 1) 0 0 4 [some (.ref 54), some (.int x1), some (.int x2), none, none, none] [.int (k_fine (M.1 54))] M Q
  refine G.if_ne (off := (5)) (tgt := 9) (by decide +kernel) rfl (fun c4 => ?_) (fun c4 => ?_)
  · skip
    rw [if_neg c4] at hk
    refine G.sl [(.aload_n 0, 1, 0, 0, 0, 0)] [] (pc2 := 10) (ls2 := [some (.ref 54), some (.int x1), some (.int x2), none, none, none]) (st2 := [.ref 54]) (M2 := M) (Ps := []) (by decide +kernel) rfl rfl trivial ?_
    obtain ⟨k5, hk⟩ := hk
    rcases g6 : k_here (M.1 54) (M.1 56) with ⟨v7, r8⟩
    try simp only [g6] at hk
    have t9 : GM z mX12_here (d) [.ref 54] M (fun rs => rs = .inl (some (.int v7), mrow M 54 r8)) := by
      have q9 := c_k_here_54 z d M k5
      try simp only [mput, mrow_same, mrow_hit, mrow_miss, mrow_sw, idr_eq, ne_eq, Nat.reduceEqDiff, not_false_eq_true, Nat.reduceLT, reduceCtorEq, g6] at q9
      exact q9
    refine G.callV (as := []) (rest := []) (a := 54) oX12_here lk_EvenFindersModel_113 (by decide +kernel) rfl rfl ⟨rfl, rfl⟩ (Nat.le_of_ble_eq_true rfl) rfl ⟨Nat.le_of_ble_eq_true rfl, Nat.le_of_ble_eq_true rfl⟩ t9 (fun v9 N9 h10 => ?_) (fun E9 N9 h10 => by cases h10)
    cases h10
    show G z mX12_readNumber (d + 1) 0 0 13 [some (.ref 54), some (.int x1), some (.int x2), none, none, none] [.int v7] (mrow M 54 r8) Q
    refine G.sl [(.istore_n 3, 1, 3, 0, 0, 0), (.aload_n 0, 1, 0, 0, 0, 0), (.getfield 107, 3, 11, 4, 127, 0), (.istore 4, 2, 4, 0, 0, 0), (.iconst 0, 1, 0, 0, 0, nI 0), (.istore 5, 2, 5, 0, 0, 0), (.iload_n 3, 1, 3, 0, 0, 0)] [] (pc2 := 24) (ls2 := [some (.ref 54), some (.int x1), some (.int x2), some (.int v7), some (.int (r8 4)), some (.int (nI 0))]) (st2 := [.int v7]) (M2 := mrow M 54 r8) (Ps := []) (by decide +kernel) rfl rfl trivial ?_
    obtain ⟨k11, hk⟩ := hk
    have t12 : GM z mX12_isDigit (d) [.int v7] (mrow M 54 r8) (fun rs => rs = .inl (some (.int (k_isDigit v7)), mrow M 54 r8)) := by
      have q9 := c_k_isDigit z d (mrow M 54 r8) v7
      try simp only [mput, mrow_same, mrow_hit, mrow_miss, mrow_sw, idr_eq, ne_eq, Nat.reduceEqDiff, not_false_eq_true, Nat.reduceLT, reduceCtorEq] at q9
      exact q9
    refine G.callS (as := [.int v7]) (rest := []) oX12_isDigit lk_EvenFindersModel_134 (by decide +kernel) rfl (Nat.le_of_ble_eq_true rfl) rfl ⟨Nat.le_of_ble_eq_true rfl, Nat.le_of_ble_eq_true rfl⟩ t12 (fun v9 N9 h13 => ?_) (fun E9 N9 h13 => by cases h13)
    cases h13
    show G z mX12_readNumber (d + 1) 0 0 27 [some (.ref 54), some (.int x1), some (.int x2), some (.int v7), some (.int (r8 4)), some (.int (nI 0))] [.int (k_isDigit v7)] (mrow M 54 r8) Q
    refine G.if_ne (off := (14)) (tgt := 41) (by decide +kernel) rfl (fun c14 => ?_) (fun c14 => ?_)
    · skip
      rw [if_neg c14] at hk
      refine G.loc (ls2 := [some (.ref 54), some (.int x1), some (.int x2), none, some (.int (r8 4)), some (.int (nI 0))]) (by simp [subL]) ?_
      obtain ⟨k23, hk⟩ := hk
      refine G.mem (M' := mrow (mrow M 54 r8) 54 ((mrow M 54 r8).1 54)) (by simp only [mrow_self]) ?_
      refine lp_k_readNumber_54_41 z d (mrow M 54 r8) Q x1 x2 (r8 4) FU (nI 0) ((mrow M 54 r8).1 54) (by first | (simp only [mput, mrow_same, mrow_hit, mrow_miss, mrow_sw, idr_eq, ne_eq, Nat.reduceEqDiff, not_false_eq_true, Nat.reduceLT, reduceCtorEq]; exact k23) | exact k23) ?_
      try simp only [mput, mrow_same, mrow_hit, mrow_miss, mrow_sw, idr_eq, ne_eq, Nat.reduceEqDiff, not_false_eq_true, Nat.reduceLT, reduceCtorEq]
      rcases g24 : k_readNumber_41 (M.1 56) x1 x2 (r8 4) FU (nI 0) r8 with ⟨v25, r26⟩
      show G z mX12_readNumber (d + 1) 0 0 114 [some (.ref 54), some (.int x1), some (.int x2), none, some (.int (r8 4)), some (.int v25)] [] (mrow M 54 r26) Q
      refine G.sl [(.iload 5, 2, 5, 0, 0, 0), (.iload_n 1, 1, 1, 0, 0, 0)] [] (pc2 := 117) (ls2 := [some (.ref 54), some (.int x1), some (.int x2), none, some (.int (r8 4)), some (.int v25)]) (st2 := [.int x1, .int v25]) (M2 := mrow M 54 r26) (Ps := []) (by decide +kernel) rfl rfl trivial ?_
      refine G.ic_lt (off := (9)) (tgt := 126) (by decide +kernel) rfl (fun c27 => ?_) (fun c27 => ?_)
      · skip
        refine G.sl [(.aload_n 0, 1, 0, 0, 0, 0), (.iconst 2, 1, 0, 0, 0, nI 2), (.iload 4, 2, 4, 0, 0, 0)] [] (pc2 := 130) (ls2 := [some (.ref 54), some (.int x1), some (.int x2), none, some (.int (r8 4)), some (.int v25)]) (st2 := [.int (r8 4), .int (nI 2), .ref 54]) (M2 := mrow M 54 r26) (Ps := []) (by decide +kernel) rfl rfl trivial ?_
        rcases g29 : k_wrong r26 (nI 2) (r8 4) with ⟨u30, r31⟩
        have t32 : GM z mX12_wrong (d) [.ref 54, .int (nI 2), .int (r8 4)] (mrow M 54 r26) (fun rs => rs = .inl (none, mrow M 54 r31)) := by
          have q9 := c_k_wrong_54 z d (mrow M 54 r26) (nI 2) (r8 4)
          try simp only [mput, mrow_same, mrow_hit, mrow_miss, mrow_sw, idr_eq, ne_eq, Nat.reduceEqDiff, not_false_eq_true, Nat.reduceLT, reduceCtorEq, g29] at q9
          exact q9
        refine G.callV (as := [.int (nI 2), .int (r8 4)]) (rest := []) (a := 54) oX12_wrong lk_EvenFindersModel_137 (by decide +kernel) rfl rfl ⟨rfl, rfl⟩ (Nat.le_of_ble_eq_true rfl) rfl ⟨Nat.le_of_ble_eq_true rfl, Nat.le_of_ble_eq_true rfl⟩ t32 (fun v9 N9 h33 => ?_) (fun E9 N9 h33 => by cases h33)
        cases h33
        show G z mX12_readNumber (d + 1) 0 0 133 [some (.ref 54), some (.int x1), some (.int x2), none, some (.int (r8 4)), some (.int v25)] [] (mrow M 54 r31) Q
        refine G.sl [(.iconst 0, 1, 0, 0, 0, nI 0)] [] (pc2 := 134) (ls2 := [some (.ref 54), some (.int x1), some (.int x2), none, some (.int (r8 4)), some (.int v25)]) (st2 := [.int (nI 0)]) (M2 := mrow M 54 r31) (Ps := []) (by decide +kernel) rfl rfl trivial ?_
        exact G.reti (by decide +kernel) rfl rfl (Nat.le_of_ble_eq_true rfl) (Nat.le_of_ble_eq_true rfl) ((by rw [hQ]; simp only [k_readNumber, if_neg c4, g6, if_neg c14, g24, if_pos c27, g29, mrow_self]))
      · skip
        refine G.sl [(.iload 5, 2, 5, 0, 0, 0), (.iload_n 2, 1, 2, 0, 0, 0)] [] (pc2 := 123) (ls2 := [some (.ref 54), some (.int x1), some (.int x2), none, some (.int (r8 4)), some (.int v25)]) (st2 := [.int x2, .int v25]) (M2 := mrow M 54 r26) (Ps := []) (by decide +kernel) rfl rfl trivial ?_
        refine G.ic_le (off := (12)) (tgt := 135) (by decide +kernel) rfl (fun c34 => ?_) (fun c34 => ?_)
        · skip
          refine G.sl [(.iload 5, 2, 5, 0, 0, 0)] [] (pc2 := 137) (ls2 := [some (.ref 54), some (.int x1), some (.int x2), none, some (.int (r8 4)), some (.int v25)]) (st2 := [.int v25]) (M2 := mrow M 54 r26) (Ps := []) (by decide +kernel) rfl rfl trivial ?_
          exact G.reti (by decide +kernel) rfl rfl (Nat.le_of_ble_eq_true rfl) (Nat.le_of_ble_eq_true rfl) ((by rw [hQ]; simp only [k_readNumber, if_neg c4, g6, if_neg c14, g24, if_neg c27, if_pos c34, mrow_self]))
        · skip
          refine G.sl [(.aload_n 0, 1, 0, 0, 0, 0), (.iconst 2, 1, 0, 0, 0, nI 2), (.iload 4, 2, 4, 0, 0, 0)] [] (pc2 := 130) (ls2 := [some (.ref 54), some (.int x1), some (.int x2), none, some (.int (r8 4)), some (.int v25)]) (st2 := [.int (r8 4), .int (nI 2), .ref 54]) (M2 := mrow M 54 r26) (Ps := []) (by decide +kernel) rfl rfl trivial ?_
          rcases g36 : k_wrong r26 (nI 2) (r8 4) with ⟨u37, r38⟩
          have t39 : GM z mX12_wrong (d) [.ref 54, .int (nI 2), .int (r8 4)] (mrow M 54 r26) (fun rs => rs = .inl (none, mrow M 54 r38)) := by
            have q9 := c_k_wrong_54 z d (mrow M 54 r26) (nI 2) (r8 4)
            try simp only [mput, mrow_same, mrow_hit, mrow_miss, mrow_sw, idr_eq, ne_eq, Nat.reduceEqDiff, not_false_eq_true, Nat.reduceLT, reduceCtorEq, g36] at q9
            exact q9
          refine G.callV (as := [.int (nI 2), .int (r8 4)]) (rest := []) (a := 54) oX12_wrong lk_EvenFindersModel_137 (by decide +kernel) rfl rfl ⟨rfl, rfl⟩ (Nat.le_of_ble_eq_true rfl) rfl ⟨Nat.le_of_ble_eq_true rfl, Nat.le_of_ble_eq_true rfl⟩ t39 (fun v9 N9 h40 => ?_) (fun E9 N9 h40 => by cases h40)
          cases h40
          show G z mX12_readNumber (d + 1) 0 0 133 [some (.ref 54), some (.int x1), some (.int x2), none, some (.int (r8 4)), some (.int v25)] [] (mrow M 54 r38) Q
          refine G.sl [(.iconst 0, 1, 0, 0, 0, nI 0)] [] (pc2 := 134) (ls2 := [some (.ref 54), some (.int x1), some (.int x2), none, some (.int (r8 4)), some (.int v25)]) (st2 := [.int (nI 0)]) (M2 := mrow M 54 r38) (Ps := []) (by decide +kernel) rfl rfl trivial ?_
          exact G.reti (by decide +kernel) rfl rfl (Nat.le_of_ble_eq_true rfl) (Nat.le_of_ble_eq_true rfl) ((by rw [hQ]; simp only [k_readNumber, if_neg c4, g6, if_neg c14, g24, if_neg c27, if_neg c34, g36, mrow_self]))
    · skip
      rw [if_pos c14] at hk
      refine G.sl [(.aload_n 0, 1, 0, 0, 0, 0), (.iconst 1, 1, 0, 0, 0, nI 1), (.aload_n 0, 1, 0, 0, 0, 0), (.getfield 107, 3, 11, 4, 127, 0)] [] (pc2 := 36) (ls2 := [some (.ref 54), some (.int x1), some (.int x2), some (.int v7), some (.int (r8 4)), some (.int (nI 0))]) (st2 := [.int (r8 4), .int (nI 1), .ref 54]) (M2 := mrow M 54 r8) (Ps := []) (by decide +kernel) rfl rfl trivial ?_
      rcases g42 : k_wrong r8 (nI 1) (r8 4) with ⟨u43, r44⟩
      have t45 : GM z mX12_wrong (d) [.ref 54, .int (nI 1), .int (r8 4)] (mrow M 54 r8) (fun rs => rs = .inl (none, mrow M 54 r44)) := by
        have q9 := c_k_wrong_54 z d (mrow M 54 r8) (nI 1) (r8 4)
        try simp only [mput, mrow_same, mrow_hit, mrow_miss, mrow_sw, idr_eq, ne_eq, Nat.reduceEqDiff, not_false_eq_true, Nat.reduceLT, reduceCtorEq, g42] at q9
        exact q9
      refine G.callV (as := [.int (nI 1), .int (r8 4)]) (rest := []) (a := 54) oX12_wrong lk_EvenFindersModel_137 (by decide +kernel) rfl rfl ⟨rfl, rfl⟩ (Nat.le_of_ble_eq_true rfl) rfl ⟨Nat.le_of_ble_eq_true rfl, Nat.le_of_ble_eq_true rfl⟩ t45 (fun v9 N9 h46 => ?_) (fun E9 N9 h46 => by cases h46)
      cases h46
      show G z mX12_readNumber (d + 1) 0 0 39 [some (.ref 54), some (.int x1), some (.int x2), some (.int v7), some (.int (r8 4)), some (.int (nI 0))] [] (mrow M 54 r44) Q
      refine G.sl [(.iconst 0, 1, 0, 0, 0, nI 0)] [] (pc2 := 40) (ls2 := [some (.ref 54), some (.int x1), some (.int x2), some (.int v7), some (.int (r8 4)), some (.int (nI 0))]) (st2 := [.int (nI 0)]) (M2 := mrow M 54 r44) (Ps := []) (by decide +kernel) rfl rfl trivial ?_
      exact G.reti (by decide +kernel) rfl rfl (Nat.le_of_ble_eq_true rfl) (Nat.le_of_ble_eq_true rfl) ((by rw [hQ]; simp only [k_readNumber, if_neg c4, g6, if_pos c14, g42, mrow_self]))
  · skip
    rw [if_pos c4] at hk
    refine G.sl [(.iconst 0, 1, 0, 0, 0, nI 0)] [] (pc2 := 8) (ls2 := [some (.ref 54), some (.int x1), some (.int x2), none, none, none]) (st2 := [.int (nI 0)]) (M2 := M) (Ps := []) (by decide +kernel) rfl rfl trivial ?_
    refine G.mem (M' := mrow M 54 (M.1 54)) (((mrow_id (N := M) (c := 54) (f := M.1 54) (by first | rfl | (simp only [mput, mrow_same, mrow_hit, mrow_miss, mrow_sw, idr_eq, ne_eq, Nat.reduceEqDiff, not_false_eq_true, Nat.reduceLT, reduceCtorEq]; done))).symm).trans (by first | rfl | (simp only [mput, mrow_same, mrow_hit, mrow_miss, mrow_sw, idr_eq, ne_eq, Nat.reduceEqDiff, not_false_eq_true, Nat.reduceLT, reduceCtorEq]; done))) ?_
    exact G.reti (by decide +kernel) rfl rfl (Nat.le_of_ble_eq_true rfl) (Nat.le_of_ble_eq_true rfl) ((by rw [hQ]; simp only [k_readNumber, if_pos c4, mrow_self]))
set_option maxHeartbeats 4000000 in
set_option maxRecDepth 3000 in
theorem c_k_sign_54 (z : Zp) (d : Nat) (M : Mem) (x1 : Int32) (hk : k_sign_ok (M.1 54) (M.1 56) x1) : GM z mX12_sign (d + 1) [.ref 54, .int x1] M (fun rs => rs = .inl (none, mrow M 54 ((k_sign (M.1 54) (M.1 56) x1).2))) := by
  simp only [k_sign_ok] at hk
  refine GM.of oX12_sign.1 (Nat.le_of_ble_eq_true rfl) ?_
  show G z mX12_sign (d + 1) 0 0 0 [some (.ref 54), some (.int x1)] [] M _
  obtain ⟨Q, hQ⟩ : ∃ Q : Rs → Prop, Q = (fun rs => rs = .inl (none, mrow M 54 ((k_sign (M.1 54) (M.1 56) x1).2))) := ⟨_, rfl⟩
  rw [← hQ]
  refine G.sl [(.aload_n 0, 1, 0, 0, 0, 0)] [] (pc2 := 1) (ls2 := [some (.ref 54), some (.int x1)]) (st2 := [.ref 54]) (M2 := M) (Ps := []) (by decide +kernel) rfl rfl trivial ?_
  obtain ⟨k1, hk⟩ := hk
  have t2 : GM z mX12_fine (d) [.ref 54] M (fun rs => rs = .inl (some (.int (k_fine (M.1 54))), M)) := by
    have q9 := c_k_fine_54 z d M 
    try simp only [mput, mrow_same, mrow_hit, mrow_miss, mrow_sw, idr_eq, ne_eq, Nat.reduceEqDiff, not_false_eq_true, Nat.reduceLT, reduceCtorEq] at q9
    exact q9
  refine G.callV (as := []) (rest := []) (a := 54) oX12_fine lk_EvenFindersModel_130 (by decide +kernel) rfl rfl ⟨rfl, rfl⟩ (Nat.le_of_ble_eq_true rfl) rfl ⟨Nat.le_of_ble_eq_true rfl, Nat.le_of_ble_eq_true rfl⟩ t2 (fun v9 N9 h3 => ?_) (fun E9 N9 h3 => by cases h3)
  cases h3
  show G z mX12_sign (d + 1) 0 0 4 [some (.ref 54), some (.int x1)] [.int (k_fine (M.1 54))] M Q
  refine G.if_eq (off := (20)) (tgt := 24) (by decide +kernel) rfl (fun c4 => ?_) (fun c4 => ?_)
  · skip
    rw [if_pos c4] at hk
    refine G.sl [(.aload_n 0, 1, 0, 0, 0, 0)] [] (pc2 := 25) (ls2 := [some (.ref 54), some (.int x1)]) (st2 := [.ref 54]) (M2 := M) (Ps := []) (by decide +kernel) rfl rfl trivial ?_
    have t6 : GM z mX12_fine (d) [.ref 54] M (fun rs => rs = .inl (some (.int (k_fine (M.1 54))), M)) := by
      have q9 := c_k_fine_54 z d M 
      try simp only [mput, mrow_same, mrow_hit, mrow_miss, mrow_sw, idr_eq, ne_eq, Nat.reduceEqDiff, not_false_eq_true, Nat.reduceLT, reduceCtorEq] at q9
      exact q9
    refine G.callV (as := []) (rest := []) (a := 54) oX12_fine lk_EvenFindersModel_130 (by decide +kernel) rfl rfl ⟨rfl, rfl⟩ (Nat.le_of_ble_eq_true rfl) rfl ⟨Nat.le_of_ble_eq_true rfl, Nat.le_of_ble_eq_true rfl⟩ t6 (fun v9 N9 h7 => ?_) (fun E9 N9 h7 => by cases h7)
    cases h7
    show G z mX12_sign (d + 1) 0 0 28 [some (.ref 54), some (.int x1)] [.int (k_fine (M.1 54))] M Q
    refine G.if_eq (off := (13)) (tgt := 41) (by decide +kernel) rfl (fun _ => ?_) (fun h9 => absurd c4 h9)
    refine G.mem (M' := mrow M 54 (M.1 54)) (((mrow_id (N := M) (c := 54) (f := M.1 54) (by first | rfl | (simp only [mput, mrow_same, mrow_hit, mrow_miss, mrow_sw, idr_eq, ne_eq, Nat.reduceEqDiff, not_false_eq_true, Nat.reduceLT, reduceCtorEq]; done))).symm).trans (by first | rfl | (simp only [mput, mrow_same, mrow_hit, mrow_miss, mrow_sw, idr_eq, ne_eq, Nat.reduceEqDiff, not_false_eq_true, Nat.reduceLT, reduceCtorEq]; done))) ?_
    exact G.retv (by decide +kernel) rfl (Nat.le_of_ble_eq_true rfl) (Nat.le_of_ble_eq_true rfl) ((by rw [hQ]; simp only [k_sign, if_pos c4, mrow_self]))
  · skip
    rw [if_neg c4] at hk
    refine G.sl [(.aload_n 0, 1, 0, 0, 0, 0)] [] (pc2 := 8) (ls2 := [some (.ref 54), some (.int x1)]) (st2 := [.ref 54]) (M2 := M) (Ps := []) (by decide +kernel) rfl rfl trivial ?_
    obtain ⟨k8, hk⟩ := hk
    rcases g9 : k_here (M.1 54) (M.1 56) with ⟨v10, r11⟩
    have t12 : GM z mX12_here (d) [.ref 54] M (fun rs => rs = .inl (some (.int v10), mrow M 54 r11)) := by
      have q9 := c_k_here_54 z d M k8
      try simp only [mput, mrow_same, mrow_hit, mrow_miss, mrow_sw, idr_eq, ne_eq, Nat.reduceEqDiff, not_false_eq_true, Nat.reduceLT, reduceCtorEq, g9] at q9
      exact q9
    refine G.callV (as := []) (rest := []) (a := 54) oX12_here lk_EvenFindersModel_113 (by decide +kernel) rfl rfl ⟨rfl, rfl⟩ (Nat.le_of_ble_eq_true rfl) rfl ⟨Nat.le_of_ble_eq_true rfl, Nat.le_of_ble_eq_true rfl⟩ t12 (fun v9 N9 h13 => ?_) (fun E9 N9 h13 => by cases h13)
    cases h13
    show G z mX12_sign (d + 1) 0 0 11 [some (.ref 54), some (.int x1)] [.int v10] (mrow M 54 r11) Q
    refine G.sl [(.iload_n 1, 1, 1, 0, 0, 0)] [] (pc2 := 12) (ls2 := [some (.ref 54), some (.int x1)]) (st2 := [.int x1, .int v10]) (M2 := mrow M 54 r11) (Ps := []) (by decide +kernel) rfl rfl trivial ?_
    refine G.ic_eq (off := (12)) (tgt := 24) (by decide +kernel) rfl (fun c14 => ?_) (fun c14 => ?_)
    · skip
      refine G.sl [(.aload_n 0, 1, 0, 0, 0, 0)] [] (pc2 := 25) (ls2 := [some (.ref 54), some (.int x1)]) (st2 := [.ref 54]) (M2 := mrow M 54 r11) (Ps := []) (by decide +kernel) rfl rfl trivial ?_
      have t16 : GM z mX12_fine (d) [.ref 54] (mrow M 54 r11) (fun rs => rs = .inl (some (.int (k_fine r11)), mrow M 54 r11)) := by
        have q9 := c_k_fine_54 z d (mrow M 54 r11) 
        try simp only [mput, mrow_same, mrow_hit, mrow_miss, mrow_sw, idr_eq, ne_eq, Nat.reduceEqDiff, not_false_eq_true, Nat.reduceLT, reduceCtorEq] at q9
        exact q9
      refine G.callV (as := []) (rest := []) (a := 54) oX12_fine lk_EvenFindersModel_130 (by decide +kernel) rfl rfl ⟨rfl, rfl⟩ (Nat.le_of_ble_eq_true rfl) rfl ⟨Nat.le_of_ble_eq_true rfl, Nat.le_of_ble_eq_true rfl⟩ t16 (fun v9 N9 h17 => ?_) (fun E9 N9 h17 => by cases h17)
      cases h17
      show G z mX12_sign (d + 1) 0 0 28 [some (.ref 54), some (.int x1)] [.int (k_fine r11)] (mrow M 54 r11) Q
      refine G.if_eq (off := (13)) (tgt := 41) (by decide +kernel) rfl (fun c18 => ?_) (fun c18 => ?_)
      · skip
        exact G.retv (by decide +kernel) rfl (Nat.le_of_ble_eq_true rfl) (Nat.le_of_ble_eq_true rfl) ((by rw [hQ]; simp only [k_sign, if_neg c4, g9, if_pos c14, if_pos c18, mrow_self]))
      · skip
        refine G.sl [(.aload_n 0, 1, 0, 0, 0, 0), (.dup, 1, 0, 0, 0, 0), (.getfield 107, 3, 11, 4, 127, 0), (.iconst 1, 1, 0, 0, 0, nI 1), (.iadd, 1, 0, 0, 0, 0), (.putfield 107, 3, 11, 4, 127, 0)] [] (pc2 := 41) (ls2 := [some (.ref 54), some (.int x1)]) (st2 := []) (M2 := mput (mrow M 54 r11) 54 4 ((r11 4) + (nI 1))) (Ps := []) (by decide +kernel) rfl rfl trivial ?_
        refine G.mem (M' := mrow M 54 (upd r11 4 ((r11 4) + (nI 1)))) (by first | rfl | (simp only [mput, mrow_same, mrow_hit, mrow_miss, mrow_sw, idr_eq, ne_eq, Nat.reduceEqDiff, not_false_eq_true, Nat.reduceLT, reduceCtorEq]; done)) ?_
        exact G.retv (by decide +kernel) rfl (Nat.le_of_ble_eq_true rfl) (Nat.le_of_ble_eq_true rfl) ((by rw [hQ]; simp only [k_sign, if_neg c4, g9, if_pos c14, if_neg c18, mrow_self]))
    · skip
      refine G.sl [(.aload_n 0, 1, 0, 0, 0, 0), (.iconst 1, 1, 0, 0, 0, nI 1), (.aload_n 0, 1, 0, 0, 0, 0), (.getfield 107, 3, 11, 4, 127, 0)] [] (pc2 := 21) (ls2 := [some (.ref 54), some (.int x1)]) (st2 := [.int (r11 4), .int (nI 1), .ref 54]) (M2 := mrow M 54 r11) (Ps := []) (by decide +kernel) rfl rfl trivial ?_
      rcases g20 : k_wrong r11 (nI 1) (r11 4) with ⟨u21, r22⟩
      have t23 : GM z mX12_wrong (d) [.ref 54, .int (nI 1), .int (r11 4)] (mrow M 54 r11) (fun rs => rs = .inl (none, mrow M 54 r22)) := by
        have q9 := c_k_wrong_54 z d (mrow M 54 r11) (nI 1) (r11 4)
        try simp only [mput, mrow_same, mrow_hit, mrow_miss, mrow_sw, idr_eq, ne_eq, Nat.reduceEqDiff, not_false_eq_true, Nat.reduceLT, reduceCtorEq, g20] at q9
        exact q9
      refine G.callV (as := [.int (nI 1), .int (r11 4)]) (rest := []) (a := 54) oX12_wrong lk_EvenFindersModel_137 (by decide +kernel) rfl rfl ⟨rfl, rfl⟩ (Nat.le_of_ble_eq_true rfl) rfl ⟨Nat.le_of_ble_eq_true rfl, Nat.le_of_ble_eq_true rfl⟩ t23 (fun v9 N9 h24 => ?_) (fun E9 N9 h24 => by cases h24)
      cases h24
      show G z mX12_sign (d + 1) 0 0 24 [some (.ref 54), some (.int x1)] [] (mrow M 54 r22) Q
      refine G.sl [(.aload_n 0, 1, 0, 0, 0, 0)] [] (pc2 := 25) (ls2 := [some (.ref 54), some (.int x1)]) (st2 := [.ref 54]) (M2 := mrow M 54 r22) (Ps := []) (by decide +kernel) rfl rfl trivial ?_
      have t26 : GM z mX12_fine (d) [.ref 54] (mrow M 54 r22) (fun rs => rs = .inl (some (.int (k_fine r22)), mrow M 54 r22)) := by
        have q9 := c_k_fine_54 z d (mrow M 54 r22) 
        try simp only [mput, mrow_same, mrow_hit, mrow_miss, mrow_sw, idr_eq, ne_eq, Nat.reduceEqDiff, not_false_eq_true, Nat.reduceLT, reduceCtorEq] at q9
        exact q9
      refine G.callV (as := []) (rest := []) (a := 54) oX12_fine lk_EvenFindersModel_130 (by decide +kernel) rfl rfl ⟨rfl, rfl⟩ (Nat.le_of_ble_eq_true rfl) rfl ⟨Nat.le_of_ble_eq_true rfl, Nat.le_of_ble_eq_true rfl⟩ t26 (fun v9 N9 h27 => ?_) (fun E9 N9 h27 => by cases h27)
      cases h27
      show G z mX12_sign (d + 1) 0 0 28 [some (.ref 54), some (.int x1)] [.int (k_fine r22)] (mrow M 54 r22) Q
      refine G.if_eq (off := (13)) (tgt := 41) (by decide +kernel) rfl (fun c28 => ?_) (fun c28 => ?_)
      · skip
        exact G.retv (by decide +kernel) rfl (Nat.le_of_ble_eq_true rfl) (Nat.le_of_ble_eq_true rfl) ((by rw [hQ]; simp only [k_sign, if_neg c4, g9, if_neg c14, g20, if_pos c28, mrow_self]))
      · skip
        refine G.sl [(.aload_n 0, 1, 0, 0, 0, 0), (.dup, 1, 0, 0, 0, 0), (.getfield 107, 3, 11, 4, 127, 0), (.iconst 1, 1, 0, 0, 0, nI 1), (.iadd, 1, 0, 0, 0, 0), (.putfield 107, 3, 11, 4, 127, 0)] [] (pc2 := 41) (ls2 := [some (.ref 54), some (.int x1)]) (st2 := []) (M2 := mput (mrow M 54 r22) 54 4 ((r22 4) + (nI 1))) (Ps := []) (by decide +kernel) rfl rfl trivial ?_
        refine G.mem (M' := mrow M 54 (upd r22 4 ((r22 4) + (nI 1)))) (by first | rfl | (simp only [mput, mrow_same, mrow_hit, mrow_miss, mrow_sw, idr_eq, ne_eq, Nat.reduceEqDiff, not_false_eq_true, Nat.reduceLT, reduceCtorEq]; done)) ?_
        exact G.retv (by decide +kernel) rfl (Nat.le_of_ble_eq_true rfl) (Nat.le_of_ble_eq_true rfl) ((by rw [hQ]; simp only [k_sign, if_neg c4, g9, if_neg c14, g20, if_neg c28, mrow_self]))
set_option maxHeartbeats 4000000 in
set_option maxRecDepth 3000 in
theorem lp_k_book_54_67 (z : Zp) (d : Nat) (M : Mem) (Q : Rs → Prop) : ∀ (k0 : Nat) (s2 : Int32) (q54 : (Nat → Int32)) (q74 : (Nat → Int32)), k_book_67_ok (M.1 56) k0 s2 q54 q74 → (match k_book_67 (M.1 56) k0 s2 q54 q74 with | (s2', q54', q74') => G z mX12_book (d + 2) 0 0 169 [some (.ref 54), none, some (.int (s2')), none, none, none] [] (mrow (mrow M 54 (q54')) 74 (q74')) Q) → G z mX12_book (d + 2) 0 0 67 [some (.ref 54), none, some (.int s2), none, none, none] [] (mrow (mrow M 54 q54) 74 q74) Q := by
  intro k0
  induction k0 with
  | zero =>
      intro s2 q54 q74 hk hX
      exact (by simpa only [k_book_67_ok] using hk : False).elim
  | succ k0 ih =>
      intro s2 q54 q74 hk hX
      simp only [k_book_67_ok] at hk
      refine G.sl [(.aload_n 0, 1, 0, 0, 0, 0)] [] (pc2 := 68) (ls2 := [some (.ref 54), none, some (.int s2), none, none, none]) (st2 := [.ref 54]) (M2 := mrow (mrow M 54 q54) 74 q74) (Ps := []) (by decide +kernel) rfl rfl trivial ?_
      obtain ⟨k17, hk⟩ := hk
      have t18 : GM z mX12_fine (d + 1) [.ref 54] (mrow (mrow M 54 q54) 74 q74) (fun rs => rs = .inl (some (.int (k_fine q54)), mrow (mrow M 54 q54) 74 q74)) := by
        have q9 := c_k_fine_54 z (d + 1) (mrow (mrow M 54 q54) 74 q74) 
        try simp only [mput, mrow_same, mrow_hit, mrow_miss, mrow_sw, idr_eq, ne_eq, Nat.reduceEqDiff, not_false_eq_true, Nat.reduceLT, reduceCtorEq] at q9
        exact q9
      refine G.callV (as := []) (rest := []) (a := 54) oX12_fine lk_EvenFindersModel_130 (by decide +kernel) rfl rfl ⟨rfl, rfl⟩ (Nat.le_of_ble_eq_true rfl) rfl ⟨Nat.le_of_ble_eq_true rfl, Nat.le_of_ble_eq_true rfl⟩ t18 (fun v9 N9 h19 => ?_) (fun E9 N9 h19 => by cases h19)
      cases h19
      show G z mX12_book (d + 2) 0 0 71 [some (.ref 54), none, some (.int s2), none, none, none] [.int (k_fine q54)] (mrow (mrow M 54 q54) 74 q74) Q
      refine G.if_eq (off := (98)) (tgt := 169) (by decide +kernel) rfl (fun c20 => ?_) (fun c20 => ?_)
      · skip
        rw [if_pos c20] at hk
        simp only [k_book_67, if_pos c20] at hX
        exact hX
      · skip
        rw [if_neg c20] at hk
        refine G.sl [(.aload_n 0, 1, 0, 0, 0, 0)] [] (pc2 := 75) (ls2 := [some (.ref 54), none, some (.int s2), none, none, none]) (st2 := [.ref 54]) (M2 := mrow (mrow M 54 q54) 74 q74) (Ps := []) (by decide +kernel) rfl rfl trivial ?_
        obtain ⟨k21, hk⟩ := hk
        rcases g22 : k_isMore q54 (M.1 56) with ⟨v23, r24⟩
        try simp only [g22] at hk
        have ev23 : v23 = 0 ∨ v23 = 1 := by
          have q9 := k_isMore_01 q54 (M.1 56)
          rw [g22] at q9
          exact q9
        have t25 : GM z mX12_isMore (d + 1) [.ref 54] (mrow (mrow M 54 q54) 74 q74) (fun rs => rs = .inl (some (.int v23), mrow (mrow M 54 r24) 74 q74)) := by
          have q9 := c_k_isMore_54 z d (mrow (mrow M 54 q54) 74 q74) k21
          try simp only [mput, mrow_same, mrow_hit, mrow_miss, mrow_sw, idr_eq, ne_eq, Nat.reduceEqDiff, not_false_eq_true, Nat.reduceLT, reduceCtorEq, g22] at q9
          exact q9
        refine G.callV (as := []) (rest := []) (a := 54) oX12_isMore lk_EvenFindersModel_221 (by decide +kernel) rfl rfl ⟨rfl, rfl⟩ (Nat.le_of_ble_eq_true rfl) rfl ⟨Nat.le_of_ble_eq_true rfl, Nat.le_of_ble_eq_true rfl⟩ t25 (fun v9 N9 h26 => ?_) (fun E9 N9 h26 => by cases h26)
        cases h26
        show G z mX12_book (d + 2) 0 0 78 [some (.ref 54), none, some (.int s2), none, none, none] [.int v23] (mrow (mrow M 54 r24) 74 q74) Q
        refine G.if_eq (off := (91)) (tgt := 169) (by decide +kernel) rfl (fun c27 => ?_) (fun c27 => ?_)
        · skip
          rw [if_pos c27] at hk
          simp only [k_book_67, if_neg c20, g22, if_pos c27] at hX
          exact hX
        · skip
          rw [if_neg c27] at hk
          refine G.sl [(.aload_n 0, 1, 0, 0, 0, 0)] [] (pc2 := 82) (ls2 := [some (.ref 54), none, some (.int s2), none, none, none]) (st2 := [.ref 54]) (M2 := mrow (mrow M 54 r24) 74 q74) (Ps := []) (by decide +kernel) rfl rfl trivial ?_
          obtain ⟨k28, hk⟩ := hk
          rcases g29 : k_here r24 (M.1 56) with ⟨v30, r31⟩
          try simp only [g29] at hk
          have t32 : GM z mX12_here (d + 1) [.ref 54] (mrow (mrow M 54 r24) 74 q74) (fun rs => rs = .inl (some (.int v30), mrow (mrow M 54 r31) 74 q74)) := by
            have q9 := c_k_here_54 z (d + 1) (mrow (mrow M 54 r24) 74 q74) k28
            try simp only [mput, mrow_same, mrow_hit, mrow_miss, mrow_sw, idr_eq, ne_eq, Nat.reduceEqDiff, not_false_eq_true, Nat.reduceLT, reduceCtorEq, g29] at q9
            exact q9
          refine G.callV (as := []) (rest := []) (a := 54) oX12_here lk_EvenFindersModel_113 (by decide +kernel) rfl rfl ⟨rfl, rfl⟩ (Nat.le_of_ble_eq_true rfl) rfl ⟨Nat.le_of_ble_eq_true rfl, Nat.le_of_ble_eq_true rfl⟩ t32 (fun v9 N9 h33 => ?_) (fun E9 N9 h33 => by cases h33)
          cases h33
          show G z mX12_book (d + 2) 0 0 85 [some (.ref 54), none, some (.int s2), none, none, none] [.int v30] (mrow (mrow M 54 r31) 74 q74) Q
          refine G.sl [(.pop, 1, 0, 0, 0, 0), (.aload_n 0, 1, 0, 0, 0, 0), (.getfield 107, 3, 11, 4, 127, 0), (.istore_n 3, 1, 3, 0, 0, 0), (.aload_n 0, 1, 0, 0, 0, 0), (.iconst 0, 1, 0, 0, 0, nI 0), (.aload_n 0, 1, 0, 0, 0, 0), (.getfield 156, 3, 11, 20, 143, 0), (.iconst 1, 1, 0, 0, 0, nI 1), (.isub, 1, 0, 0, 0, 0)] [] (pc2 := 99) (ls2 := [some (.ref 54), none, some (.int s2), some (.int (r31 4)), none, none]) (st2 := [.int ((r31 20) - (nI 1)), .int (nI 0), .ref 54]) (M2 := mrow (mrow M 54 r31) 74 q74) (Ps := []) (by decide +kernel) rfl rfl trivial ?_
          obtain ⟨k34, hk⟩ := hk
          rcases g35 : k_readNumber r31 (M.1 56) (nI 0) ((r31 20) - (nI 1)) with ⟨v36, r37⟩
          try simp only [g35] at hk
          have t38 : GM z mX12_readNumber (d + 1) [.ref 54, .int (nI 0), .int ((r31 20) - (nI 1))] (mrow (mrow M 54 r31) 74 q74) (fun rs => rs = .inl (some (.int v36), mrow (mrow M 54 r37) 74 q74)) := by
            have q9 := c_k_readNumber_54 z d (mrow (mrow M 54 r31) 74 q74) (nI 0) ((r31 20) - (nI 1)) k34
            try simp only [mput, mrow_same, mrow_hit, mrow_miss, mrow_sw, idr_eq, ne_eq, Nat.reduceEqDiff, not_false_eq_true, Nat.reduceLT, reduceCtorEq, g35] at q9
            exact q9
          refine G.callV (as := [.int (nI 0), .int ((r31 20) - (nI 1))]) (rest := []) (a := 54) oX12_readNumber lk_EvenFindersModel_190 (by decide +kernel) rfl rfl ⟨rfl, rfl⟩ (Nat.le_of_ble_eq_true rfl) rfl ⟨Nat.le_of_ble_eq_true rfl, Nat.le_of_ble_eq_true rfl⟩ t38 (fun v9 N9 h39 => ?_) (fun E9 N9 h39 => by cases h39)
          cases h39
          show G z mX12_book (d + 2) 0 0 102 [some (.ref 54), none, some (.int s2), some (.int (r31 4)), none, none] [.int v36] (mrow (mrow M 54 r37) 74 q74) Q
          refine G.sl [(.istore 4, 2, 4, 0, 0, 0), (.aload_n 0, 1, 0, 0, 0, 0)] [] (pc2 := 105) (ls2 := [some (.ref 54), none, some (.int s2), some (.int (r31 4)), some (.int v36), none]) (st2 := [.ref 54]) (M2 := mrow (mrow M 54 r37) 74 q74) (Ps := []) (by decide +kernel) rfl rfl trivial ?_
          obtain ⟨k40, hk⟩ := hk
          have t41 : GM z mX12_fine (d + 1) [.ref 54] (mrow (mrow M 54 r37) 74 q74) (fun rs => rs = .inl (some (.int (k_fine r37)), mrow (mrow M 54 r37) 74 q74)) := by
            have q9 := c_k_fine_54 z (d + 1) (mrow (mrow M 54 r37) 74 q74) 
            try simp only [mput, mrow_same, mrow_hit, mrow_miss, mrow_sw, idr_eq, ne_eq, Nat.reduceEqDiff, not_false_eq_true, Nat.reduceLT, reduceCtorEq] at q9
            exact q9
          refine G.callV (as := []) (rest := []) (a := 54) oX12_fine lk_EvenFindersModel_130 (by decide +kernel) rfl rfl ⟨rfl, rfl⟩ (Nat.le_of_ble_eq_true rfl) rfl ⟨Nat.le_of_ble_eq_true rfl, Nat.le_of_ble_eq_true rfl⟩ t41 (fun v9 N9 h42 => ?_) (fun E9 N9 h42 => by cases h42)
          cases h42
          show G z mX12_book (d + 2) 0 0 108 [some (.ref 54), none, some (.int s2), some (.int (r31 4)), some (.int v36), none] [.int (k_fine r37)] (mrow (mrow M 54 r37) 74 q74) Q
          refine G.if_eq (off := (20)) (tgt := 128) (by decide +kernel) rfl (fun c43 => ?_) (fun c43 => ?_)
          · skip
            rw [if_pos c43] at hk
            refine G.sl [(.aload_n 0, 1, 0, 0, 0, 0), (.iconst 0, 1, 0, 0, 0, nI 0), (.sipush 600, 3, 0, 0, 0, nI 600)] [] (pc2 := 133) (ls2 := [some (.ref 54), none, some (.int s2), some (.int (r31 4)), some (.int v36), none]) (st2 := [.int (nI 600), .int (nI 0), .ref 54]) (M2 := mrow (mrow M 54 r37) 74 q74) (Ps := []) (by decide +kernel) rfl rfl trivial ?_
            obtain ⟨k44, hk⟩ := hk
            rcases g45 : k_readNumber r37 (M.1 56) (nI 0) (nI 600) with ⟨v46, r47⟩
            try simp only [g45] at hk
            have t48 : GM z mX12_readNumber (d + 1) [.ref 54, .int (nI 0), .int (nI 600)] (mrow (mrow M 54 r37) 74 q74) (fun rs => rs = .inl (some (.int v46), mrow (mrow M 54 r47) 74 q74)) := by
              have q9 := c_k_readNumber_54 z d (mrow (mrow M 54 r37) 74 q74) (nI 0) (nI 600) k44
              try simp only [mput, mrow_same, mrow_hit, mrow_miss, mrow_sw, idr_eq, ne_eq, Nat.reduceEqDiff, not_false_eq_true, Nat.reduceLT, reduceCtorEq, g45] at q9
              exact q9
            refine G.callV (as := [.int (nI 0), .int (nI 600)]) (rest := []) (a := 54) oX12_readNumber lk_EvenFindersModel_190 (by decide +kernel) rfl rfl ⟨rfl, rfl⟩ (Nat.le_of_ble_eq_true rfl) rfl ⟨Nat.le_of_ble_eq_true rfl, Nat.le_of_ble_eq_true rfl⟩ t48 (fun v9 N9 h49 => ?_) (fun E9 N9 h49 => by cases h49)
            cases h49
            show G z mX12_book (d + 2) 0 0 136 [some (.ref 54), none, some (.int s2), some (.int (r31 4)), some (.int v36), none] [.int v46] (mrow (mrow M 54 r47) 74 q74) Q
            refine G.sl [(.istore 5, 2, 5, 0, 0, 0), (.aload_n 0, 1, 0, 0, 0, 0), (.bipush 59, 2, 0, 0, 0, nI 59)] [] (pc2 := 141) (ls2 := [some (.ref 54), none, some (.int s2), some (.int (r31 4)), some (.int v36), some (.int v46)]) (st2 := [.int (nI 59), .ref 54]) (M2 := mrow (mrow M 54 r47) 74 q74) (Ps := []) (by decide +kernel) rfl rfl trivial ?_
            obtain ⟨k50, hk⟩ := hk
            rcases g51 : k_sign r47 (M.1 56) (nI 59) with ⟨u52, r53⟩
            try simp only [g51] at hk
            have t54 : GM z mX12_sign (d + 1) [.ref 54, .int (nI 59)] (mrow (mrow M 54 r47) 74 q74) (fun rs => rs = .inl (none, mrow (mrow M 54 r53) 74 q74)) := by
              have q9 := c_k_sign_54 z d (mrow (mrow M 54 r47) 74 q74) (nI 59) k50
              try simp only [mput, mrow_same, mrow_hit, mrow_miss, mrow_sw, idr_eq, ne_eq, Nat.reduceEqDiff, not_false_eq_true, Nat.reduceLT, reduceCtorEq, g51] at q9
              exact q9
            refine G.callV (as := [.int (nI 59)]) (rest := []) (a := 54) oX12_sign lk_EvenFindersModel_239 (by decide +kernel) rfl rfl ⟨rfl, rfl⟩ (Nat.le_of_ble_eq_true rfl) rfl ⟨Nat.le_of_ble_eq_true rfl, Nat.le_of_ble_eq_true rfl⟩ t54 (fun v9 N9 h55 => ?_) (fun E9 N9 h55 => by cases h55)
            cases h55
            show G z mX12_book (d + 2) 0 0 144 [some (.ref 54), none, some (.int s2), some (.int (r31 4)), some (.int v36), some (.int v46)] [] (mrow (mrow M 54 r53) 74 q74) Q
            refine G.sl [(.aload_n 0, 1, 0, 0, 0, 0)] [] (pc2 := 145) (ls2 := [some (.ref 54), none, some (.int s2), some (.int (r31 4)), some (.int v36), some (.int v46)]) (st2 := [.ref 54]) (M2 := mrow (mrow M 54 r53) 74 q74) (Ps := []) (by decide +kernel) rfl rfl trivial ?_
            obtain ⟨k56, hk⟩ := hk
            have t57 : GM z mX12_fine (d + 1) [.ref 54] (mrow (mrow M 54 r53) 74 q74) (fun rs => rs = .inl (some (.int (k_fine r53)), mrow (mrow M 54 r53) 74 q74)) := by
              have q9 := c_k_fine_54 z (d + 1) (mrow (mrow M 54 r53) 74 q74) 
              try simp only [mput, mrow_same, mrow_hit, mrow_miss, mrow_sw, idr_eq, ne_eq, Nat.reduceEqDiff, not_false_eq_true, Nat.reduceLT, reduceCtorEq] at q9
              exact q9
            refine G.callV (as := []) (rest := []) (a := 54) oX12_fine lk_EvenFindersModel_130 (by decide +kernel) rfl rfl ⟨rfl, rfl⟩ (Nat.le_of_ble_eq_true rfl) rfl ⟨Nat.le_of_ble_eq_true rfl, Nat.le_of_ble_eq_true rfl⟩ t57 (fun v9 N9 h58 => ?_) (fun E9 N9 h58 => by cases h58)
            cases h58
            show G z mX12_book (d + 2) 0 0 148 [some (.ref 54), none, some (.int s2), some (.int (r31 4)), some (.int v36), some (.int v46)] [.int (k_fine r53)] (mrow (mrow M 54 r53) 74 q74) Q
            refine G.if_ne (off := (6)) (tgt := 154) (by decide +kernel) rfl (fun c59 => ?_) (fun c59 => ?_)
            · skip
              rw [if_neg c59] at hk
              obtain ⟨k60, k61, hk⟩ := hk
              refine G.sl [(.aload_n 0, 1, 0, 0, 0, 0), (.getfield 74, 3, 11, 43, 166, 0), (.iload 4, 2, 4, 0, 0, 0), (.iload 5, 2, 5, 0, 0, 0), (.iastore, 1, 0, 0, 0, 0), (.iinc 2 1, 3, 2, 0, 0, nI 1), (.goto (-99), 3, 67, 0, 0, 0)] [ix v36] (pc2 := 67) (ls2 := [some (.ref 54), none, some (.int (s2 + nI 1)), some (.int (r31 4)), some (.int v36), some (.int v46)]) (st2 := []) (M2 := mput (mrow (mrow M 54 r53) 74 q74) 74 (ix v36) v46) (Ps := [v36 = nI (ix v36) ∧ (ix v36) < 8]) (by decide +kernel) rfl rfl ⟨⟨(ixE k60), k61⟩, trivial⟩ ?_
              refine G.mem (M' := mrow (mrow M 54 r53) 74 (upd q74 (ix v36) v46)) (by first | rfl | (simp only [mput, mrow_same, mrow_hit, mrow_miss, mrow_sw, idr_eq, ne_eq, Nat.reduceEqDiff, not_false_eq_true, Nat.reduceLT, reduceCtorEq]; done)) ?_
              refine G.loc (ls2 := [some (.ref 54), none, some (.int (s2 + nI 1)), none, none, none]) (by simp [subL]) ?_
              simp only [k_book_67, if_neg c20, g22, if_neg c27, g29, g35, if_pos c43, g45, g51, if_neg c59] at hX
              exact ih (s2 + nI 1) r53 (upd q74 (ix v36) v46) hk hX
            · skip
              rw [if_pos c59] at hk
              refine G.sl [(.goto 18, 3, 169, 0, 0, 0)] [] (pc2 := 169) (ls2 := [some (.ref 54), none, some (.int s2), some (.int (r31 4)), some (.int v36), some (.int v46)]) (st2 := []) (M2 := mrow (mrow M 54 r53) 74 q74) (Ps := []) (by decide +kernel) rfl rfl trivial ?_
              refine G.loc (ls2 := [some (.ref 54), none, some (.int s2), none, none, none]) (by simp [subL]) ?_
              simp only [k_book_67, if_neg c20, g22, if_neg c27, g29, g35, if_pos c43, g45, g51, if_pos c59] at hX
              exact hX
          · skip
            rw [if_neg c43] at hk
            obtain ⟨k62, k63, hk⟩ := hk
            refine G.sl [(.aload_n 0, 1, 0, 0, 0, 0), (.getfield 74, 3, 11, 43, 166, 0), (.iload 4, 2, 4, 0, 0, 0), (.iaload, 1, 0, 0, 0, 0), (.iconst (-1), 1, 0, 0, 0, (-1))] [ix v36] (pc2 := 119) (ls2 := [some (.ref 54), none, some (.int s2), some (.int (r31 4)), some (.int v36), none]) (st2 := [.int ((-1)), .int (q74 (ix v36))]) (M2 := mrow (mrow M 54 r37) 74 q74) (Ps := [v36 = nI (ix v36) ∧ (ix v36) < 8]) (by decide +kernel) rfl rfl ⟨⟨(ixE k62), k63⟩, trivial⟩ ?_
            refine G.ic_eq (off := (9)) (tgt := 128) (by decide +kernel) rfl (fun c64 => ?_) (fun c64 => ?_)
            · skip
              rw [if_pos c64] at hk
              refine G.sl [(.aload_n 0, 1, 0, 0, 0, 0), (.iconst 0, 1, 0, 0, 0, nI 0), (.sipush 600, 3, 0, 0, 0, nI 600)] [] (pc2 := 133) (ls2 := [some (.ref 54), none, some (.int s2), some (.int (r31 4)), some (.int v36), none]) (st2 := [.int (nI 600), .int (nI 0), .ref 54]) (M2 := mrow (mrow M 54 r37) 74 q74) (Ps := []) (by decide +kernel) rfl rfl trivial ?_
              obtain ⟨k65, hk⟩ := hk
              rcases g66 : k_readNumber r37 (M.1 56) (nI 0) (nI 600) with ⟨v67, r68⟩
              try simp only [g66] at hk
              have t69 : GM z mX12_readNumber (d + 1) [.ref 54, .int (nI 0), .int (nI 600)] (mrow (mrow M 54 r37) 74 q74) (fun rs => rs = .inl (some (.int v67), mrow (mrow M 54 r68) 74 q74)) := by
                have q9 := c_k_readNumber_54 z d (mrow (mrow M 54 r37) 74 q74) (nI 0) (nI 600) k65
                try simp only [mput, mrow_same, mrow_hit, mrow_miss, mrow_sw, idr_eq, ne_eq, Nat.reduceEqDiff, not_false_eq_true, Nat.reduceLT, reduceCtorEq, g66] at q9
                exact q9
              refine G.callV (as := [.int (nI 0), .int (nI 600)]) (rest := []) (a := 54) oX12_readNumber lk_EvenFindersModel_190 (by decide +kernel) rfl rfl ⟨rfl, rfl⟩ (Nat.le_of_ble_eq_true rfl) rfl ⟨Nat.le_of_ble_eq_true rfl, Nat.le_of_ble_eq_true rfl⟩ t69 (fun v9 N9 h70 => ?_) (fun E9 N9 h70 => by cases h70)
              cases h70
              show G z mX12_book (d + 2) 0 0 136 [some (.ref 54), none, some (.int s2), some (.int (r31 4)), some (.int v36), none] [.int v67] (mrow (mrow M 54 r68) 74 q74) Q
              refine G.sl [(.istore 5, 2, 5, 0, 0, 0), (.aload_n 0, 1, 0, 0, 0, 0), (.bipush 59, 2, 0, 0, 0, nI 59)] [] (pc2 := 141) (ls2 := [some (.ref 54), none, some (.int s2), some (.int (r31 4)), some (.int v36), some (.int v67)]) (st2 := [.int (nI 59), .ref 54]) (M2 := mrow (mrow M 54 r68) 74 q74) (Ps := []) (by decide +kernel) rfl rfl trivial ?_
              obtain ⟨k71, hk⟩ := hk
              rcases g72 : k_sign r68 (M.1 56) (nI 59) with ⟨u73, r74⟩
              try simp only [g72] at hk
              have t75 : GM z mX12_sign (d + 1) [.ref 54, .int (nI 59)] (mrow (mrow M 54 r68) 74 q74) (fun rs => rs = .inl (none, mrow (mrow M 54 r74) 74 q74)) := by
                have q9 := c_k_sign_54 z d (mrow (mrow M 54 r68) 74 q74) (nI 59) k71
                try simp only [mput, mrow_same, mrow_hit, mrow_miss, mrow_sw, idr_eq, ne_eq, Nat.reduceEqDiff, not_false_eq_true, Nat.reduceLT, reduceCtorEq, g72] at q9
                exact q9
              refine G.callV (as := [.int (nI 59)]) (rest := []) (a := 54) oX12_sign lk_EvenFindersModel_239 (by decide +kernel) rfl rfl ⟨rfl, rfl⟩ (Nat.le_of_ble_eq_true rfl) rfl ⟨Nat.le_of_ble_eq_true rfl, Nat.le_of_ble_eq_true rfl⟩ t75 (fun v9 N9 h76 => ?_) (fun E9 N9 h76 => by cases h76)
              cases h76
              show G z mX12_book (d + 2) 0 0 144 [some (.ref 54), none, some (.int s2), some (.int (r31 4)), some (.int v36), some (.int v67)] [] (mrow (mrow M 54 r74) 74 q74) Q
              refine G.sl [(.aload_n 0, 1, 0, 0, 0, 0)] [] (pc2 := 145) (ls2 := [some (.ref 54), none, some (.int s2), some (.int (r31 4)), some (.int v36), some (.int v67)]) (st2 := [.ref 54]) (M2 := mrow (mrow M 54 r74) 74 q74) (Ps := []) (by decide +kernel) rfl rfl trivial ?_
              obtain ⟨k77, hk⟩ := hk
              have t78 : GM z mX12_fine (d + 1) [.ref 54] (mrow (mrow M 54 r74) 74 q74) (fun rs => rs = .inl (some (.int (k_fine r74)), mrow (mrow M 54 r74) 74 q74)) := by
                have q9 := c_k_fine_54 z (d + 1) (mrow (mrow M 54 r74) 74 q74) 
                try simp only [mput, mrow_same, mrow_hit, mrow_miss, mrow_sw, idr_eq, ne_eq, Nat.reduceEqDiff, not_false_eq_true, Nat.reduceLT, reduceCtorEq] at q9
                exact q9
              refine G.callV (as := []) (rest := []) (a := 54) oX12_fine lk_EvenFindersModel_130 (by decide +kernel) rfl rfl ⟨rfl, rfl⟩ (Nat.le_of_ble_eq_true rfl) rfl ⟨Nat.le_of_ble_eq_true rfl, Nat.le_of_ble_eq_true rfl⟩ t78 (fun v9 N9 h79 => ?_) (fun E9 N9 h79 => by cases h79)
              cases h79
              show G z mX12_book (d + 2) 0 0 148 [some (.ref 54), none, some (.int s2), some (.int (r31 4)), some (.int v36), some (.int v67)] [.int (k_fine r74)] (mrow (mrow M 54 r74) 74 q74) Q
              refine G.if_ne (off := (6)) (tgt := 154) (by decide +kernel) rfl (fun c80 => ?_) (fun c80 => ?_)
              · skip
                rw [if_neg c80] at hk
                refine G.sl [(.aload_n 0, 1, 0, 0, 0, 0), (.getfield 74, 3, 11, 43, 166, 0), (.iload 4, 2, 4, 0, 0, 0), (.iload 5, 2, 5, 0, 0, 0), (.iastore, 1, 0, 0, 0, 0), (.iinc 2 1, 3, 2, 0, 0, nI 1), (.goto (-99), 3, 67, 0, 0, 0)] [ix v36] (pc2 := 67) (ls2 := [some (.ref 54), none, some (.int (s2 + nI 1)), some (.int (r31 4)), some (.int v36), some (.int v67)]) (st2 := []) (M2 := mput (mrow (mrow M 54 r74) 74 q74) 74 (ix v36) v67) (Ps := [v36 = nI (ix v36) ∧ (ix v36) < 8]) (by decide +kernel) rfl rfl ⟨⟨(ixE k62), k63⟩, trivial⟩ ?_
                refine G.mem (M' := mrow (mrow M 54 r74) 74 (upd q74 (ix v36) v67)) (by first | rfl | (simp only [mput, mrow_same, mrow_hit, mrow_miss, mrow_sw, idr_eq, ne_eq, Nat.reduceEqDiff, not_false_eq_true, Nat.reduceLT, reduceCtorEq]; done)) ?_
                refine G.loc (ls2 := [some (.ref 54), none, some (.int (s2 + nI 1)), none, none, none]) (by simp [subL]) ?_
                simp only [k_book_67, if_neg c20, g22, if_neg c27, g29, g35, if_neg c43, if_pos c64, g66, g72, if_neg c80] at hX
                exact ih (s2 + nI 1) r74 (upd q74 (ix v36) v67) hk hX
              · skip
                rw [if_pos c80] at hk
                refine G.sl [(.goto 18, 3, 169, 0, 0, 0)] [] (pc2 := 169) (ls2 := [some (.ref 54), none, some (.int s2), some (.int (r31 4)), some (.int v36), some (.int v67)]) (st2 := []) (M2 := mrow (mrow M 54 r74) 74 q74) (Ps := []) (by decide +kernel) rfl rfl trivial ?_
                refine G.loc (ls2 := [some (.ref 54), none, some (.int s2), none, none, none]) (by simp [subL]) ?_
                simp only [k_book_67, if_neg c20, g22, if_neg c27, g29, g35, if_neg c43, if_pos c64, g66, g72, if_pos c80] at hX
                exact hX
            · skip
              rw [if_neg c64] at hk
              refine G.sl [(.aload_n 0, 1, 0, 0, 0, 0), (.iconst 2, 1, 0, 0, 0, nI 2), (.iload_n 3, 1, 3, 0, 0, 0)] [] (pc2 := 125) (ls2 := [some (.ref 54), none, some (.int s2), some (.int (r31 4)), some (.int v36), none]) (st2 := [.int (r31 4), .int (nI 2), .ref 54]) (M2 := mrow (mrow M 54 r37) 74 q74) (Ps := []) (by decide +kernel) rfl rfl trivial ?_
              obtain ⟨k81, hk⟩ := hk
              rcases g82 : k_wrong r37 (nI 2) (r31 4) with ⟨u83, r84⟩
              try simp only [g82] at hk
              have t85 : GM z mX12_wrong (d + 1) [.ref 54, .int (nI 2), .int (r31 4)] (mrow (mrow M 54 r37) 74 q74) (fun rs => rs = .inl (none, mrow (mrow M 54 r84) 74 q74)) := by
                have q9 := c_k_wrong_54 z (d + 1) (mrow (mrow M 54 r37) 74 q74) (nI 2) (r31 4)
                try simp only [mput, mrow_same, mrow_hit, mrow_miss, mrow_sw, idr_eq, ne_eq, Nat.reduceEqDiff, not_false_eq_true, Nat.reduceLT, reduceCtorEq, g82] at q9
                exact q9
              refine G.callV (as := [.int (nI 2), .int (r31 4)]) (rest := []) (a := 54) oX12_wrong lk_EvenFindersModel_137 (by decide +kernel) rfl rfl ⟨rfl, rfl⟩ (Nat.le_of_ble_eq_true rfl) rfl ⟨Nat.le_of_ble_eq_true rfl, Nat.le_of_ble_eq_true rfl⟩ t85 (fun v9 N9 h86 => ?_) (fun E9 N9 h86 => by cases h86)
              cases h86
              show G z mX12_book (d + 2) 0 0 128 [some (.ref 54), none, some (.int s2), some (.int (r31 4)), some (.int v36), none] [] (mrow (mrow M 54 r84) 74 q74) Q
              refine G.sl [(.aload_n 0, 1, 0, 0, 0, 0), (.iconst 0, 1, 0, 0, 0, nI 0), (.sipush 600, 3, 0, 0, 0, nI 600)] [] (pc2 := 133) (ls2 := [some (.ref 54), none, some (.int s2), some (.int (r31 4)), some (.int v36), none]) (st2 := [.int (nI 600), .int (nI 0), .ref 54]) (M2 := mrow (mrow M 54 r84) 74 q74) (Ps := []) (by decide +kernel) rfl rfl trivial ?_
              obtain ⟨k87, hk⟩ := hk
              rcases g88 : k_readNumber r84 (M.1 56) (nI 0) (nI 600) with ⟨v89, r90⟩
              try simp only [g88] at hk
              have t91 : GM z mX12_readNumber (d + 1) [.ref 54, .int (nI 0), .int (nI 600)] (mrow (mrow M 54 r84) 74 q74) (fun rs => rs = .inl (some (.int v89), mrow (mrow M 54 r90) 74 q74)) := by
                have q9 := c_k_readNumber_54 z d (mrow (mrow M 54 r84) 74 q74) (nI 0) (nI 600) k87
                try simp only [mput, mrow_same, mrow_hit, mrow_miss, mrow_sw, idr_eq, ne_eq, Nat.reduceEqDiff, not_false_eq_true, Nat.reduceLT, reduceCtorEq, g88] at q9
                exact q9
              refine G.callV (as := [.int (nI 0), .int (nI 600)]) (rest := []) (a := 54) oX12_readNumber lk_EvenFindersModel_190 (by decide +kernel) rfl rfl ⟨rfl, rfl⟩ (Nat.le_of_ble_eq_true rfl) rfl ⟨Nat.le_of_ble_eq_true rfl, Nat.le_of_ble_eq_true rfl⟩ t91 (fun v9 N9 h92 => ?_) (fun E9 N9 h92 => by cases h92)
              cases h92
              show G z mX12_book (d + 2) 0 0 136 [some (.ref 54), none, some (.int s2), some (.int (r31 4)), some (.int v36), none] [.int v89] (mrow (mrow M 54 r90) 74 q74) Q
              refine G.sl [(.istore 5, 2, 5, 0, 0, 0), (.aload_n 0, 1, 0, 0, 0, 0), (.bipush 59, 2, 0, 0, 0, nI 59)] [] (pc2 := 141) (ls2 := [some (.ref 54), none, some (.int s2), some (.int (r31 4)), some (.int v36), some (.int v89)]) (st2 := [.int (nI 59), .ref 54]) (M2 := mrow (mrow M 54 r90) 74 q74) (Ps := []) (by decide +kernel) rfl rfl trivial ?_
              obtain ⟨k93, hk⟩ := hk
              rcases g94 : k_sign r90 (M.1 56) (nI 59) with ⟨u95, r96⟩
              try simp only [g94] at hk
              have t97 : GM z mX12_sign (d + 1) [.ref 54, .int (nI 59)] (mrow (mrow M 54 r90) 74 q74) (fun rs => rs = .inl (none, mrow (mrow M 54 r96) 74 q74)) := by
                have q9 := c_k_sign_54 z d (mrow (mrow M 54 r90) 74 q74) (nI 59) k93
                try simp only [mput, mrow_same, mrow_hit, mrow_miss, mrow_sw, idr_eq, ne_eq, Nat.reduceEqDiff, not_false_eq_true, Nat.reduceLT, reduceCtorEq, g94] at q9
                exact q9
              refine G.callV (as := [.int (nI 59)]) (rest := []) (a := 54) oX12_sign lk_EvenFindersModel_239 (by decide +kernel) rfl rfl ⟨rfl, rfl⟩ (Nat.le_of_ble_eq_true rfl) rfl ⟨Nat.le_of_ble_eq_true rfl, Nat.le_of_ble_eq_true rfl⟩ t97 (fun v9 N9 h98 => ?_) (fun E9 N9 h98 => by cases h98)
              cases h98
              show G z mX12_book (d + 2) 0 0 144 [some (.ref 54), none, some (.int s2), some (.int (r31 4)), some (.int v36), some (.int v89)] [] (mrow (mrow M 54 r96) 74 q74) Q
              refine G.sl [(.aload_n 0, 1, 0, 0, 0, 0)] [] (pc2 := 145) (ls2 := [some (.ref 54), none, some (.int s2), some (.int (r31 4)), some (.int v36), some (.int v89)]) (st2 := [.ref 54]) (M2 := mrow (mrow M 54 r96) 74 q74) (Ps := []) (by decide +kernel) rfl rfl trivial ?_
              obtain ⟨k99, hk⟩ := hk
              have t100 : GM z mX12_fine (d + 1) [.ref 54] (mrow (mrow M 54 r96) 74 q74) (fun rs => rs = .inl (some (.int (k_fine r96)), mrow (mrow M 54 r96) 74 q74)) := by
                have q9 := c_k_fine_54 z (d + 1) (mrow (mrow M 54 r96) 74 q74) 
                try simp only [mput, mrow_same, mrow_hit, mrow_miss, mrow_sw, idr_eq, ne_eq, Nat.reduceEqDiff, not_false_eq_true, Nat.reduceLT, reduceCtorEq] at q9
                exact q9
              refine G.callV (as := []) (rest := []) (a := 54) oX12_fine lk_EvenFindersModel_130 (by decide +kernel) rfl rfl ⟨rfl, rfl⟩ (Nat.le_of_ble_eq_true rfl) rfl ⟨Nat.le_of_ble_eq_true rfl, Nat.le_of_ble_eq_true rfl⟩ t100 (fun v9 N9 h101 => ?_) (fun E9 N9 h101 => by cases h101)
              cases h101
              show G z mX12_book (d + 2) 0 0 148 [some (.ref 54), none, some (.int s2), some (.int (r31 4)), some (.int v36), some (.int v89)] [.int (k_fine r96)] (mrow (mrow M 54 r96) 74 q74) Q
              refine G.if_ne (off := (6)) (tgt := 154) (by decide +kernel) rfl (fun c102 => ?_) (fun c102 => ?_)
              · skip
                rw [if_neg c102] at hk
                refine G.sl [(.aload_n 0, 1, 0, 0, 0, 0), (.getfield 74, 3, 11, 43, 166, 0), (.iload 4, 2, 4, 0, 0, 0), (.iload 5, 2, 5, 0, 0, 0), (.iastore, 1, 0, 0, 0, 0), (.iinc 2 1, 3, 2, 0, 0, nI 1), (.goto (-99), 3, 67, 0, 0, 0)] [ix v36] (pc2 := 67) (ls2 := [some (.ref 54), none, some (.int (s2 + nI 1)), some (.int (r31 4)), some (.int v36), some (.int v89)]) (st2 := []) (M2 := mput (mrow (mrow M 54 r96) 74 q74) 74 (ix v36) v89) (Ps := [v36 = nI (ix v36) ∧ (ix v36) < 8]) (by decide +kernel) rfl rfl ⟨⟨(ixE k62), k63⟩, trivial⟩ ?_
                refine G.mem (M' := mrow (mrow M 54 r96) 74 (upd q74 (ix v36) v89)) (by first | rfl | (simp only [mput, mrow_same, mrow_hit, mrow_miss, mrow_sw, idr_eq, ne_eq, Nat.reduceEqDiff, not_false_eq_true, Nat.reduceLT, reduceCtorEq]; done)) ?_
                refine G.loc (ls2 := [some (.ref 54), none, some (.int (s2 + nI 1)), none, none, none]) (by simp [subL]) ?_
                simp only [k_book_67, if_neg c20, g22, if_neg c27, g29, g35, if_neg c43, if_neg c64, g82, g88, g94, if_neg c102] at hX
                exact ih (s2 + nI 1) r96 (upd q74 (ix v36) v89) hk hX
              · skip
                rw [if_pos c102] at hk
                refine G.sl [(.goto 18, 3, 169, 0, 0, 0)] [] (pc2 := 169) (ls2 := [some (.ref 54), none, some (.int s2), some (.int (r31 4)), some (.int v36), some (.int v89)]) (st2 := []) (M2 := mrow (mrow M 54 r96) 74 q74) (Ps := []) (by decide +kernel) rfl rfl trivial ?_
                refine G.loc (ls2 := [some (.ref 54), none, some (.int s2), none, none, none]) (by simp [subL]) ?_
                simp only [k_book_67, if_neg c20, g22, if_neg c27, g29, g35, if_neg c43, if_neg c64, g82, g88, g94, if_pos c102] at hX
                exact hX
set_option maxHeartbeats 4000000 in
set_option maxRecDepth 3000 in
theorem c_k_result_54 (z : Zp) (d : Nat) (M : Mem) (x1 : Int32) : GM z mX12_result (d + 1) [.ref 54, .int x1] M (fun rs => rs = .inl (some (.int ((k_result (M.1 54) x1).1)), mrow M 54 ((k_result (M.1 54) x1).2))) := by
  refine GM.of oX12_result.1 (Nat.le_of_ble_eq_true rfl) ?_
  show G z mX12_result (d + 1) 0 0 0 [some (.ref 54), some (.int x1)] [] M _
  obtain ⟨Q, hQ⟩ : ∃ Q : Rs → Prop, Q = (fun rs => rs = .inl (some (.int ((k_result (M.1 54) x1).1)), mrow M 54 ((k_result (M.1 54) x1).2))) := ⟨_, rfl⟩
  rw [← hQ]
  refine G.sl [(.aload_n 0, 1, 0, 0, 0, 0), (.aload_n 0, 1, 0, 0, 0, 0), (.getfield 101, 3, 11, 5, 128, 0), (.putfield 17, 3, 11, 8, 131, 0), (.aload_n 0, 1, 0, 0, 0, 0)] [] (pc2 := 9) (ls2 := [some (.ref 54), some (.int x1)]) (st2 := [.ref 54]) (M2 := mput M 54 8 (M.1 54 5)) (Ps := []) (by decide +kernel) rfl rfl trivial ?_
  refine G.mem (M' := mrow M 54 (upd (M.1 54) 8 (M.1 54 5))) (by first | rfl | (simp only [mput, mrow_same, mrow_hit, mrow_miss, mrow_sw, idr_eq, ne_eq, Nat.reduceEqDiff, not_false_eq_true, Nat.reduceLT, reduceCtorEq]; done)) ?_
  have t2 : GM z mX12_fine (d) [.ref 54] (mrow M 54 (upd (M.1 54) 8 (M.1 54 5))) (fun rs => rs = .inl (some (.int (k_fine (upd (M.1 54) 8 (M.1 54 5)))), mrow M 54 (upd (M.1 54) 8 (M.1 54 5)))) := by
    have q9 := c_k_fine_54 z d (mrow M 54 (upd (M.1 54) 8 (M.1 54 5))) 
    try simp only [mput, mrow_same, mrow_hit, mrow_miss, mrow_sw, idr_eq, ne_eq, Nat.reduceEqDiff, not_false_eq_true, Nat.reduceLT, reduceCtorEq] at q9
    exact q9
  refine G.callV (as := []) (rest := []) (a := 54) oX12_fine lk_EvenFindersModel_130 (by decide +kernel) rfl rfl ⟨rfl, rfl⟩ (Nat.le_of_ble_eq_true rfl) rfl ⟨Nat.le_of_ble_eq_true rfl, Nat.le_of_ble_eq_true rfl⟩ t2 (fun v9 N9 h3 => ?_) (fun E9 N9 h3 => by cases h3)
  cases h3
  show G z mX12_result (d + 1) 0 0 12 [some (.ref 54), some (.int x1)] [.int (k_fine (upd (M.1 54) 8 (M.1 54 5)))] (mrow M 54 (upd (M.1 54) 8 (M.1 54 5))) Q
  refine G.if_eq (off := (7)) (tgt := 19) (by decide +kernel) rfl (fun c4 => ?_) (fun c4 => ?_)
  · skip
    refine G.sl [(.aload_n 0, 1, 0, 0, 0, 0), (.getfield 104, 3, 11, 6, 129, 0), (.bipush 10, 2, 0, 0, 0, nI 10), (.isub, 1, 0, 0, 0, 0)] [] (pc2 := 26) (ls2 := [some (.ref 54), some (.int x1)]) (st2 := [.int ((M.1 54 6) - (nI 10))]) (M2 := mrow M 54 (upd (M.1 54) 8 (M.1 54 5))) (Ps := []) (by decide +kernel) rfl rfl trivial ?_
    exact G.reti (by decide +kernel) rfl rfl (Nat.le_of_ble_eq_true rfl) (Nat.le_of_ble_eq_true rfl) ((by rw [hQ]; simp only [k_result, if_pos c4, mrow_self]))
  · skip
    refine G.sl [(.iload_n 1, 1, 1, 0, 0, 0), (.goto 10, 3, 26, 0, 0, 0)] [] (pc2 := 26) (ls2 := [some (.ref 54), some (.int x1)]) (st2 := [.int x1]) (M2 := mrow M 54 (upd (M.1 54) 8 (M.1 54 5))) (Ps := []) (by decide +kernel) rfl rfl trivial ?_
    exact G.reti (by decide +kernel) rfl rfl (Nat.le_of_ble_eq_true rfl) (Nat.le_of_ble_eq_true rfl) ((by rw [hQ]; simp only [k_result, if_neg c4, mrow_self]))
set_option maxHeartbeats 4000000 in
set_option maxRecDepth 3000 in
theorem lp_k_copies_L8_L8_54_74_75_3 (z : Zp) (d : Nat) (M : Mem) (Q : Rs → Prop) (n3 : Nat) (b3 : n3 < 3000) (hk : ∀ i4, i4 < n3 → k_copies_L8_L8_3_ok (M.1 74) (M.1 75) n3 i4) (hX : G z mX12_copies (d) 0 0 23 [none, none, none, none, none] [] (mrow M 75 (k_copies_L8_L8_3 (M.1 74) (M.1 75) n3 n3)) Q) : G z mX12_copies (d) 0 0 3 [none, some (.ref 74), some (.ref 75), some (.int (nI n3)), some (.int (nI 0))] [] M Q := by
  refine G.mem (M' := mrow M 75 (M.1 75)) (by simp only [mrow_self]) ?_
  refine down (n := n3) (P := fun i4 => G z mX12_copies (d) 0 0 3 [none, some (.ref 74), some (.ref 75), some (.int (nI n3)), some (.int (nI i4))] [] (mrow M 75 (k_copies_L8_L8_3 (M.1 74) (M.1 75) n3 i4)) Q) ?_ ?_ 0 (Nat.zero_le _)
  · skip
    refine G.sl [(.iload 4, 2, 4, 0, 0, 0), (.iload_n 3, 1, 3, 0, 0, 0)] [] (pc2 := 6) (ls2 := [none, some (.ref 74), some (.ref 75), some (.int (nI n3)), some (.int (nI n3))]) (st2 := [.int (nI n3), .int (nI n3)]) (M2 := mrow M 75 (k_copies_L8_L8_3 (M.1 74) (M.1 75) n3 n3)) (Ps := []) (by decide +kernel) rfl rfl trivial ?_
    refine G.ic_ge (off := (17)) (tgt := 23) (by decide +kernel) rfl (fun _ => ?_) (fun h9 => absurd (nI_le (by omega) (by omega)) h9)
    refine G.loc (ls2 := [none, none, none, none, none]) (by simp [subL]) ?_
    exact hX
  · skip
    intro i4 hi ih
    have hk := hk i4 hi
    simp only [k_copies_L8_L8_3_ok] at hk
    show G z mX12_copies (d) 0 0 3 [none, some (.ref 74), some (.ref 75), some (.int (nI n3)), some (.int (nI i4))] [] (mrow M 75 (k_copies_L8_L8_3 (M.1 74) (M.1 75) n3 i4)) Q
    refine G.sl [(.iload 4, 2, 4, 0, 0, 0), (.iload_n 3, 1, 3, 0, 0, 0)] [] (pc2 := 6) (ls2 := [none, some (.ref 74), some (.ref 75), some (.int (nI n3)), some (.int (nI i4))]) (st2 := [.int (nI n3), .int (nI i4)]) (M2 := mrow M 75 (k_copies_L8_L8_3 (M.1 74) (M.1 75) n3 i4)) (Ps := []) (by decide +kernel) rfl rfl trivial ?_
    refine G.ic_ge (off := (17)) (tgt := 23) (by decide +kernel) rfl (fun h9 => absurd h9 (nI_ge (by omega) (by omega))) (fun _ => ?_)
    obtain ⟨k1, hk⟩ := hk
    refine G.sl [(.aload_n 2, 1, 2, 0, 0, 0), (.iload 4, 2, 4, 0, 0, 0), (.aload_n 1, 1, 1, 0, 0, 0), (.iload 4, 2, 4, 0, 0, 0), (.iaload, 1, 0, 0, 0, 0), (.iastore, 1, 0, 0, 0, 0), (.iinc 4 1, 3, 4, 0, 0, nI 1), (.goto (-17), 3, 3, 0, 0, 0)] [i4, i4] (pc2 := 3) (ls2 := [none, some (.ref 74), some (.ref 75), some (.int (nI n3)), some (.int ((nI i4) + nI 1))]) (st2 := []) (M2 := mput (mrow M 75 (k_copies_L8_L8_3 (M.1 74) (M.1 75) n3 i4)) 75 i4 (M.1 74 i4)) (Ps := [(nI i4) = nI i4 ∧ i4 < 8, (nI i4) = nI i4 ∧ i4 < 8]) (by decide +kernel) rfl rfl ⟨⟨rfl, k1⟩, ⟨rfl, k1⟩, trivial⟩ ?_
    refine G.mem (M' := mrow M 75 (upd (k_copies_L8_L8_3 (M.1 74) (M.1 75) n3 i4) i4 (M.1 74 i4))) (by first | rfl | (simp only [mput, mrow_same, mrow_hit, mrow_miss, mrow_sw, idr_eq, ne_eq, Nat.reduceEqDiff, not_false_eq_true, Nat.reduceLT, reduceCtorEq]; done)) ?_
    rw [nI_add i4 1]
    simp only [k_copies_L8_L8_3] at ih
    exact ih
set_option maxHeartbeats 4000000 in
set_option maxRecDepth 3000 in
theorem c_k_copies_L8_L8_54_74_75 (z : Zp) (d : Nat) (M : Mem) (n3 : Nat) (b3 : n3 < 3000) (hk : k_copies_L8_L8_ok (M.1 74) (M.1 75) n3) : GM z mX12_copies (d) [.ref 54, .ref 74, .ref 75, .int (nI n3)] M (fun rs => rs = .inl (none, mrow M 75 ((k_copies_L8_L8 (M.1 74) (M.1 75) n3).2))) := by
  simp only [k_copies_L8_L8_ok] at hk
  refine GM.of oX12_copies.1 (Nat.le_of_ble_eq_true rfl) ?_
  show G z mX12_copies (d) 0 0 0 [some (.ref 54), some (.ref 74), some (.ref 75), some (.int (nI n3)), none] [] M _
  obtain ⟨Q, hQ⟩ : ∃ Q : Rs → Prop, Q = (fun rs => rs = .inl (none, mrow M 75 ((k_copies_L8_L8 (M.1 74) (M.1 75) n3).2))) := ⟨_, rfl⟩
  rw [← hQ]
  refine G.sl [(.iconst 0, 1, 0, 0, 0, nI 0), (.istore 4, 2, 4, 0, 0, 0)] [] (pc2 := 3) (ls2 := [some (.ref 54), some (.ref 74), some (.ref 75), some (.int (nI n3)), some (.int (nI 0))]) (st2 := []) (M2 := M) (Ps := []) (by decide +kernel) rfl rfl trivial ?_
  refine G.loc (ls2 := [none, some (.ref 74), some (.ref 75), some (.int (nI n3)), some (.int (nI 0))]) (by simp [subL]) ?_
  obtain ⟨k2, hk⟩ := hk
  refine lp_k_copies_L8_L8_54_74_75_3 z d M Q n3 (by omega) (by first | (simp only [mput, mrow_same, mrow_hit, mrow_miss, mrow_sw, idr_eq, ne_eq, Nat.reduceEqDiff, not_false_eq_true, Nat.reduceLT, reduceCtorEq]; exact k2) | exact k2) ?_
  try simp only [mput, mrow_same, mrow_hit, mrow_miss, mrow_sw, idr_eq, ne_eq, Nat.reduceEqDiff, not_false_eq_true, Nat.reduceLT, reduceCtorEq]
  show G z mX12_copies (d) 0 0 23 [none, none, none, none, none] [] (mrow M 75 (k_copies_L8_L8_3 (M.1 74) (M.1 75) n3 n3)) Q
  exact G.retv (by decide +kernel) rfl (Nat.le_of_ble_eq_true rfl) (Nat.le_of_ble_eq_true rfl) ((by rw [hQ]; simp only [k_copies_L8_L8, mrow_self]))
set_option maxHeartbeats 4000000 in
set_option maxRecDepth 3000 in
theorem c_k_book_54 (z : Zp) (d : Nat) (M : Mem) (x1 : Int32) (hk : k_book_ok (M.1 54) (M.1 55) (M.1 56) (M.1 74) (M.1 75) x1) : GM z mX12_book (d + 2) [.ref 54, .int x1] M (fun rs => rs = .inl (some (.int ((k_book (M.1 54) (M.1 55) (M.1 56) (M.1 74) (M.1 75) x1).1)), mrow (mrow (mrow (mrow M 54 ((k_book (M.1 54) (M.1 55) (M.1 56) (M.1 74) (M.1 75) x1).2.1)) 55 ((k_book (M.1 54) (M.1 55) (M.1 56) (M.1 74) (M.1 75) x1).2.2.1)) 74 ((k_book (M.1 54) (M.1 55) (M.1 56) (M.1 74) (M.1 75) x1).2.2.2.1)) 75 ((k_book (M.1 54) (M.1 55) (M.1 56) (M.1 74) (M.1 75) x1).2.2.2.2))) := by
  simp only [k_book_ok] at hk
  refine GM.of oX12_book.1 (Nat.le_of_ble_eq_true rfl) ?_
  show G z mX12_book (d + 2) 0 0 0 [some (.ref 54), some (.int x1), none, none, none, none] [] M _
  obtain ⟨Q, hQ⟩ : ∃ Q : Rs → Prop, Q = (fun rs => rs = .inl (some (.int ((k_book (M.1 54) (M.1 55) (M.1 56) (M.1 74) (M.1 75) x1).1)), mrow (mrow (mrow (mrow M 54 ((k_book (M.1 54) (M.1 55) (M.1 56) (M.1 74) (M.1 75) x1).2.1)) 55 ((k_book (M.1 54) (M.1 55) (M.1 56) (M.1 74) (M.1 75) x1).2.2.1)) 74 ((k_book (M.1 54) (M.1 55) (M.1 56) (M.1 74) (M.1 75) x1).2.2.2.1)) 75 ((k_book (M.1 54) (M.1 55) (M.1 56) (M.1 74) (M.1 75) x1).2.2.2.2))) := ⟨_, rfl⟩
  rw [← hQ]
  refine G.sl [(.aload_n 0, 1, 0, 0, 0, 0), (.iconst 0, 1, 0, 0, 0, nI 0), (.putfield 3, 3, 11, 0, 123, 0), (.aload_n 0, 1, 0, 0, 0, 0), (.iload_n 1, 1, 1, 0, 0, 0)] [] (pc2 := 7) (ls2 := [some (.ref 54), some (.int x1), none, none, none, none]) (st2 := [.int x1, .ref 54]) (M2 := mput M 54 0 (nI 0)) (Ps := []) (by decide +kernel) rfl rfl trivial ?_
  refine G.mem (M' := mrow M 54 (upd (M.1 54) 0 (nI 0))) (by first | rfl | (simp only [mput, mrow_same, mrow_hit, mrow_miss, mrow_sw, idr_eq, ne_eq, Nat.reduceEqDiff, not_false_eq_true, Nat.reduceLT, reduceCtorEq]; done)) ?_
  refine G.if_lt (off := (21)) (tgt := 28) (by decide +kernel) rfl (fun c1 => ?_) (fun c1 => ?_)
  · skip
    rw [if_pos c1] at hk
    refine G.sl [(.iconst 0, 1, 0, 0, 0, nI 0), (.iconst 1, 1, 0, 0, 0, nI 1), (.iconst 1, 1, 0, 0, 0, nI 1)] [] (pc2 := 31) (ls2 := [some (.ref 54), some (.int x1), none, none, none, none]) (st2 := [.int (nI 1), .int (nI 1), .int (nI 0), .ref 54]) (M2 := mrow M 54 (upd (M.1 54) 0 (nI 0))) (Ps := []) (by decide +kernel) rfl rfl trivial ?_
    obtain ⟨k2, hk⟩ := hk
    rcases g3 : k_may_1 (upd (M.1 54) 0 (nI 0)) (M.1 55) (nI 0) (nI 1) with ⟨v4, r5, r6⟩
    try simp only [g3] at hk
    have ev4 : v4 = 0 ∨ v4 = 1 := by
      have q9 := k_may_1_01 (upd (M.1 54) 0 (nI 0)) (M.1 55) (nI 0) (nI 1)
      rw [g3] at q9
      exact q9
    have t7 : GM z mX12_may (d + 1) [.ref 54, .int (nI 0), .int (nI 1), .int (nI 1)] (mrow M 54 (upd (M.1 54) 0 (nI 0))) (fun rs => rs = .inl (some (.int v4), mrow (mrow M 54 r5) 55 r6)) := by
      have q9 := c_k_may_1_54 z (d + 1) (mrow M 54 (upd (M.1 54) 0 (nI 0))) (nI 0) (nI 1)
      try simp only [mput, mrow_same, mrow_hit, mrow_miss, mrow_sw, idr_eq, ne_eq, Nat.reduceEqDiff, not_false_eq_true, Nat.reduceLT, reduceCtorEq, g3] at q9
      exact q9
    refine G.callV (as := [.int (nI 0), .int (nI 1), .int (nI 1)]) (rest := []) (a := 54) oX12_may lk_EvenFindersModel_213 (by decide +kernel) rfl rfl ⟨rfl, rfl⟩ (Nat.le_of_ble_eq_true rfl) rfl ⟨Nat.le_of_ble_eq_true rfl, Nat.le_of_ble_eq_true rfl⟩ t7 (fun v9 N9 h8 => ?_) (fun E9 N9 h8 => by cases h8)
    cases h8
    show G z mX12_book (d + 2) 0 0 34 [some (.ref 54), some (.int x1), none, none, none, none] [.int v4] (mrow (mrow M 54 r5) 55 r6) Q
    refine G.if_ne (off := (5)) (tgt := 39) (by decide +kernel) rfl (fun c9 => ?_) (fun c9 => ?_)
    · skip
      rw [if_neg c9] at hk
      refine G.sl [(.aload_n 0, 1, 0, 0, 0, 0), (.iload_n 1, 1, 1, 0, 0, 0)] [] (pc2 := 41) (ls2 := [some (.ref 54), some (.int x1), none, none, none, none]) (st2 := [.int x1, .ref 54]) (M2 := mrow (mrow M 54 r5) 55 r6) (Ps := []) (by decide +kernel) rfl rfl trivial ?_
      obtain ⟨k10, hk⟩ := hk
      rcases g11 : k_begins r5 x1 with ⟨u12, r13⟩
      try simp only [g11] at hk
      have t14 : GM z mX12_begins (d + 1) [.ref 54, .int x1] (mrow (mrow M 54 r5) 55 r6) (fun rs => rs = .inl (none, mrow (mrow M 54 r13) 55 r6)) := by
        have q9 := c_k_begins_54 z (d + 1) (mrow (mrow M 54 r5) 55 r6) x1
        try simp only [mput, mrow_same, mrow_hit, mrow_miss, mrow_sw, idr_eq, ne_eq, Nat.reduceEqDiff, not_false_eq_true, Nat.reduceLT, reduceCtorEq, g11] at q9
        exact q9
      refine G.callV (as := [.int x1]) (rest := []) (a := 54) oX12_begins lk_EvenFindersModel_217 (by decide +kernel) rfl rfl ⟨rfl, rfl⟩ (Nat.le_of_ble_eq_true rfl) rfl ⟨Nat.le_of_ble_eq_true rfl, Nat.le_of_ble_eq_true rfl⟩ t14 (fun v9 N9 h15 => ?_) (fun E9 N9 h15 => by cases h15)
      cases h15
      show G z mX12_book (d + 2) 0 0 44 [some (.ref 54), some (.int x1), none, none, none, none] [] (mrow (mrow M 54 r13) 55 r6) Q
      refine G.sl [(.iconst 0, 1, 0, 0, 0, nI 0), (.istore_n 2, 1, 2, 0, 0, 0)] [] (pc2 := 46) (ls2 := [some (.ref 54), some (.int x1), some (.int (nI 0)), none, none, none]) (st2 := []) (M2 := mrow (mrow M 54 r13) 55 r6) (Ps := []) (by decide +kernel) rfl rfl trivial ?_
      refine G.loc (ls2 := [some (.ref 54), none, some (.int (nI 0)), none, none, none]) (by simp [subL]) ?_
      obtain ⟨k16, hk⟩ := hk
      refine lp_k_book_54_46 z d (mrow (mrow M 54 r13) 55 r6) Q (cN 8) (cN_eq 8) ?_
      try simp only [mput, mrow_same, mrow_hit, mrow_miss, mrow_sw, idr_eq, ne_eq, Nat.reduceEqDiff, not_false_eq_true, Nat.reduceLT, reduceCtorEq]
      show G z mX12_book (d + 2) 0 0 65 [some (.ref 54), none, none, none, none, none] [] (mrow (mrow (mrow M 54 r13) 55 r6) 74 (k_book_46 (M.1 74) (cN 8))) Q
      refine G.sl [(.iconst 0, 1, 0, 0, 0, nI 0), (.istore_n 2, 1, 2, 0, 0, 0)] [] (pc2 := 67) (ls2 := [some (.ref 54), none, some (.int (nI 0)), none, none, none]) (st2 := []) (M2 := mrow (mrow (mrow M 54 r13) 55 r6) 74 (k_book_46 (M.1 74) (cN 8))) (Ps := []) (by decide +kernel) rfl rfl trivial ?_
      obtain ⟨k103, hk⟩ := hk
      refine G.mem (M' := mrow (mrow (mrow (mrow (mrow M 54 r13) 55 r6) 74 (k_book_46 (M.1 74) (cN 8))) 54 ((mrow (mrow (mrow M 54 r13) 55 r6) 74 (k_book_46 (M.1 74) (cN 8))).1 54)) 74 ((mrow (mrow (mrow M 54 r13) 55 r6) 74 (k_book_46 (M.1 74) (cN 8))).1 74)) (by simp only [mrow_self]) ?_
      refine lp_k_book_54_67 z d (mrow (mrow (mrow M 54 r13) 55 r6) 74 (k_book_46 (M.1 74) (cN 8))) Q FU (nI 0) ((mrow (mrow (mrow M 54 r13) 55 r6) 74 (k_book_46 (M.1 74) (cN 8))).1 54) ((mrow (mrow (mrow M 54 r13) 55 r6) 74 (k_book_46 (M.1 74) (cN 8))).1 74) (by first | (simp only [mput, mrow_same, mrow_hit, mrow_miss, mrow_sw, idr_eq, ne_eq, Nat.reduceEqDiff, not_false_eq_true, Nat.reduceLT, reduceCtorEq]; exact k103) | exact k103) ?_
      try simp only [mput, mrow_same, mrow_hit, mrow_miss, mrow_sw, idr_eq, ne_eq, Nat.reduceEqDiff, not_false_eq_true, Nat.reduceLT, reduceCtorEq]
      rcases g104 : k_book_67 (M.1 56) FU (nI 0) r13 (k_book_46 (M.1 74) (cN 8)) with ⟨v105, r106, r107⟩
      try simp only [g104] at hk
      show G z mX12_book (d + 2) 0 0 169 [some (.ref 54), none, some (.int v105), none, none, none] [] (mrow (mrow (mrow M 54 r106) 55 r6) 74 r107) Q
      refine G.sl [(.aload_n 0, 1, 0, 0, 0, 0), (.iload_n 2, 1, 2, 0, 0, 0)] [] (pc2 := 171) (ls2 := [some (.ref 54), none, some (.int v105), none, none, none]) (st2 := [.int v105, .ref 54]) (M2 := mrow (mrow (mrow M 54 r106) 55 r6) 74 r107) (Ps := []) (by decide +kernel) rfl rfl trivial ?_
      obtain ⟨k108, hk⟩ := hk
      rcases g109 : k_result r106 v105 with ⟨v110, r111⟩
      try simp only [g109] at hk
      have t112 : GM z mX12_result (d + 1) [.ref 54, .int v105] (mrow (mrow (mrow M 54 r106) 55 r6) 74 r107) (fun rs => rs = .inl (some (.int v110), mrow (mrow (mrow M 54 r111) 55 r6) 74 r107)) := by
        have q9 := c_k_result_54 z d (mrow (mrow (mrow M 54 r106) 55 r6) 74 r107) v105
        try simp only [mput, mrow_same, mrow_hit, mrow_miss, mrow_sw, idr_eq, ne_eq, Nat.reduceEqDiff, not_false_eq_true, Nat.reduceLT, reduceCtorEq, g109] at q9
        exact q9
      refine G.callV (as := [.int v105]) (rest := []) (a := 54) oX12_result lk_EvenFindersModel_242 (by decide +kernel) rfl rfl ⟨rfl, rfl⟩ (Nat.le_of_ble_eq_true rfl) rfl ⟨Nat.le_of_ble_eq_true rfl, Nat.le_of_ble_eq_true rfl⟩ t112 (fun v9 N9 h113 => ?_) (fun E9 N9 h113 => by cases h113)
      cases h113
      show G z mX12_book (d + 2) 0 0 174 [some (.ref 54), none, some (.int v105), none, none, none] [.int v110] (mrow (mrow (mrow M 54 r111) 55 r6) 74 r107) Q
      refine G.sl [(.istore_n 3, 1, 3, 0, 0, 0), (.aload_n 0, 1, 0, 0, 0, 0), (.getfield 101, 3, 11, 5, 128, 0), (.iconst (-1), 1, 0, 0, 0, (-1))] [] (pc2 := 180) (ls2 := [some (.ref 54), none, some (.int v105), some (.int v110), none, none]) (st2 := [.int ((-1)), .int (r111 5)]) (M2 := mrow (mrow (mrow M 54 r111) 55 r6) 74 r107) (Ps := []) (by decide +kernel) rfl rfl trivial ?_
      refine G.ic_eq (off := (5)) (tgt := 185) (by decide +kernel) rfl (fun c114 => ?_) (fun c114 => ?_)
      · skip
        rw [if_pos c114] at hk
        refine G.sl [(.aload_n 0, 1, 0, 0, 0, 0), (.iload_n 2, 1, 2, 0, 0, 0), (.putfield 175, 3, 11, 45, 168, 0), (.aload_n 0, 1, 0, 0, 0, 0), (.aload_n 0, 1, 0, 0, 0, 0), (.getfield 74, 3, 11, 43, 166, 0), (.aload_n 0, 1, 0, 0, 0, 0), (.getfield 77, 3, 11, 44, 167, 0), (.bipush 8, 2, 0, 0, 0, nI 8)] [] (pc2 := 201) (ls2 := [some (.ref 54), none, some (.int v105), some (.int v110), none, none]) (st2 := [.int (nI 8), .ref 75, .ref 74, .ref 54]) (M2 := mput (mrow (mrow (mrow M 54 r111) 55 r6) 74 r107) 54 45 v105) (Ps := []) (by decide +kernel) rfl rfl trivial ?_
        refine G.mem (M' := mrow (mrow (mrow M 54 (upd r111 45 v105)) 55 r6) 74 r107) (by first | rfl | (simp only [mput, mrow_same, mrow_hit, mrow_miss, mrow_sw, idr_eq, ne_eq, Nat.reduceEqDiff, not_false_eq_true, Nat.reduceLT, reduceCtorEq]; done)) ?_
        obtain ⟨k115, hk⟩ := hk
        rcases g116 : k_copies_L8_L8 r107 (M.1 75) 8 with ⟨u117, r118⟩
        have t119 : GM z mX12_copies (d + 1) [.ref 54, .ref 74, .ref 75, .int (nI 8)] (mrow (mrow (mrow M 54 (upd r111 45 v105)) 55 r6) 74 r107) (fun rs => rs = .inl (none, mrow (mrow (mrow (mrow M 54 (upd r111 45 v105)) 55 r6) 74 r107) 75 r118)) := by
          have q9 := c_k_copies_L8_L8_54_74_75 z (d + 1) (mrow (mrow (mrow M 54 (upd r111 45 v105)) 55 r6) 74 r107) 8 (by omega) k115
          try simp only [mput, mrow_same, mrow_hit, mrow_miss, mrow_sw, idr_eq, ne_eq, Nat.reduceEqDiff, not_false_eq_true, Nat.reduceLT, reduceCtorEq, g116] at q9
          exact q9
        refine G.callV (as := [.ref 74, .ref 75, .int (nI 8)]) (rest := []) (a := 54) oX12_copies lk_EvenFindersModel_168 (by decide +kernel) rfl rfl ⟨rfl, rfl⟩ (Nat.le_of_ble_eq_true rfl) rfl ⟨Nat.le_of_ble_eq_true rfl, Nat.le_of_ble_eq_true rfl⟩ t119 (fun v9 N9 h120 => ?_) (fun E9 N9 h120 => by cases h120)
        cases h120
        show G z mX12_book (d + 2) 0 0 204 [some (.ref 54), none, some (.int v105), some (.int v110), none, none] [] (mrow (mrow (mrow (mrow M 54 (upd r111 45 v105)) 55 r6) 74 r107) 75 r118) Q
        refine G.sl [(.iload_n 3, 1, 3, 0, 0, 0)] [] (pc2 := 205) (ls2 := [some (.ref 54), none, some (.int v105), some (.int v110), none, none]) (st2 := [.int v110]) (M2 := mrow (mrow (mrow (mrow M 54 (upd r111 45 v105)) 55 r6) 74 r107) 75 r118) (Ps := []) (by decide +kernel) rfl rfl trivial ?_
        exact G.reti (by decide +kernel) rfl rfl (Nat.le_of_ble_eq_true rfl) (Nat.le_of_ble_eq_true rfl) ((by rw [hQ]; simp only [k_book, if_pos c1, g3, if_neg c9, g11, g104, g109, if_pos c114, g116, mrow_self]))
      · skip
        rw [if_neg c114] at hk
        refine G.sl [(.iload_n 3, 1, 3, 0, 0, 0)] [] (pc2 := 184) (ls2 := [some (.ref 54), none, some (.int v105), some (.int v110), none, none]) (st2 := [.int v110]) (M2 := mrow (mrow (mrow M 54 r111) 55 r6) 74 r107) (Ps := []) (by decide +kernel) rfl rfl trivial ?_
        refine G.mem (M' := mrow (mrow (mrow (mrow M 54 r111) 55 r6) 74 r107) 75 (M.1 75)) (((mrow_id (N := mrow (mrow (mrow M 54 r111) 55 r6) 74 r107) (c := 75) (f := M.1 75) (by first | rfl | (simp only [mput, mrow_same, mrow_hit, mrow_miss, mrow_sw, idr_eq, ne_eq, Nat.reduceEqDiff, not_false_eq_true, Nat.reduceLT, reduceCtorEq]; done))).symm).trans (by first | rfl | (simp only [mput, mrow_same, mrow_hit, mrow_miss, mrow_sw, idr_eq, ne_eq, Nat.reduceEqDiff, not_false_eq_true, Nat.reduceLT, reduceCtorEq]; done))) ?_
        exact G.reti (by decide +kernel) rfl rfl (Nat.le_of_ble_eq_true rfl) (Nat.le_of_ble_eq_true rfl) ((by rw [hQ]; simp only [k_book, if_pos c1, g3, if_neg c9, g11, g104, g109, if_neg c114, mrow_self]))
    · skip
      rw [if_pos c9] at hk
      refine G.sl [(.iconst 0, 1, 0, 0, 0, nI 0)] [] (pc2 := 38) (ls2 := [some (.ref 54), some (.int x1), none, none, none, none]) (st2 := [.int (nI 0)]) (M2 := mrow (mrow M 54 r5) 55 r6) (Ps := []) (by decide +kernel) rfl rfl trivial ?_
      refine G.mem (M' := mrow (mrow (mrow (mrow M 54 r5) 55 r6) 74 (M.1 74)) 75 (M.1 75)) ((((mrow_id (N := mrow (mrow M 54 r5) 55 r6) (c := 74) (f := M.1 74) (by first | rfl | (simp only [mput, mrow_same, mrow_hit, mrow_miss, mrow_sw, idr_eq, ne_eq, Nat.reduceEqDiff, not_false_eq_true, Nat.reduceLT, reduceCtorEq]; done))).symm).trans (mrow_id (N := mrow (mrow (mrow M 54 r5) 55 r6) 74 (M.1 74)) (c := 75) (f := M.1 75) (by first | rfl | (simp only [mput, mrow_same, mrow_hit, mrow_miss, mrow_sw, idr_eq, ne_eq, Nat.reduceEqDiff, not_false_eq_true, Nat.reduceLT, reduceCtorEq]; done))).symm).trans (by first | rfl | (simp only [mput, mrow_same, mrow_hit, mrow_miss, mrow_sw, idr_eq, ne_eq, Nat.reduceEqDiff, not_false_eq_true, Nat.reduceLT, reduceCtorEq]; done))) ?_
      exact G.reti (by decide +kernel) rfl rfl (Nat.le_of_ble_eq_true rfl) (Nat.le_of_ble_eq_true rfl) ((by rw [hQ]; simp only [k_book, if_pos c1, g3, if_pos c9, mrow_self]))
  · skip
    rw [if_neg c1] at hk
    refine G.sl [(.iload_n 1, 1, 1, 0, 0, 0), (.aload_n 0, 1, 0, 0, 0, 0), (.getfield 98, 3, 11, 2, 125, 0)] [] (pc2 := 15) (ls2 := [some (.ref 54), some (.int x1), none, none, none, none]) (st2 := [.int (M.1 54 2), .int x1, .ref 54]) (M2 := mrow M 54 (upd (M.1 54) 0 (nI 0))) (Ps := []) (by decide +kernel) rfl rfl trivial ?_
    refine G.ic_gt (off := (13)) (tgt := 28) (by decide +kernel) rfl (fun c121 => ?_) (fun c121 => ?_)
    · skip
      rw [if_pos c121] at hk
      refine G.sl [(.iconst 0, 1, 0, 0, 0, nI 0), (.iconst 1, 1, 0, 0, 0, nI 1), (.iconst 1, 1, 0, 0, 0, nI 1)] [] (pc2 := 31) (ls2 := [some (.ref 54), some (.int x1), none, none, none, none]) (st2 := [.int (nI 1), .int (nI 1), .int (nI 0), .ref 54]) (M2 := mrow M 54 (upd (M.1 54) 0 (nI 0))) (Ps := []) (by decide +kernel) rfl rfl trivial ?_
      obtain ⟨k122, hk⟩ := hk
      rcases g123 : k_may_1 (upd (M.1 54) 0 (nI 0)) (M.1 55) (nI 0) (nI 1) with ⟨v124, r125, r126⟩
      try simp only [g123] at hk
      have ev124 : v124 = 0 ∨ v124 = 1 := by
        have q9 := k_may_1_01 (upd (M.1 54) 0 (nI 0)) (M.1 55) (nI 0) (nI 1)
        rw [g123] at q9
        exact q9
      have t127 : GM z mX12_may (d + 1) [.ref 54, .int (nI 0), .int (nI 1), .int (nI 1)] (mrow M 54 (upd (M.1 54) 0 (nI 0))) (fun rs => rs = .inl (some (.int v124), mrow (mrow M 54 r125) 55 r126)) := by
        have q9 := c_k_may_1_54 z (d + 1) (mrow M 54 (upd (M.1 54) 0 (nI 0))) (nI 0) (nI 1)
        try simp only [mput, mrow_same, mrow_hit, mrow_miss, mrow_sw, idr_eq, ne_eq, Nat.reduceEqDiff, not_false_eq_true, Nat.reduceLT, reduceCtorEq, g123] at q9
        exact q9
      refine G.callV (as := [.int (nI 0), .int (nI 1), .int (nI 1)]) (rest := []) (a := 54) oX12_may lk_EvenFindersModel_213 (by decide +kernel) rfl rfl ⟨rfl, rfl⟩ (Nat.le_of_ble_eq_true rfl) rfl ⟨Nat.le_of_ble_eq_true rfl, Nat.le_of_ble_eq_true rfl⟩ t127 (fun v9 N9 h128 => ?_) (fun E9 N9 h128 => by cases h128)
      cases h128
      show G z mX12_book (d + 2) 0 0 34 [some (.ref 54), some (.int x1), none, none, none, none] [.int v124] (mrow (mrow M 54 r125) 55 r126) Q
      refine G.if_ne (off := (5)) (tgt := 39) (by decide +kernel) rfl (fun c129 => ?_) (fun c129 => ?_)
      · skip
        rw [if_neg c129] at hk
        refine G.sl [(.aload_n 0, 1, 0, 0, 0, 0), (.iload_n 1, 1, 1, 0, 0, 0)] [] (pc2 := 41) (ls2 := [some (.ref 54), some (.int x1), none, none, none, none]) (st2 := [.int x1, .ref 54]) (M2 := mrow (mrow M 54 r125) 55 r126) (Ps := []) (by decide +kernel) rfl rfl trivial ?_
        obtain ⟨k130, hk⟩ := hk
        rcases g131 : k_begins r125 x1 with ⟨u132, r133⟩
        try simp only [g131] at hk
        have t134 : GM z mX12_begins (d + 1) [.ref 54, .int x1] (mrow (mrow M 54 r125) 55 r126) (fun rs => rs = .inl (none, mrow (mrow M 54 r133) 55 r126)) := by
          have q9 := c_k_begins_54 z (d + 1) (mrow (mrow M 54 r125) 55 r126) x1
          try simp only [mput, mrow_same, mrow_hit, mrow_miss, mrow_sw, idr_eq, ne_eq, Nat.reduceEqDiff, not_false_eq_true, Nat.reduceLT, reduceCtorEq, g131] at q9
          exact q9
        refine G.callV (as := [.int x1]) (rest := []) (a := 54) oX12_begins lk_EvenFindersModel_217 (by decide +kernel) rfl rfl ⟨rfl, rfl⟩ (Nat.le_of_ble_eq_true rfl) rfl ⟨Nat.le_of_ble_eq_true rfl, Nat.le_of_ble_eq_true rfl⟩ t134 (fun v9 N9 h135 => ?_) (fun E9 N9 h135 => by cases h135)
        cases h135
        show G z mX12_book (d + 2) 0 0 44 [some (.ref 54), some (.int x1), none, none, none, none] [] (mrow (mrow M 54 r133) 55 r126) Q
        refine G.sl [(.iconst 0, 1, 0, 0, 0, nI 0), (.istore_n 2, 1, 2, 0, 0, 0)] [] (pc2 := 46) (ls2 := [some (.ref 54), some (.int x1), some (.int (nI 0)), none, none, none]) (st2 := []) (M2 := mrow (mrow M 54 r133) 55 r126) (Ps := []) (by decide +kernel) rfl rfl trivial ?_
        refine G.loc (ls2 := [some (.ref 54), none, some (.int (nI 0)), none, none, none]) (by simp [subL]) ?_
        obtain ⟨k136, hk⟩ := hk
        refine lp_k_book_54_46 z d (mrow (mrow M 54 r133) 55 r126) Q (cN 8) (cN_eq 8) ?_
        try simp only [mput, mrow_same, mrow_hit, mrow_miss, mrow_sw, idr_eq, ne_eq, Nat.reduceEqDiff, not_false_eq_true, Nat.reduceLT, reduceCtorEq]
        show G z mX12_book (d + 2) 0 0 65 [some (.ref 54), none, none, none, none, none] [] (mrow (mrow (mrow M 54 r133) 55 r126) 74 (k_book_46 (M.1 74) (cN 8))) Q
        refine G.sl [(.iconst 0, 1, 0, 0, 0, nI 0), (.istore_n 2, 1, 2, 0, 0, 0)] [] (pc2 := 67) (ls2 := [some (.ref 54), none, some (.int (nI 0)), none, none, none]) (st2 := []) (M2 := mrow (mrow (mrow M 54 r133) 55 r126) 74 (k_book_46 (M.1 74) (cN 8))) (Ps := []) (by decide +kernel) rfl rfl trivial ?_
        obtain ⟨k223, hk⟩ := hk
        refine G.mem (M' := mrow (mrow (mrow (mrow (mrow M 54 r133) 55 r126) 74 (k_book_46 (M.1 74) (cN 8))) 54 ((mrow (mrow (mrow M 54 r133) 55 r126) 74 (k_book_46 (M.1 74) (cN 8))).1 54)) 74 ((mrow (mrow (mrow M 54 r133) 55 r126) 74 (k_book_46 (M.1 74) (cN 8))).1 74)) (by simp only [mrow_self]) ?_
        refine lp_k_book_54_67 z d (mrow (mrow (mrow M 54 r133) 55 r126) 74 (k_book_46 (M.1 74) (cN 8))) Q FU (nI 0) ((mrow (mrow (mrow M 54 r133) 55 r126) 74 (k_book_46 (M.1 74) (cN 8))).1 54) ((mrow (mrow (mrow M 54 r133) 55 r126) 74 (k_book_46 (M.1 74) (cN 8))).1 74) (by first | (simp only [mput, mrow_same, mrow_hit, mrow_miss, mrow_sw, idr_eq, ne_eq, Nat.reduceEqDiff, not_false_eq_true, Nat.reduceLT, reduceCtorEq]; exact k223) | exact k223) ?_
        try simp only [mput, mrow_same, mrow_hit, mrow_miss, mrow_sw, idr_eq, ne_eq, Nat.reduceEqDiff, not_false_eq_true, Nat.reduceLT, reduceCtorEq]
        rcases g224 : k_book_67 (M.1 56) FU (nI 0) r133 (k_book_46 (M.1 74) (cN 8)) with ⟨v225, r226, r227⟩
        try simp only [g224] at hk
        show G z mX12_book (d + 2) 0 0 169 [some (.ref 54), none, some (.int v225), none, none, none] [] (mrow (mrow (mrow M 54 r226) 55 r126) 74 r227) Q
        refine G.sl [(.aload_n 0, 1, 0, 0, 0, 0), (.iload_n 2, 1, 2, 0, 0, 0)] [] (pc2 := 171) (ls2 := [some (.ref 54), none, some (.int v225), none, none, none]) (st2 := [.int v225, .ref 54]) (M2 := mrow (mrow (mrow M 54 r226) 55 r126) 74 r227) (Ps := []) (by decide +kernel) rfl rfl trivial ?_
        obtain ⟨k228, hk⟩ := hk
        rcases g229 : k_result r226 v225 with ⟨v230, r231⟩
        try simp only [g229] at hk
        have t232 : GM z mX12_result (d + 1) [.ref 54, .int v225] (mrow (mrow (mrow M 54 r226) 55 r126) 74 r227) (fun rs => rs = .inl (some (.int v230), mrow (mrow (mrow M 54 r231) 55 r126) 74 r227)) := by
          have q9 := c_k_result_54 z d (mrow (mrow (mrow M 54 r226) 55 r126) 74 r227) v225
          try simp only [mput, mrow_same, mrow_hit, mrow_miss, mrow_sw, idr_eq, ne_eq, Nat.reduceEqDiff, not_false_eq_true, Nat.reduceLT, reduceCtorEq, g229] at q9
          exact q9
        refine G.callV (as := [.int v225]) (rest := []) (a := 54) oX12_result lk_EvenFindersModel_242 (by decide +kernel) rfl rfl ⟨rfl, rfl⟩ (Nat.le_of_ble_eq_true rfl) rfl ⟨Nat.le_of_ble_eq_true rfl, Nat.le_of_ble_eq_true rfl⟩ t232 (fun v9 N9 h233 => ?_) (fun E9 N9 h233 => by cases h233)
        cases h233
        show G z mX12_book (d + 2) 0 0 174 [some (.ref 54), none, some (.int v225), none, none, none] [.int v230] (mrow (mrow (mrow M 54 r231) 55 r126) 74 r227) Q
        refine G.sl [(.istore_n 3, 1, 3, 0, 0, 0), (.aload_n 0, 1, 0, 0, 0, 0), (.getfield 101, 3, 11, 5, 128, 0), (.iconst (-1), 1, 0, 0, 0, (-1))] [] (pc2 := 180) (ls2 := [some (.ref 54), none, some (.int v225), some (.int v230), none, none]) (st2 := [.int ((-1)), .int (r231 5)]) (M2 := mrow (mrow (mrow M 54 r231) 55 r126) 74 r227) (Ps := []) (by decide +kernel) rfl rfl trivial ?_
        refine G.ic_eq (off := (5)) (tgt := 185) (by decide +kernel) rfl (fun c234 => ?_) (fun c234 => ?_)
        · skip
          rw [if_pos c234] at hk
          refine G.sl [(.aload_n 0, 1, 0, 0, 0, 0), (.iload_n 2, 1, 2, 0, 0, 0), (.putfield 175, 3, 11, 45, 168, 0), (.aload_n 0, 1, 0, 0, 0, 0), (.aload_n 0, 1, 0, 0, 0, 0), (.getfield 74, 3, 11, 43, 166, 0), (.aload_n 0, 1, 0, 0, 0, 0), (.getfield 77, 3, 11, 44, 167, 0), (.bipush 8, 2, 0, 0, 0, nI 8)] [] (pc2 := 201) (ls2 := [some (.ref 54), none, some (.int v225), some (.int v230), none, none]) (st2 := [.int (nI 8), .ref 75, .ref 74, .ref 54]) (M2 := mput (mrow (mrow (mrow M 54 r231) 55 r126) 74 r227) 54 45 v225) (Ps := []) (by decide +kernel) rfl rfl trivial ?_
          refine G.mem (M' := mrow (mrow (mrow M 54 (upd r231 45 v225)) 55 r126) 74 r227) (by first | rfl | (simp only [mput, mrow_same, mrow_hit, mrow_miss, mrow_sw, idr_eq, ne_eq, Nat.reduceEqDiff, not_false_eq_true, Nat.reduceLT, reduceCtorEq]; done)) ?_
          obtain ⟨k235, hk⟩ := hk
          rcases g236 : k_copies_L8_L8 r227 (M.1 75) 8 with ⟨u237, r238⟩
          have t239 : GM z mX12_copies (d + 1) [.ref 54, .ref 74, .ref 75, .int (nI 8)] (mrow (mrow (mrow M 54 (upd r231 45 v225)) 55 r126) 74 r227) (fun rs => rs = .inl (none, mrow (mrow (mrow (mrow M 54 (upd r231 45 v225)) 55 r126) 74 r227) 75 r238)) := by
            have q9 := c_k_copies_L8_L8_54_74_75 z (d + 1) (mrow (mrow (mrow M 54 (upd r231 45 v225)) 55 r126) 74 r227) 8 (by omega) k235
            try simp only [mput, mrow_same, mrow_hit, mrow_miss, mrow_sw, idr_eq, ne_eq, Nat.reduceEqDiff, not_false_eq_true, Nat.reduceLT, reduceCtorEq, g236] at q9
            exact q9
          refine G.callV (as := [.ref 74, .ref 75, .int (nI 8)]) (rest := []) (a := 54) oX12_copies lk_EvenFindersModel_168 (by decide +kernel) rfl rfl ⟨rfl, rfl⟩ (Nat.le_of_ble_eq_true rfl) rfl ⟨Nat.le_of_ble_eq_true rfl, Nat.le_of_ble_eq_true rfl⟩ t239 (fun v9 N9 h240 => ?_) (fun E9 N9 h240 => by cases h240)
          cases h240
          show G z mX12_book (d + 2) 0 0 204 [some (.ref 54), none, some (.int v225), some (.int v230), none, none] [] (mrow (mrow (mrow (mrow M 54 (upd r231 45 v225)) 55 r126) 74 r227) 75 r238) Q
          refine G.sl [(.iload_n 3, 1, 3, 0, 0, 0)] [] (pc2 := 205) (ls2 := [some (.ref 54), none, some (.int v225), some (.int v230), none, none]) (st2 := [.int v230]) (M2 := mrow (mrow (mrow (mrow M 54 (upd r231 45 v225)) 55 r126) 74 r227) 75 r238) (Ps := []) (by decide +kernel) rfl rfl trivial ?_
          exact G.reti (by decide +kernel) rfl rfl (Nat.le_of_ble_eq_true rfl) (Nat.le_of_ble_eq_true rfl) ((by rw [hQ]; simp only [k_book, if_neg c1, if_pos c121, g123, if_neg c129, g131, g224, g229, if_pos c234, g236, mrow_self]))
        · skip
          rw [if_neg c234] at hk
          refine G.sl [(.iload_n 3, 1, 3, 0, 0, 0)] [] (pc2 := 184) (ls2 := [some (.ref 54), none, some (.int v225), some (.int v230), none, none]) (st2 := [.int v230]) (M2 := mrow (mrow (mrow M 54 r231) 55 r126) 74 r227) (Ps := []) (by decide +kernel) rfl rfl trivial ?_
          refine G.mem (M' := mrow (mrow (mrow (mrow M 54 r231) 55 r126) 74 r227) 75 (M.1 75)) (((mrow_id (N := mrow (mrow (mrow M 54 r231) 55 r126) 74 r227) (c := 75) (f := M.1 75) (by first | rfl | (simp only [mput, mrow_same, mrow_hit, mrow_miss, mrow_sw, idr_eq, ne_eq, Nat.reduceEqDiff, not_false_eq_true, Nat.reduceLT, reduceCtorEq]; done))).symm).trans (by first | rfl | (simp only [mput, mrow_same, mrow_hit, mrow_miss, mrow_sw, idr_eq, ne_eq, Nat.reduceEqDiff, not_false_eq_true, Nat.reduceLT, reduceCtorEq]; done))) ?_
          exact G.reti (by decide +kernel) rfl rfl (Nat.le_of_ble_eq_true rfl) (Nat.le_of_ble_eq_true rfl) ((by rw [hQ]; simp only [k_book, if_neg c1, if_pos c121, g123, if_neg c129, g131, g224, g229, if_neg c234, mrow_self]))
      · skip
        rw [if_pos c129] at hk
        refine G.sl [(.iconst 0, 1, 0, 0, 0, nI 0)] [] (pc2 := 38) (ls2 := [some (.ref 54), some (.int x1), none, none, none, none]) (st2 := [.int (nI 0)]) (M2 := mrow (mrow M 54 r125) 55 r126) (Ps := []) (by decide +kernel) rfl rfl trivial ?_
        refine G.mem (M' := mrow (mrow (mrow (mrow M 54 r125) 55 r126) 74 (M.1 74)) 75 (M.1 75)) ((((mrow_id (N := mrow (mrow M 54 r125) 55 r126) (c := 74) (f := M.1 74) (by first | rfl | (simp only [mput, mrow_same, mrow_hit, mrow_miss, mrow_sw, idr_eq, ne_eq, Nat.reduceEqDiff, not_false_eq_true, Nat.reduceLT, reduceCtorEq]; done))).symm).trans (mrow_id (N := mrow (mrow (mrow M 54 r125) 55 r126) 74 (M.1 74)) (c := 75) (f := M.1 75) (by first | rfl | (simp only [mput, mrow_same, mrow_hit, mrow_miss, mrow_sw, idr_eq, ne_eq, Nat.reduceEqDiff, not_false_eq_true, Nat.reduceLT, reduceCtorEq]; done))).symm).trans (by first | rfl | (simp only [mput, mrow_same, mrow_hit, mrow_miss, mrow_sw, idr_eq, ne_eq, Nat.reduceEqDiff, not_false_eq_true, Nat.reduceLT, reduceCtorEq]; done))) ?_
        exact G.reti (by decide +kernel) rfl rfl (Nat.le_of_ble_eq_true rfl) (Nat.le_of_ble_eq_true rfl) ((by rw [hQ]; simp only [k_book, if_neg c1, if_pos c121, g123, if_pos c129, mrow_self]))
    · skip
      rw [if_neg c121] at hk
      refine G.sl [(.iload_n 1, 1, 1, 0, 0, 0), (.bipush 60, 2, 0, 0, 0, nI 60)] [] (pc2 := 21) (ls2 := [some (.ref 54), some (.int x1), none, none, none, none]) (st2 := [.int (nI 60), .int x1, .ref 54]) (M2 := mrow M 54 (upd (M.1 54) 0 (nI 0))) (Ps := []) (by decide +kernel) rfl rfl trivial ?_
      refine G.ic_gt (off := (7)) (tgt := 28) (by decide +kernel) rfl (fun c241 => ?_) (fun c241 => ?_)
      · skip
        rw [if_pos c241] at hk
        refine G.sl [(.iconst 0, 1, 0, 0, 0, nI 0), (.iconst 1, 1, 0, 0, 0, nI 1), (.iconst 1, 1, 0, 0, 0, nI 1)] [] (pc2 := 31) (ls2 := [some (.ref 54), some (.int x1), none, none, none, none]) (st2 := [.int (nI 1), .int (nI 1), .int (nI 0), .ref 54]) (M2 := mrow M 54 (upd (M.1 54) 0 (nI 0))) (Ps := []) (by decide +kernel) rfl rfl trivial ?_
        obtain ⟨k242, hk⟩ := hk
        rcases g243 : k_may_1 (upd (M.1 54) 0 (nI 0)) (M.1 55) (nI 0) (nI 1) with ⟨v244, r245, r246⟩
        try simp only [g243] at hk
        have ev244 : v244 = 0 ∨ v244 = 1 := by
          have q9 := k_may_1_01 (upd (M.1 54) 0 (nI 0)) (M.1 55) (nI 0) (nI 1)
          rw [g243] at q9
          exact q9
        have t247 : GM z mX12_may (d + 1) [.ref 54, .int (nI 0), .int (nI 1), .int (nI 1)] (mrow M 54 (upd (M.1 54) 0 (nI 0))) (fun rs => rs = .inl (some (.int v244), mrow (mrow M 54 r245) 55 r246)) := by
          have q9 := c_k_may_1_54 z (d + 1) (mrow M 54 (upd (M.1 54) 0 (nI 0))) (nI 0) (nI 1)
          try simp only [mput, mrow_same, mrow_hit, mrow_miss, mrow_sw, idr_eq, ne_eq, Nat.reduceEqDiff, not_false_eq_true, Nat.reduceLT, reduceCtorEq, g243] at q9
          exact q9
        refine G.callV (as := [.int (nI 0), .int (nI 1), .int (nI 1)]) (rest := []) (a := 54) oX12_may lk_EvenFindersModel_213 (by decide +kernel) rfl rfl ⟨rfl, rfl⟩ (Nat.le_of_ble_eq_true rfl) rfl ⟨Nat.le_of_ble_eq_true rfl, Nat.le_of_ble_eq_true rfl⟩ t247 (fun v9 N9 h248 => ?_) (fun E9 N9 h248 => by cases h248)
        cases h248
        show G z mX12_book (d + 2) 0 0 34 [some (.ref 54), some (.int x1), none, none, none, none] [.int v244] (mrow (mrow M 54 r245) 55 r246) Q
        refine G.if_ne (off := (5)) (tgt := 39) (by decide +kernel) rfl (fun c249 => ?_) (fun c249 => ?_)
        · skip
          rw [if_neg c249] at hk
          refine G.sl [(.aload_n 0, 1, 0, 0, 0, 0), (.iload_n 1, 1, 1, 0, 0, 0)] [] (pc2 := 41) (ls2 := [some (.ref 54), some (.int x1), none, none, none, none]) (st2 := [.int x1, .ref 54]) (M2 := mrow (mrow M 54 r245) 55 r246) (Ps := []) (by decide +kernel) rfl rfl trivial ?_
          obtain ⟨k250, hk⟩ := hk
          rcases g251 : k_begins r245 x1 with ⟨u252, r253⟩
          try simp only [g251] at hk
          have t254 : GM z mX12_begins (d + 1) [.ref 54, .int x1] (mrow (mrow M 54 r245) 55 r246) (fun rs => rs = .inl (none, mrow (mrow M 54 r253) 55 r246)) := by
            have q9 := c_k_begins_54 z (d + 1) (mrow (mrow M 54 r245) 55 r246) x1
            try simp only [mput, mrow_same, mrow_hit, mrow_miss, mrow_sw, idr_eq, ne_eq, Nat.reduceEqDiff, not_false_eq_true, Nat.reduceLT, reduceCtorEq, g251] at q9
            exact q9
          refine G.callV (as := [.int x1]) (rest := []) (a := 54) oX12_begins lk_EvenFindersModel_217 (by decide +kernel) rfl rfl ⟨rfl, rfl⟩ (Nat.le_of_ble_eq_true rfl) rfl ⟨Nat.le_of_ble_eq_true rfl, Nat.le_of_ble_eq_true rfl⟩ t254 (fun v9 N9 h255 => ?_) (fun E9 N9 h255 => by cases h255)
          cases h255
          show G z mX12_book (d + 2) 0 0 44 [some (.ref 54), some (.int x1), none, none, none, none] [] (mrow (mrow M 54 r253) 55 r246) Q
          refine G.sl [(.iconst 0, 1, 0, 0, 0, nI 0), (.istore_n 2, 1, 2, 0, 0, 0)] [] (pc2 := 46) (ls2 := [some (.ref 54), some (.int x1), some (.int (nI 0)), none, none, none]) (st2 := []) (M2 := mrow (mrow M 54 r253) 55 r246) (Ps := []) (by decide +kernel) rfl rfl trivial ?_
          refine G.loc (ls2 := [some (.ref 54), none, some (.int (nI 0)), none, none, none]) (by simp [subL]) ?_
          obtain ⟨k256, hk⟩ := hk
          refine lp_k_book_54_46 z d (mrow (mrow M 54 r253) 55 r246) Q (cN 8) (cN_eq 8) ?_
          try simp only [mput, mrow_same, mrow_hit, mrow_miss, mrow_sw, idr_eq, ne_eq, Nat.reduceEqDiff, not_false_eq_true, Nat.reduceLT, reduceCtorEq]
          show G z mX12_book (d + 2) 0 0 65 [some (.ref 54), none, none, none, none, none] [] (mrow (mrow (mrow M 54 r253) 55 r246) 74 (k_book_46 (M.1 74) (cN 8))) Q
          refine G.sl [(.iconst 0, 1, 0, 0, 0, nI 0), (.istore_n 2, 1, 2, 0, 0, 0)] [] (pc2 := 67) (ls2 := [some (.ref 54), none, some (.int (nI 0)), none, none, none]) (st2 := []) (M2 := mrow (mrow (mrow M 54 r253) 55 r246) 74 (k_book_46 (M.1 74) (cN 8))) (Ps := []) (by decide +kernel) rfl rfl trivial ?_
          obtain ⟨k343, hk⟩ := hk
          refine G.mem (M' := mrow (mrow (mrow (mrow (mrow M 54 r253) 55 r246) 74 (k_book_46 (M.1 74) (cN 8))) 54 ((mrow (mrow (mrow M 54 r253) 55 r246) 74 (k_book_46 (M.1 74) (cN 8))).1 54)) 74 ((mrow (mrow (mrow M 54 r253) 55 r246) 74 (k_book_46 (M.1 74) (cN 8))).1 74)) (by simp only [mrow_self]) ?_
          refine lp_k_book_54_67 z d (mrow (mrow (mrow M 54 r253) 55 r246) 74 (k_book_46 (M.1 74) (cN 8))) Q FU (nI 0) ((mrow (mrow (mrow M 54 r253) 55 r246) 74 (k_book_46 (M.1 74) (cN 8))).1 54) ((mrow (mrow (mrow M 54 r253) 55 r246) 74 (k_book_46 (M.1 74) (cN 8))).1 74) (by first | (simp only [mput, mrow_same, mrow_hit, mrow_miss, mrow_sw, idr_eq, ne_eq, Nat.reduceEqDiff, not_false_eq_true, Nat.reduceLT, reduceCtorEq]; exact k343) | exact k343) ?_
          try simp only [mput, mrow_same, mrow_hit, mrow_miss, mrow_sw, idr_eq, ne_eq, Nat.reduceEqDiff, not_false_eq_true, Nat.reduceLT, reduceCtorEq]
          rcases g344 : k_book_67 (M.1 56) FU (nI 0) r253 (k_book_46 (M.1 74) (cN 8)) with ⟨v345, r346, r347⟩
          try simp only [g344] at hk
          show G z mX12_book (d + 2) 0 0 169 [some (.ref 54), none, some (.int v345), none, none, none] [] (mrow (mrow (mrow M 54 r346) 55 r246) 74 r347) Q
          refine G.sl [(.aload_n 0, 1, 0, 0, 0, 0), (.iload_n 2, 1, 2, 0, 0, 0)] [] (pc2 := 171) (ls2 := [some (.ref 54), none, some (.int v345), none, none, none]) (st2 := [.int v345, .ref 54]) (M2 := mrow (mrow (mrow M 54 r346) 55 r246) 74 r347) (Ps := []) (by decide +kernel) rfl rfl trivial ?_
          obtain ⟨k348, hk⟩ := hk
          rcases g349 : k_result r346 v345 with ⟨v350, r351⟩
          try simp only [g349] at hk
          have t352 : GM z mX12_result (d + 1) [.ref 54, .int v345] (mrow (mrow (mrow M 54 r346) 55 r246) 74 r347) (fun rs => rs = .inl (some (.int v350), mrow (mrow (mrow M 54 r351) 55 r246) 74 r347)) := by
            have q9 := c_k_result_54 z d (mrow (mrow (mrow M 54 r346) 55 r246) 74 r347) v345
            try simp only [mput, mrow_same, mrow_hit, mrow_miss, mrow_sw, idr_eq, ne_eq, Nat.reduceEqDiff, not_false_eq_true, Nat.reduceLT, reduceCtorEq, g349] at q9
            exact q9
          refine G.callV (as := [.int v345]) (rest := []) (a := 54) oX12_result lk_EvenFindersModel_242 (by decide +kernel) rfl rfl ⟨rfl, rfl⟩ (Nat.le_of_ble_eq_true rfl) rfl ⟨Nat.le_of_ble_eq_true rfl, Nat.le_of_ble_eq_true rfl⟩ t352 (fun v9 N9 h353 => ?_) (fun E9 N9 h353 => by cases h353)
          cases h353
          show G z mX12_book (d + 2) 0 0 174 [some (.ref 54), none, some (.int v345), none, none, none] [.int v350] (mrow (mrow (mrow M 54 r351) 55 r246) 74 r347) Q
          refine G.sl [(.istore_n 3, 1, 3, 0, 0, 0), (.aload_n 0, 1, 0, 0, 0, 0), (.getfield 101, 3, 11, 5, 128, 0), (.iconst (-1), 1, 0, 0, 0, (-1))] [] (pc2 := 180) (ls2 := [some (.ref 54), none, some (.int v345), some (.int v350), none, none]) (st2 := [.int ((-1)), .int (r351 5)]) (M2 := mrow (mrow (mrow M 54 r351) 55 r246) 74 r347) (Ps := []) (by decide +kernel) rfl rfl trivial ?_
          refine G.ic_eq (off := (5)) (tgt := 185) (by decide +kernel) rfl (fun c354 => ?_) (fun c354 => ?_)
          · skip
            rw [if_pos c354] at hk
            refine G.sl [(.aload_n 0, 1, 0, 0, 0, 0), (.iload_n 2, 1, 2, 0, 0, 0), (.putfield 175, 3, 11, 45, 168, 0), (.aload_n 0, 1, 0, 0, 0, 0), (.aload_n 0, 1, 0, 0, 0, 0), (.getfield 74, 3, 11, 43, 166, 0), (.aload_n 0, 1, 0, 0, 0, 0), (.getfield 77, 3, 11, 44, 167, 0), (.bipush 8, 2, 0, 0, 0, nI 8)] [] (pc2 := 201) (ls2 := [some (.ref 54), none, some (.int v345), some (.int v350), none, none]) (st2 := [.int (nI 8), .ref 75, .ref 74, .ref 54]) (M2 := mput (mrow (mrow (mrow M 54 r351) 55 r246) 74 r347) 54 45 v345) (Ps := []) (by decide +kernel) rfl rfl trivial ?_
            refine G.mem (M' := mrow (mrow (mrow M 54 (upd r351 45 v345)) 55 r246) 74 r347) (by first | rfl | (simp only [mput, mrow_same, mrow_hit, mrow_miss, mrow_sw, idr_eq, ne_eq, Nat.reduceEqDiff, not_false_eq_true, Nat.reduceLT, reduceCtorEq]; done)) ?_
            obtain ⟨k355, hk⟩ := hk
            rcases g356 : k_copies_L8_L8 r347 (M.1 75) 8 with ⟨u357, r358⟩
            have t359 : GM z mX12_copies (d + 1) [.ref 54, .ref 74, .ref 75, .int (nI 8)] (mrow (mrow (mrow M 54 (upd r351 45 v345)) 55 r246) 74 r347) (fun rs => rs = .inl (none, mrow (mrow (mrow (mrow M 54 (upd r351 45 v345)) 55 r246) 74 r347) 75 r358)) := by
              have q9 := c_k_copies_L8_L8_54_74_75 z (d + 1) (mrow (mrow (mrow M 54 (upd r351 45 v345)) 55 r246) 74 r347) 8 (by omega) k355
              try simp only [mput, mrow_same, mrow_hit, mrow_miss, mrow_sw, idr_eq, ne_eq, Nat.reduceEqDiff, not_false_eq_true, Nat.reduceLT, reduceCtorEq, g356] at q9
              exact q9
            refine G.callV (as := [.ref 74, .ref 75, .int (nI 8)]) (rest := []) (a := 54) oX12_copies lk_EvenFindersModel_168 (by decide +kernel) rfl rfl ⟨rfl, rfl⟩ (Nat.le_of_ble_eq_true rfl) rfl ⟨Nat.le_of_ble_eq_true rfl, Nat.le_of_ble_eq_true rfl⟩ t359 (fun v9 N9 h360 => ?_) (fun E9 N9 h360 => by cases h360)
            cases h360
            show G z mX12_book (d + 2) 0 0 204 [some (.ref 54), none, some (.int v345), some (.int v350), none, none] [] (mrow (mrow (mrow (mrow M 54 (upd r351 45 v345)) 55 r246) 74 r347) 75 r358) Q
            refine G.sl [(.iload_n 3, 1, 3, 0, 0, 0)] [] (pc2 := 205) (ls2 := [some (.ref 54), none, some (.int v345), some (.int v350), none, none]) (st2 := [.int v350]) (M2 := mrow (mrow (mrow (mrow M 54 (upd r351 45 v345)) 55 r246) 74 r347) 75 r358) (Ps := []) (by decide +kernel) rfl rfl trivial ?_
            exact G.reti (by decide +kernel) rfl rfl (Nat.le_of_ble_eq_true rfl) (Nat.le_of_ble_eq_true rfl) ((by rw [hQ]; simp only [k_book, if_neg c1, if_neg c121, if_pos c241, g243, if_neg c249, g251, g344, g349, if_pos c354, g356, mrow_self]))
          · skip
            rw [if_neg c354] at hk
            refine G.sl [(.iload_n 3, 1, 3, 0, 0, 0)] [] (pc2 := 184) (ls2 := [some (.ref 54), none, some (.int v345), some (.int v350), none, none]) (st2 := [.int v350]) (M2 := mrow (mrow (mrow M 54 r351) 55 r246) 74 r347) (Ps := []) (by decide +kernel) rfl rfl trivial ?_
            refine G.mem (M' := mrow (mrow (mrow (mrow M 54 r351) 55 r246) 74 r347) 75 (M.1 75)) (((mrow_id (N := mrow (mrow (mrow M 54 r351) 55 r246) 74 r347) (c := 75) (f := M.1 75) (by first | rfl | (simp only [mput, mrow_same, mrow_hit, mrow_miss, mrow_sw, idr_eq, ne_eq, Nat.reduceEqDiff, not_false_eq_true, Nat.reduceLT, reduceCtorEq]; done))).symm).trans (by first | rfl | (simp only [mput, mrow_same, mrow_hit, mrow_miss, mrow_sw, idr_eq, ne_eq, Nat.reduceEqDiff, not_false_eq_true, Nat.reduceLT, reduceCtorEq]; done))) ?_
            exact G.reti (by decide +kernel) rfl rfl (Nat.le_of_ble_eq_true rfl) (Nat.le_of_ble_eq_true rfl) ((by rw [hQ]; simp only [k_book, if_neg c1, if_neg c121, if_pos c241, g243, if_neg c249, g251, g344, g349, if_neg c354, mrow_self]))
        · skip
          rw [if_pos c249] at hk
          refine G.sl [(.iconst 0, 1, 0, 0, 0, nI 0)] [] (pc2 := 38) (ls2 := [some (.ref 54), some (.int x1), none, none, none, none]) (st2 := [.int (nI 0)]) (M2 := mrow (mrow M 54 r245) 55 r246) (Ps := []) (by decide +kernel) rfl rfl trivial ?_
          refine G.mem (M' := mrow (mrow (mrow (mrow M 54 r245) 55 r246) 74 (M.1 74)) 75 (M.1 75)) ((((mrow_id (N := mrow (mrow M 54 r245) 55 r246) (c := 74) (f := M.1 74) (by first | rfl | (simp only [mput, mrow_same, mrow_hit, mrow_miss, mrow_sw, idr_eq, ne_eq, Nat.reduceEqDiff, not_false_eq_true, Nat.reduceLT, reduceCtorEq]; done))).symm).trans (mrow_id (N := mrow (mrow (mrow M 54 r245) 55 r246) 74 (M.1 74)) (c := 75) (f := M.1 75) (by first | rfl | (simp only [mput, mrow_same, mrow_hit, mrow_miss, mrow_sw, idr_eq, ne_eq, Nat.reduceEqDiff, not_false_eq_true, Nat.reduceLT, reduceCtorEq]; done))).symm).trans (by first | rfl | (simp only [mput, mrow_same, mrow_hit, mrow_miss, mrow_sw, idr_eq, ne_eq, Nat.reduceEqDiff, not_false_eq_true, Nat.reduceLT, reduceCtorEq]; done))) ?_
          exact G.reti (by decide +kernel) rfl rfl (Nat.le_of_ble_eq_true rfl) (Nat.le_of_ble_eq_true rfl) ((by rw [hQ]; simp only [k_book, if_neg c1, if_neg c121, if_pos c241, g243, if_pos c249, mrow_self]))
      · skip
        rw [if_neg c241] at hk
        refine G.sl [(.iconst 1, 1, 0, 0, 0, nI 1), (.goto 4, 3, 29, 0, 0, 0), (.iconst 1, 1, 0, 0, 0, nI 1), (.iconst 1, 1, 0, 0, 0, nI 1)] [] (pc2 := 31) (ls2 := [some (.ref 54), some (.int x1), none, none, none, none]) (st2 := [.int (nI 1), .int (nI 1), .int (nI 1), .ref 54]) (M2 := mrow M 54 (upd (M.1 54) 0 (nI 0))) (Ps := []) (by decide +kernel) rfl rfl trivial ?_
        obtain ⟨k361, hk⟩ := hk
        rcases g362 : k_may_1 (upd (M.1 54) 0 (nI 0)) (M.1 55) (nI 1) (nI 1) with ⟨v363, r364, r365⟩
        try simp only [g362] at hk
        have ev363 : v363 = 0 ∨ v363 = 1 := by
          have q9 := k_may_1_01 (upd (M.1 54) 0 (nI 0)) (M.1 55) (nI 1) (nI 1)
          rw [g362] at q9
          exact q9
        have t366 : GM z mX12_may (d + 1) [.ref 54, .int (nI 1), .int (nI 1), .int (nI 1)] (mrow M 54 (upd (M.1 54) 0 (nI 0))) (fun rs => rs = .inl (some (.int v363), mrow (mrow M 54 r364) 55 r365)) := by
          have q9 := c_k_may_1_54 z (d + 1) (mrow M 54 (upd (M.1 54) 0 (nI 0))) (nI 1) (nI 1)
          try simp only [mput, mrow_same, mrow_hit, mrow_miss, mrow_sw, idr_eq, ne_eq, Nat.reduceEqDiff, not_false_eq_true, Nat.reduceLT, reduceCtorEq, g362] at q9
          exact q9
        refine G.callV (as := [.int (nI 1), .int (nI 1), .int (nI 1)]) (rest := []) (a := 54) oX12_may lk_EvenFindersModel_213 (by decide +kernel) rfl rfl ⟨rfl, rfl⟩ (Nat.le_of_ble_eq_true rfl) rfl ⟨Nat.le_of_ble_eq_true rfl, Nat.le_of_ble_eq_true rfl⟩ t366 (fun v9 N9 h367 => ?_) (fun E9 N9 h367 => by cases h367)
        cases h367
        show G z mX12_book (d + 2) 0 0 34 [some (.ref 54), some (.int x1), none, none, none, none] [.int v363] (mrow (mrow M 54 r364) 55 r365) Q
        refine G.if_ne (off := (5)) (tgt := 39) (by decide +kernel) rfl (fun c368 => ?_) (fun c368 => ?_)
        · skip
          rw [if_neg c368] at hk
          refine G.sl [(.aload_n 0, 1, 0, 0, 0, 0), (.iload_n 1, 1, 1, 0, 0, 0)] [] (pc2 := 41) (ls2 := [some (.ref 54), some (.int x1), none, none, none, none]) (st2 := [.int x1, .ref 54]) (M2 := mrow (mrow M 54 r364) 55 r365) (Ps := []) (by decide +kernel) rfl rfl trivial ?_
          obtain ⟨k369, hk⟩ := hk
          rcases g370 : k_begins r364 x1 with ⟨u371, r372⟩
          try simp only [g370] at hk
          have t373 : GM z mX12_begins (d + 1) [.ref 54, .int x1] (mrow (mrow M 54 r364) 55 r365) (fun rs => rs = .inl (none, mrow (mrow M 54 r372) 55 r365)) := by
            have q9 := c_k_begins_54 z (d + 1) (mrow (mrow M 54 r364) 55 r365) x1
            try simp only [mput, mrow_same, mrow_hit, mrow_miss, mrow_sw, idr_eq, ne_eq, Nat.reduceEqDiff, not_false_eq_true, Nat.reduceLT, reduceCtorEq, g370] at q9
            exact q9
          refine G.callV (as := [.int x1]) (rest := []) (a := 54) oX12_begins lk_EvenFindersModel_217 (by decide +kernel) rfl rfl ⟨rfl, rfl⟩ (Nat.le_of_ble_eq_true rfl) rfl ⟨Nat.le_of_ble_eq_true rfl, Nat.le_of_ble_eq_true rfl⟩ t373 (fun v9 N9 h374 => ?_) (fun E9 N9 h374 => by cases h374)
          cases h374
          show G z mX12_book (d + 2) 0 0 44 [some (.ref 54), some (.int x1), none, none, none, none] [] (mrow (mrow M 54 r372) 55 r365) Q
          refine G.sl [(.iconst 0, 1, 0, 0, 0, nI 0), (.istore_n 2, 1, 2, 0, 0, 0)] [] (pc2 := 46) (ls2 := [some (.ref 54), some (.int x1), some (.int (nI 0)), none, none, none]) (st2 := []) (M2 := mrow (mrow M 54 r372) 55 r365) (Ps := []) (by decide +kernel) rfl rfl trivial ?_
          refine G.loc (ls2 := [some (.ref 54), none, some (.int (nI 0)), none, none, none]) (by simp [subL]) ?_
          obtain ⟨k375, hk⟩ := hk
          refine lp_k_book_54_46 z d (mrow (mrow M 54 r372) 55 r365) Q (cN 8) (cN_eq 8) ?_
          try simp only [mput, mrow_same, mrow_hit, mrow_miss, mrow_sw, idr_eq, ne_eq, Nat.reduceEqDiff, not_false_eq_true, Nat.reduceLT, reduceCtorEq]
          show G z mX12_book (d + 2) 0 0 65 [some (.ref 54), none, none, none, none, none] [] (mrow (mrow (mrow M 54 r372) 55 r365) 74 (k_book_46 (M.1 74) (cN 8))) Q
          refine G.sl [(.iconst 0, 1, 0, 0, 0, nI 0), (.istore_n 2, 1, 2, 0, 0, 0)] [] (pc2 := 67) (ls2 := [some (.ref 54), none, some (.int (nI 0)), none, none, none]) (st2 := []) (M2 := mrow (mrow (mrow M 54 r372) 55 r365) 74 (k_book_46 (M.1 74) (cN 8))) (Ps := []) (by decide +kernel) rfl rfl trivial ?_
          obtain ⟨k462, hk⟩ := hk
          refine G.mem (M' := mrow (mrow (mrow (mrow (mrow M 54 r372) 55 r365) 74 (k_book_46 (M.1 74) (cN 8))) 54 ((mrow (mrow (mrow M 54 r372) 55 r365) 74 (k_book_46 (M.1 74) (cN 8))).1 54)) 74 ((mrow (mrow (mrow M 54 r372) 55 r365) 74 (k_book_46 (M.1 74) (cN 8))).1 74)) (by simp only [mrow_self]) ?_
          refine lp_k_book_54_67 z d (mrow (mrow (mrow M 54 r372) 55 r365) 74 (k_book_46 (M.1 74) (cN 8))) Q FU (nI 0) ((mrow (mrow (mrow M 54 r372) 55 r365) 74 (k_book_46 (M.1 74) (cN 8))).1 54) ((mrow (mrow (mrow M 54 r372) 55 r365) 74 (k_book_46 (M.1 74) (cN 8))).1 74) (by first | (simp only [mput, mrow_same, mrow_hit, mrow_miss, mrow_sw, idr_eq, ne_eq, Nat.reduceEqDiff, not_false_eq_true, Nat.reduceLT, reduceCtorEq]; exact k462) | exact k462) ?_
          try simp only [mput, mrow_same, mrow_hit, mrow_miss, mrow_sw, idr_eq, ne_eq, Nat.reduceEqDiff, not_false_eq_true, Nat.reduceLT, reduceCtorEq]
          rcases g463 : k_book_67 (M.1 56) FU (nI 0) r372 (k_book_46 (M.1 74) (cN 8)) with ⟨v464, r465, r466⟩
          try simp only [g463] at hk
          show G z mX12_book (d + 2) 0 0 169 [some (.ref 54), none, some (.int v464), none, none, none] [] (mrow (mrow (mrow M 54 r465) 55 r365) 74 r466) Q
          refine G.sl [(.aload_n 0, 1, 0, 0, 0, 0), (.iload_n 2, 1, 2, 0, 0, 0)] [] (pc2 := 171) (ls2 := [some (.ref 54), none, some (.int v464), none, none, none]) (st2 := [.int v464, .ref 54]) (M2 := mrow (mrow (mrow M 54 r465) 55 r365) 74 r466) (Ps := []) (by decide +kernel) rfl rfl trivial ?_
          obtain ⟨k467, hk⟩ := hk
          rcases g468 : k_result r465 v464 with ⟨v469, r470⟩
          try simp only [g468] at hk
          have t471 : GM z mX12_result (d + 1) [.ref 54, .int v464] (mrow (mrow (mrow M 54 r465) 55 r365) 74 r466) (fun rs => rs = .inl (some (.int v469), mrow (mrow (mrow M 54 r470) 55 r365) 74 r466)) := by
            have q9 := c_k_result_54 z d (mrow (mrow (mrow M 54 r465) 55 r365) 74 r466) v464
            try simp only [mput, mrow_same, mrow_hit, mrow_miss, mrow_sw, idr_eq, ne_eq, Nat.reduceEqDiff, not_false_eq_true, Nat.reduceLT, reduceCtorEq, g468] at q9
            exact q9
          refine G.callV (as := [.int v464]) (rest := []) (a := 54) oX12_result lk_EvenFindersModel_242 (by decide +kernel) rfl rfl ⟨rfl, rfl⟩ (Nat.le_of_ble_eq_true rfl) rfl ⟨Nat.le_of_ble_eq_true rfl, Nat.le_of_ble_eq_true rfl⟩ t471 (fun v9 N9 h472 => ?_) (fun E9 N9 h472 => by cases h472)
          cases h472
          show G z mX12_book (d + 2) 0 0 174 [some (.ref 54), none, some (.int v464), none, none, none] [.int v469] (mrow (mrow (mrow M 54 r470) 55 r365) 74 r466) Q
          refine G.sl [(.istore_n 3, 1, 3, 0, 0, 0), (.aload_n 0, 1, 0, 0, 0, 0), (.getfield 101, 3, 11, 5, 128, 0), (.iconst (-1), 1, 0, 0, 0, (-1))] [] (pc2 := 180) (ls2 := [some (.ref 54), none, some (.int v464), some (.int v469), none, none]) (st2 := [.int ((-1)), .int (r470 5)]) (M2 := mrow (mrow (mrow M 54 r470) 55 r365) 74 r466) (Ps := []) (by decide +kernel) rfl rfl trivial ?_
          refine G.ic_eq (off := (5)) (tgt := 185) (by decide +kernel) rfl (fun c473 => ?_) (fun c473 => ?_)
          · skip
            rw [if_pos c473] at hk
            refine G.sl [(.aload_n 0, 1, 0, 0, 0, 0), (.iload_n 2, 1, 2, 0, 0, 0), (.putfield 175, 3, 11, 45, 168, 0), (.aload_n 0, 1, 0, 0, 0, 0), (.aload_n 0, 1, 0, 0, 0, 0), (.getfield 74, 3, 11, 43, 166, 0), (.aload_n 0, 1, 0, 0, 0, 0), (.getfield 77, 3, 11, 44, 167, 0), (.bipush 8, 2, 0, 0, 0, nI 8)] [] (pc2 := 201) (ls2 := [some (.ref 54), none, some (.int v464), some (.int v469), none, none]) (st2 := [.int (nI 8), .ref 75, .ref 74, .ref 54]) (M2 := mput (mrow (mrow (mrow M 54 r470) 55 r365) 74 r466) 54 45 v464) (Ps := []) (by decide +kernel) rfl rfl trivial ?_
            refine G.mem (M' := mrow (mrow (mrow M 54 (upd r470 45 v464)) 55 r365) 74 r466) (by first | rfl | (simp only [mput, mrow_same, mrow_hit, mrow_miss, mrow_sw, idr_eq, ne_eq, Nat.reduceEqDiff, not_false_eq_true, Nat.reduceLT, reduceCtorEq]; done)) ?_
            obtain ⟨k474, hk⟩ := hk
            rcases g475 : k_copies_L8_L8 r466 (M.1 75) 8 with ⟨u476, r477⟩
            have t478 : GM z mX12_copies (d + 1) [.ref 54, .ref 74, .ref 75, .int (nI 8)] (mrow (mrow (mrow M 54 (upd r470 45 v464)) 55 r365) 74 r466) (fun rs => rs = .inl (none, mrow (mrow (mrow (mrow M 54 (upd r470 45 v464)) 55 r365) 74 r466) 75 r477)) := by
              have q9 := c_k_copies_L8_L8_54_74_75 z (d + 1) (mrow (mrow (mrow M 54 (upd r470 45 v464)) 55 r365) 74 r466) 8 (by omega) k474
              try simp only [mput, mrow_same, mrow_hit, mrow_miss, mrow_sw, idr_eq, ne_eq, Nat.reduceEqDiff, not_false_eq_true, Nat.reduceLT, reduceCtorEq, g475] at q9
              exact q9
            refine G.callV (as := [.ref 74, .ref 75, .int (nI 8)]) (rest := []) (a := 54) oX12_copies lk_EvenFindersModel_168 (by decide +kernel) rfl rfl ⟨rfl, rfl⟩ (Nat.le_of_ble_eq_true rfl) rfl ⟨Nat.le_of_ble_eq_true rfl, Nat.le_of_ble_eq_true rfl⟩ t478 (fun v9 N9 h479 => ?_) (fun E9 N9 h479 => by cases h479)
            cases h479
            show G z mX12_book (d + 2) 0 0 204 [some (.ref 54), none, some (.int v464), some (.int v469), none, none] [] (mrow (mrow (mrow (mrow M 54 (upd r470 45 v464)) 55 r365) 74 r466) 75 r477) Q
            refine G.sl [(.iload_n 3, 1, 3, 0, 0, 0)] [] (pc2 := 205) (ls2 := [some (.ref 54), none, some (.int v464), some (.int v469), none, none]) (st2 := [.int v469]) (M2 := mrow (mrow (mrow (mrow M 54 (upd r470 45 v464)) 55 r365) 74 r466) 75 r477) (Ps := []) (by decide +kernel) rfl rfl trivial ?_
            exact G.reti (by decide +kernel) rfl rfl (Nat.le_of_ble_eq_true rfl) (Nat.le_of_ble_eq_true rfl) ((by rw [hQ]; simp only [k_book, if_neg c1, if_neg c121, if_neg c241, g362, if_neg c368, g370, g463, g468, if_pos c473, g475, mrow_self]))
          · skip
            rw [if_neg c473] at hk
            refine G.sl [(.iload_n 3, 1, 3, 0, 0, 0)] [] (pc2 := 184) (ls2 := [some (.ref 54), none, some (.int v464), some (.int v469), none, none]) (st2 := [.int v469]) (M2 := mrow (mrow (mrow M 54 r470) 55 r365) 74 r466) (Ps := []) (by decide +kernel) rfl rfl trivial ?_
            refine G.mem (M' := mrow (mrow (mrow (mrow M 54 r470) 55 r365) 74 r466) 75 (M.1 75)) (((mrow_id (N := mrow (mrow (mrow M 54 r470) 55 r365) 74 r466) (c := 75) (f := M.1 75) (by first | rfl | (simp only [mput, mrow_same, mrow_hit, mrow_miss, mrow_sw, idr_eq, ne_eq, Nat.reduceEqDiff, not_false_eq_true, Nat.reduceLT, reduceCtorEq]; done))).symm).trans (by first | rfl | (simp only [mput, mrow_same, mrow_hit, mrow_miss, mrow_sw, idr_eq, ne_eq, Nat.reduceEqDiff, not_false_eq_true, Nat.reduceLT, reduceCtorEq]; done))) ?_
            exact G.reti (by decide +kernel) rfl rfl (Nat.le_of_ble_eq_true rfl) (Nat.le_of_ble_eq_true rfl) ((by rw [hQ]; simp only [k_book, if_neg c1, if_neg c121, if_neg c241, g362, if_neg c368, g370, g463, g468, if_neg c473, mrow_self]))
        · skip
          rw [if_pos c368] at hk
          refine G.sl [(.iconst 0, 1, 0, 0, 0, nI 0)] [] (pc2 := 38) (ls2 := [some (.ref 54), some (.int x1), none, none, none, none]) (st2 := [.int (nI 0)]) (M2 := mrow (mrow M 54 r364) 55 r365) (Ps := []) (by decide +kernel) rfl rfl trivial ?_
          refine G.mem (M' := mrow (mrow (mrow (mrow M 54 r364) 55 r365) 74 (M.1 74)) 75 (M.1 75)) ((((mrow_id (N := mrow (mrow M 54 r364) 55 r365) (c := 74) (f := M.1 74) (by first | rfl | (simp only [mput, mrow_same, mrow_hit, mrow_miss, mrow_sw, idr_eq, ne_eq, Nat.reduceEqDiff, not_false_eq_true, Nat.reduceLT, reduceCtorEq]; done))).symm).trans (mrow_id (N := mrow (mrow (mrow M 54 r364) 55 r365) 74 (M.1 74)) (c := 75) (f := M.1 75) (by first | rfl | (simp only [mput, mrow_same, mrow_hit, mrow_miss, mrow_sw, idr_eq, ne_eq, Nat.reduceEqDiff, not_false_eq_true, Nat.reduceLT, reduceCtorEq]; done))).symm).trans (by first | rfl | (simp only [mput, mrow_same, mrow_hit, mrow_miss, mrow_sw, idr_eq, ne_eq, Nat.reduceEqDiff, not_false_eq_true, Nat.reduceLT, reduceCtorEq]; done))) ?_
          exact G.reti (by decide +kernel) rfl rfl (Nat.le_of_ble_eq_true rfl) (Nat.le_of_ble_eq_true rfl) ((by rw [hQ]; simp only [k_book, if_neg c1, if_neg c121, if_neg c241, g362, if_pos c368, mrow_self]))
