set_option maxHeartbeats 4000000 in
set_option maxRecDepth 3000 in
theorem lp_k_keepsRow_1_L51_54_71_3 (z : Zp) (d : Nat) (M : Mem) (Q : Rs → Prop) (n1 : Nat) (n3 : Nat) (b1 : n1 < 3000) (b3 : n3 < 3000) (hk : ∀ i5, i5 < n3 → k_keepsRow_1_L51_3_ok (M.1 71) (M.1 79) n1 n3 i5) (hX : G z mX12_keepsRow (d) 0 0 49 [none, some (.int (nI n1)), none, some (.int (nI n3)), none, none] [] (mrow (mrow M 71 ((k_keepsRow_1_L51_3 (M.1 71) (M.1 79) n1 n3 n3).1)) 79 ((k_keepsRow_1_L51_3 (M.1 71) (M.1 79) n1 n3 n3).2)) Q) : G z mX12_keepsRow (d) 0 0 3 [some (.ref 54), some (.int (nI n1)), some (.ref 71), some (.int (nI n3)), some (.int (nI 1)), some (.int (nI 0))] [] M Q := by
  refine G.mem (M' := mrow (mrow M 71 (M.1 71)) 79 (M.1 79)) (by simp only [mrow_self]) ?_
  refine down (n := n3) (P := fun i5 => G z mX12_keepsRow (d) 0 0 3 [some (.ref 54), some (.int (nI n1)), some (.ref 71), some (.int (nI n3)), some (.int (nI 1)), some (.int (nI i5))] [] (mrow (mrow M 71 ((k_keepsRow_1_L51_3 (M.1 71) (M.1 79) n1 n3 i5).1)) 79 ((k_keepsRow_1_L51_3 (M.1 71) (M.1 79) n1 n3 i5).2)) Q) ?_ ?_ 0 (Nat.zero_le _)
  · skip
    refine G.sl [(.iload 5, 2, 5, 0, 0, 0), (.iload_n 3, 1, 3, 0, 0, 0)] [] (pc2 := 6) (ls2 := [some (.ref 54), some (.int (nI n1)), some (.ref 71), some (.int (nI n3)), some (.int (nI 1)), some (.int (nI n3))]) (st2 := [.int (nI n3), .int (nI n3)]) (M2 := mrow (mrow M 71 ((k_keepsRow_1_L51_3 (M.1 71) (M.1 79) n1 n3 n3).1)) 79 ((k_keepsRow_1_L51_3 (M.1 71) (M.1 79) n1 n3 n3).2)) (Ps := []) (by decide +kernel) rfl rfl trivial ?_
    refine G.ic_ge (off := (43)) (tgt := 49) (by decide +kernel) rfl (fun _ => ?_) (fun h9 => absurd (nI_le (by omega) (by omega)) h9)
    refine G.loc (ls2 := [none, some (.int (nI n1)), none, some (.int (nI n3)), none, none]) (by simp [subL]) ?_
    exact hX
  · skip
    intro i5 hi ih
    have hk := hk i5 hi
    simp only [k_keepsRow_1_L51_3_ok] at hk
    rcases g1 : k_keepsRow_1_L51_3 (M.1 71) (M.1 79) n1 n3 i5 with ⟨q71, q79⟩
    try simp only [g1] at hk
    try simp only [g1]
    show G z mX12_keepsRow (d) 0 0 3 [some (.ref 54), some (.int (nI n1)), some (.ref 71), some (.int (nI n3)), some (.int (nI 1)), some (.int (nI i5))] [] (mrow (mrow M 71 q71) 79 q79) Q
    refine G.sl [(.iload 5, 2, 5, 0, 0, 0), (.iload_n 3, 1, 3, 0, 0, 0)] [] (pc2 := 6) (ls2 := [some (.ref 54), some (.int (nI n1)), some (.ref 71), some (.int (nI n3)), some (.int (nI 1)), some (.int (nI i5))]) (st2 := [.int (nI n3), .int (nI i5)]) (M2 := mrow (mrow M 71 q71) 79 q79) (Ps := []) (by decide +kernel) rfl rfl trivial ?_
    refine G.ic_ge (off := (43)) (tgt := 49) (by decide +kernel) rfl (fun h9 => absurd h9 (nI_ge (by omega) (by omega))) (fun _ => ?_)
    refine G.sl [(.iload 4, 2, 4, 0, 0, 0)] [] (pc2 := 11) (ls2 := [some (.ref 54), some (.int (nI n1)), some (.ref 71), some (.int (nI n3)), some (.int (nI 1)), some (.int (nI i5))]) (st2 := [.int (nI 1)]) (M2 := mrow (mrow M 71 q71) 79 q79) (Ps := []) (by decide +kernel) rfl rfl trivial ?_
    refine G.if_eq (off := (19)) (tgt := 30) (by decide +kernel) rfl (fun h9 => absurd h9 (by decide)) (fun _ => ?_)
    obtain ⟨k2, k3, hk⟩ := hk
    refine G.sl [(.aload_n 0, 1, 0, 0, 0, 0), (.getfield 89, 3, 11, 50, 173, 0), (.iload_n 1, 1, 1, 0, 0, 0), (.iload 5, 2, 5, 0, 0, 0), (.iadd, 1, 0, 0, 0, 0), (.aload_n 2, 1, 2, 0, 0, 0), (.iload 5, 2, 5, 0, 0, 0), (.iaload, 1, 0, 0, 0, 0), (.iastore, 1, 0, 0, 0, 0), (.goto 16, 3, 43, 0, 0, 0), (.iinc 5 1, 3, 5, 0, 0, nI 1), (.goto (-43), 3, 3, 0, 0, 0)] [i5, n1 + i5] (pc2 := 3) (ls2 := [some (.ref 54), some (.int (nI n1)), some (.ref 71), some (.int (nI n3)), some (.int (nI 1)), some (.int ((nI i5) + nI 1))]) (st2 := []) (M2 := mput (mrow (mrow M 71 q71) 79 q79) 79 (n1 + i5) (q71 i5)) (Ps := [(nI i5) = nI i5 ∧ i5 < 51, ((nI n1) + (nI i5)) = nI (n1 + i5) ∧ (n1 + i5) < 2604]) (by decide +kernel) rfl rfl ⟨⟨rfl, k2⟩, ⟨(nI_add _ _), k3⟩, trivial⟩ ?_
    refine G.mem (M' := mrow (mrow M 71 q71) 79 (upd q79 (n1 + i5) (q71 i5))) (by first | rfl | (simp only [mput, mrow_same, mrow_hit, mrow_miss, mrow_sw, idr_eq, ne_eq, Nat.reduceEqDiff, not_false_eq_true, Nat.reduceLT, reduceCtorEq]; done)) ?_
    rw [nI_add i5 1]
    simp only [k_keepsRow_1_L51_3, g1] at ih
    exact ih
set_option maxHeartbeats 4000000 in
set_option maxRecDepth 3000 in
theorem c_k_keepsRow_1_L51_54_71 (z : Zp) (d : Nat) (M : Mem) (n1 : Nat) (n3 : Nat) (b1 : n1 < 3000) (b3 : n3 < 3000) (hk : k_keepsRow_1_L51_ok (M.1 71) (M.1 79) n1 n3) : GM z mX12_keepsRow (d) [.ref 54, .int (nI n1), .ref 71, .int (nI n3), .int (nI 1)] M (fun rs => rs = .inl (some (.int ((k_keepsRow_1_L51 (M.1 71) (M.1 79) n1 n3).1)), mrow (mrow M 71 ((k_keepsRow_1_L51 (M.1 71) (M.1 79) n1 n3).2.1)) 79 ((k_keepsRow_1_L51 (M.1 71) (M.1 79) n1 n3).2.2))) := by
  simp only [k_keepsRow_1_L51_ok] at hk
  refine GM.of oX12_keepsRow.1 (Nat.le_of_ble_eq_true rfl) ?_
  show G z mX12_keepsRow (d) 0 0 0 [some (.ref 54), some (.int (nI n1)), some (.ref 71), some (.int (nI n3)), some (.int (nI 1)), none] [] M _
  obtain ⟨Q, hQ⟩ : ∃ Q : Rs → Prop, Q = (fun rs => rs = .inl (some (.int ((k_keepsRow_1_L51 (M.1 71) (M.1 79) n1 n3).1)), mrow (mrow M 71 ((k_keepsRow_1_L51 (M.1 71) (M.1 79) n1 n3).2.1)) 79 ((k_keepsRow_1_L51 (M.1 71) (M.1 79) n1 n3).2.2))) := ⟨_, rfl⟩
  rw [← hQ]
  refine G.sl [(.iconst 0, 1, 0, 0, 0, nI 0), (.istore 5, 2, 5, 0, 0, 0)] [] (pc2 := 3) (ls2 := [some (.ref 54), some (.int (nI n1)), some (.ref 71), some (.int (nI n3)), some (.int (nI 1)), some (.int (nI 0))]) (st2 := []) (M2 := M) (Ps := []) (by decide +kernel) rfl rfl trivial ?_
  obtain ⟨k4, hk⟩ := hk
  refine lp_k_keepsRow_1_L51_54_71_3 z d M Q n1 n3 (by omega) (by omega) (by first | (simp only [mput, mrow_same, mrow_hit, mrow_miss, mrow_sw, idr_eq, ne_eq, Nat.reduceEqDiff, not_false_eq_true, Nat.reduceLT, reduceCtorEq]; exact k4) | exact k4) ?_
  try simp only [mput, mrow_same, mrow_hit, mrow_miss, mrow_sw, idr_eq, ne_eq, Nat.reduceEqDiff, not_false_eq_true, Nat.reduceLT, reduceCtorEq]
  rcases g5 : k_keepsRow_1_L51_3 (M.1 71) (M.1 79) n1 n3 n3 with ⟨r6, r7⟩
  show G z mX12_keepsRow (d) 0 0 49 [none, some (.int (nI n1)), none, some (.int (nI n3)), none, none] [] (mrow (mrow M 71 r6) 79 r7) Q
  refine G.sl [(.iload_n 1, 1, 1, 0, 0, 0), (.iload_n 3, 1, 3, 0, 0, 0), (.iadd, 1, 0, 0, 0, 0)] [] (pc2 := 52) (ls2 := [none, some (.int (nI n1)), none, some (.int (nI n3)), none, none]) (st2 := [.int ((nI n1) + (nI n3))]) (M2 := mrow (mrow M 71 r6) 79 r7) (Ps := []) (by decide +kernel) rfl rfl trivial ?_
  exact G.reti (by decide +kernel) rfl rfl (Nat.le_of_ble_eq_true rfl) (Nat.le_of_ble_eq_true rfl) ((by rw [hQ]; simp only [k_keepsRow_1_L51, g5, mrow_self]))
set_option maxHeartbeats 4000000 in
set_option maxRecDepth 3000 in
theorem lp_k_keepsRow_1_L816_54_73_3 (z : Zp) (d : Nat) (M : Mem) (Q : Rs → Prop) (n1 : Nat) (n3 : Nat) (b1 : n1 < 3000) (b3 : n3 < 3000) (hk : ∀ i5, i5 < n3 → k_keepsRow_1_L816_3_ok (M.1 73) (M.1 79) n1 n3 i5) (hX : G z mX12_keepsRow (d) 0 0 49 [none, some (.int (nI n1)), none, some (.int (nI n3)), none, none] [] (mrow (mrow M 73 ((k_keepsRow_1_L816_3 (M.1 73) (M.1 79) n1 n3 n3).1)) 79 ((k_keepsRow_1_L816_3 (M.1 73) (M.1 79) n1 n3 n3).2)) Q) : G z mX12_keepsRow (d) 0 0 3 [some (.ref 54), some (.int (nI n1)), some (.ref 73), some (.int (nI n3)), some (.int (nI 1)), some (.int (nI 0))] [] M Q := by
  refine G.mem (M' := mrow (mrow M 73 (M.1 73)) 79 (M.1 79)) (by simp only [mrow_self]) ?_
  refine down (n := n3) (P := fun i5 => G z mX12_keepsRow (d) 0 0 3 [some (.ref 54), some (.int (nI n1)), some (.ref 73), some (.int (nI n3)), some (.int (nI 1)), some (.int (nI i5))] [] (mrow (mrow M 73 ((k_keepsRow_1_L816_3 (M.1 73) (M.1 79) n1 n3 i5).1)) 79 ((k_keepsRow_1_L816_3 (M.1 73) (M.1 79) n1 n3 i5).2)) Q) ?_ ?_ 0 (Nat.zero_le _)
  · skip
    refine G.sl [(.iload 5, 2, 5, 0, 0, 0), (.iload_n 3, 1, 3, 0, 0, 0)] [] (pc2 := 6) (ls2 := [some (.ref 54), some (.int (nI n1)), some (.ref 73), some (.int (nI n3)), some (.int (nI 1)), some (.int (nI n3))]) (st2 := [.int (nI n3), .int (nI n3)]) (M2 := mrow (mrow M 73 ((k_keepsRow_1_L816_3 (M.1 73) (M.1 79) n1 n3 n3).1)) 79 ((k_keepsRow_1_L816_3 (M.1 73) (M.1 79) n1 n3 n3).2)) (Ps := []) (by decide +kernel) rfl rfl trivial ?_
    refine G.ic_ge (off := (43)) (tgt := 49) (by decide +kernel) rfl (fun _ => ?_) (fun h9 => absurd (nI_le (by omega) (by omega)) h9)
    refine G.loc (ls2 := [none, some (.int (nI n1)), none, some (.int (nI n3)), none, none]) (by simp [subL]) ?_
    exact hX
  · skip
    intro i5 hi ih
    have hk := hk i5 hi
    simp only [k_keepsRow_1_L816_3_ok] at hk
    rcases g1 : k_keepsRow_1_L816_3 (M.1 73) (M.1 79) n1 n3 i5 with ⟨q73, q79⟩
    try simp only [g1] at hk
    try simp only [g1]
    show G z mX12_keepsRow (d) 0 0 3 [some (.ref 54), some (.int (nI n1)), some (.ref 73), some (.int (nI n3)), some (.int (nI 1)), some (.int (nI i5))] [] (mrow (mrow M 73 q73) 79 q79) Q
    refine G.sl [(.iload 5, 2, 5, 0, 0, 0), (.iload_n 3, 1, 3, 0, 0, 0)] [] (pc2 := 6) (ls2 := [some (.ref 54), some (.int (nI n1)), some (.ref 73), some (.int (nI n3)), some (.int (nI 1)), some (.int (nI i5))]) (st2 := [.int (nI n3), .int (nI i5)]) (M2 := mrow (mrow M 73 q73) 79 q79) (Ps := []) (by decide +kernel) rfl rfl trivial ?_
    refine G.ic_ge (off := (43)) (tgt := 49) (by decide +kernel) rfl (fun h9 => absurd h9 (nI_ge (by omega) (by omega))) (fun _ => ?_)
    refine G.sl [(.iload 4, 2, 4, 0, 0, 0)] [] (pc2 := 11) (ls2 := [some (.ref 54), some (.int (nI n1)), some (.ref 73), some (.int (nI n3)), some (.int (nI 1)), some (.int (nI i5))]) (st2 := [.int (nI 1)]) (M2 := mrow (mrow M 73 q73) 79 q79) (Ps := []) (by decide +kernel) rfl rfl trivial ?_
    refine G.if_eq (off := (19)) (tgt := 30) (by decide +kernel) rfl (fun h9 => absurd h9 (by decide)) (fun _ => ?_)
    obtain ⟨k2, k3, hk⟩ := hk
    refine G.sl [(.aload_n 0, 1, 0, 0, 0, 0), (.getfield 89, 3, 11, 50, 173, 0), (.iload_n 1, 1, 1, 0, 0, 0), (.iload 5, 2, 5, 0, 0, 0), (.iadd, 1, 0, 0, 0, 0), (.aload_n 2, 1, 2, 0, 0, 0), (.iload 5, 2, 5, 0, 0, 0), (.iaload, 1, 0, 0, 0, 0), (.iastore, 1, 0, 0, 0, 0), (.goto 16, 3, 43, 0, 0, 0), (.iinc 5 1, 3, 5, 0, 0, nI 1), (.goto (-43), 3, 3, 0, 0, 0)] [i5, n1 + i5] (pc2 := 3) (ls2 := [some (.ref 54), some (.int (nI n1)), some (.ref 73), some (.int (nI n3)), some (.int (nI 1)), some (.int ((nI i5) + nI 1))]) (st2 := []) (M2 := mput (mrow (mrow M 73 q73) 79 q79) 79 (n1 + i5) (q73 i5)) (Ps := [(nI i5) = nI i5 ∧ i5 < 816, ((nI n1) + (nI i5)) = nI (n1 + i5) ∧ (n1 + i5) < 2604]) (by decide +kernel) rfl rfl ⟨⟨rfl, k2⟩, ⟨(nI_add _ _), k3⟩, trivial⟩ ?_
    refine G.mem (M' := mrow (mrow M 73 q73) 79 (upd q79 (n1 + i5) (q73 i5))) (by first | rfl | (simp only [mput, mrow_same, mrow_hit, mrow_miss, mrow_sw, idr_eq, ne_eq, Nat.reduceEqDiff, not_false_eq_true, Nat.reduceLT, reduceCtorEq]; done)) ?_
    rw [nI_add i5 1]
    simp only [k_keepsRow_1_L816_3, g1] at ih
    exact ih
set_option maxHeartbeats 4000000 in
set_option maxRecDepth 3000 in
theorem c_k_keepsRow_1_L816_54_73 (z : Zp) (d : Nat) (M : Mem) (n1 : Nat) (n3 : Nat) (b1 : n1 < 3000) (b3 : n3 < 3000) (hk : k_keepsRow_1_L816_ok (M.1 73) (M.1 79) n1 n3) : GM z mX12_keepsRow (d) [.ref 54, .int (nI n1), .ref 73, .int (nI n3), .int (nI 1)] M (fun rs => rs = .inl (some (.int ((k_keepsRow_1_L816 (M.1 73) (M.1 79) n1 n3).1)), mrow (mrow M 73 ((k_keepsRow_1_L816 (M.1 73) (M.1 79) n1 n3).2.1)) 79 ((k_keepsRow_1_L816 (M.1 73) (M.1 79) n1 n3).2.2))) := by
  simp only [k_keepsRow_1_L816_ok] at hk
  refine GM.of oX12_keepsRow.1 (Nat.le_of_ble_eq_true rfl) ?_
  show G z mX12_keepsRow (d) 0 0 0 [some (.ref 54), some (.int (nI n1)), some (.ref 73), some (.int (nI n3)), some (.int (nI 1)), none] [] M _
  obtain ⟨Q, hQ⟩ : ∃ Q : Rs → Prop, Q = (fun rs => rs = .inl (some (.int ((k_keepsRow_1_L816 (M.1 73) (M.1 79) n1 n3).1)), mrow (mrow M 73 ((k_keepsRow_1_L816 (M.1 73) (M.1 79) n1 n3).2.1)) 79 ((k_keepsRow_1_L816 (M.1 73) (M.1 79) n1 n3).2.2))) := ⟨_, rfl⟩
  rw [← hQ]
  refine G.sl [(.iconst 0, 1, 0, 0, 0, nI 0), (.istore 5, 2, 5, 0, 0, 0)] [] (pc2 := 3) (ls2 := [some (.ref 54), some (.int (nI n1)), some (.ref 73), some (.int (nI n3)), some (.int (nI 1)), some (.int (nI 0))]) (st2 := []) (M2 := M) (Ps := []) (by decide +kernel) rfl rfl trivial ?_
  obtain ⟨k4, hk⟩ := hk
  refine lp_k_keepsRow_1_L816_54_73_3 z d M Q n1 n3 (by omega) (by omega) (by first | (simp only [mput, mrow_same, mrow_hit, mrow_miss, mrow_sw, idr_eq, ne_eq, Nat.reduceEqDiff, not_false_eq_true, Nat.reduceLT, reduceCtorEq]; exact k4) | exact k4) ?_
  try simp only [mput, mrow_same, mrow_hit, mrow_miss, mrow_sw, idr_eq, ne_eq, Nat.reduceEqDiff, not_false_eq_true, Nat.reduceLT, reduceCtorEq]
  rcases g5 : k_keepsRow_1_L816_3 (M.1 73) (M.1 79) n1 n3 n3 with ⟨r6, r7⟩
  show G z mX12_keepsRow (d) 0 0 49 [none, some (.int (nI n1)), none, some (.int (nI n3)), none, none] [] (mrow (mrow M 73 r6) 79 r7) Q
  refine G.sl [(.iload_n 1, 1, 1, 0, 0, 0), (.iload_n 3, 1, 3, 0, 0, 0), (.iadd, 1, 0, 0, 0, 0)] [] (pc2 := 52) (ls2 := [none, some (.int (nI n1)), none, some (.int (nI n3)), none, none]) (st2 := [.int ((nI n1) + (nI n3))]) (M2 := mrow (mrow M 73 r6) 79 r7) (Ps := []) (by decide +kernel) rfl rfl trivial ?_
  exact G.reti (by decide +kernel) rfl rfl (Nat.le_of_ble_eq_true rfl) (Nat.le_of_ble_eq_true rfl) ((by rw [hQ]; simp only [k_keepsRow_1_L816, g5, mrow_self]))
set_option maxHeartbeats 4000000 in
set_option maxRecDepth 3000 in
theorem c_k_keepsAll_1_54 (z : Zp) (d : Nat) (M : Mem) (n1 : Nat) (b1 : n1 < 3) (hk : k_keepsAll_1_ok (M.1 54) (M.1 71) (M.1 73) (M.1 79) n1) : GM z mX12_keepsAll (d + 1) [.ref 54, .int (nI n1), .int (nI 1)] M (fun rs => rs = .inl (none, mrow (mrow (mrow (mrow M 54 ((k_keepsAll_1 (M.1 54) (M.1 71) (M.1 73) (M.1 79) n1).2.1)) 71 ((k_keepsAll_1 (M.1 54) (M.1 71) (M.1 73) (M.1 79) n1).2.2.1)) 73 ((k_keepsAll_1 (M.1 54) (M.1 71) (M.1 73) (M.1 79) n1).2.2.2.1)) 79 ((k_keepsAll_1 (M.1 54) (M.1 71) (M.1 73) (M.1 79) n1).2.2.2.2))) := by
  simp only [k_keepsAll_1_ok] at hk
  refine GM.of oX12_keepsAll.1 (Nat.le_of_ble_eq_true rfl) ?_
  show G z mX12_keepsAll (d + 1) 0 0 0 [some (.ref 54), some (.int (nI n1)), some (.int (nI 1)), none] [] M _
  obtain ⟨Q, hQ⟩ : ∃ Q : Rs → Prop, Q = (fun rs => rs = .inl (none, mrow (mrow (mrow (mrow M 54 ((k_keepsAll_1 (M.1 54) (M.1 71) (M.1 73) (M.1 79) n1).2.1)) 71 ((k_keepsAll_1 (M.1 54) (M.1 71) (M.1 73) (M.1 79) n1).2.2.1)) 73 ((k_keepsAll_1 (M.1 54) (M.1 71) (M.1 73) (M.1 79) n1).2.2.2.1)) 79 ((k_keepsAll_1 (M.1 54) (M.1 71) (M.1 73) (M.1 79) n1).2.2.2.2))) := ⟨_, rfl⟩
  rw [← hQ]
  refine G.sl [(.aload_n 0, 1, 0, 0, 0, 0), (.sipush 868, 3, 0, 0, 0, nI 868), (.iload_n 1, 1, 1, 0, 0, 0), (.imul, 1, 0, 0, 0, 0), (.aload_n 0, 1, 0, 0, 0, 0), (.getfield 65, 3, 11, 40, 163, 0), (.bipush 51, 2, 0, 0, 0, nI 51), (.iload_n 2, 1, 2, 0, 0, 0)] [] (pc2 := 13) (ls2 := [some (.ref 54), some (.int (nI n1)), some (.int (nI 1)), none]) (st2 := [.int (nI 1), .int (nI 51), .ref 71, .int ((nI 868) * (nI n1)), .ref 54]) (M2 := M) (Ps := []) (by decide +kernel) rfl rfl trivial ?_
  obtain ⟨k1, hk⟩ := hk
  refine G.eq (st' := [.int (nI 1), .int (nI (cN 51)), .ref 71, .int (nI (868 * n1)), .ref 54]) ?_ rfl (by rw [← (show (nI 868) * (nI n1) = nI (868 * n1) from (pk_mul _ _)), ← (show nI 51 = nI (cN 51) from (by rw [cN_eq]))]) rfl
  rcases g2 : k_keepsRow_1_L51 (M.1 71) (M.1 79) (868 * n1) (cN 51) with ⟨v3, r4, r5⟩
  try simp only [g2] at hk
  have t6 : GM z mX12_keepsRow (d) [.ref 54, .int (nI (868 * n1)), .ref 71, .int (nI (cN 51)), .int (nI 1)] M (fun rs => rs = .inl (some (.int v3), mrow (mrow M 71 r4) 79 r5)) := by
    have q9 := c_k_keepsRow_1_L51_54_71 z d M (868 * n1) (cN 51) (by omega) (by rw [cN_eq]; omega) k1
    try simp only [mput, mrow_same, mrow_hit, mrow_miss, mrow_sw, idr_eq, ne_eq, Nat.reduceEqDiff, not_false_eq_true, Nat.reduceLT, reduceCtorEq, g2] at q9
    exact q9
  refine G.callV (as := [.int (nI (868 * n1)), .ref 71, .int (nI (cN 51)), .int (nI 1)]) (rest := []) (a := 54) oX12_keepsRow lk_EvenFindersModel_448 (by decide +kernel) rfl rfl ⟨rfl, rfl⟩ (Nat.le_of_ble_eq_true rfl) rfl ⟨Nat.le_of_ble_eq_true rfl, Nat.le_of_ble_eq_true rfl⟩ t6 (fun v9 N9 h7 => ?_) (fun E9 N9 h7 => by cases h7)
  cases h7
  show G z mX12_keepsAll (d + 1) 0 0 16 [some (.ref 54), some (.int (nI n1)), some (.int (nI 1)), none] [.int v3] (mrow (mrow M 71 r4) 79 r5) Q
  refine G.sl [(.istore_n 3, 1, 3, 0, 0, 0), (.aload_n 0, 1, 0, 0, 0, 0), (.iload_n 3, 1, 3, 0, 0, 0), (.aload_n 0, 1, 0, 0, 0, 0), (.getfield 71, 3, 11, 42, 165, 0), (.sipush 816, 3, 0, 0, 0, nI 816), (.iload_n 2, 1, 2, 0, 0, 0)] [] (pc2 := 27) (ls2 := [some (.ref 54), some (.int (nI n1)), some (.int (nI 1)), some (.int v3)]) (st2 := [.int (nI 1), .int (nI 816), .ref 73, .int v3, .ref 54]) (M2 := mrow (mrow M 71 r4) 79 r5) (Ps := []) (by decide +kernel) rfl rfl trivial ?_
  obtain ⟨k8, k9, hk⟩ := hk
  obtain ⟨k10, hk⟩ := hk
  refine G.eq (st' := [.int (nI 1), .int (nI (cN 816)), .ref 73, .int (nI (ix v3)), .ref 54]) ?_ rfl (by rw [← (show v3 = nI (ix v3) from (ixE k8)), ← (show nI 816 = nI (cN 816) from (by rw [cN_eq]))]) rfl
  rcases g11 : k_keepsRow_1_L816 (M.1 73) r5 (ix v3) (cN 816) with ⟨v12, r13, r14⟩
  try simp only [g11] at hk
  have t15 : GM z mX12_keepsRow (d) [.ref 54, .int (nI (ix v3)), .ref 73, .int (nI (cN 816)), .int (nI 1)] (mrow (mrow M 71 r4) 79 r5) (fun rs => rs = .inl (some (.int v12), mrow (mrow (mrow M 71 r4) 73 r13) 79 r14)) := by
    have q9 := c_k_keepsRow_1_L816_54_73 z d (mrow (mrow M 71 r4) 79 r5) (ix v3) (cN 816) k9 (by rw [cN_eq]; omega) k10
    try simp only [mput, mrow_same, mrow_hit, mrow_miss, mrow_sw, idr_eq, ne_eq, Nat.reduceEqDiff, not_false_eq_true, Nat.reduceLT, reduceCtorEq, g11] at q9
    exact q9
  refine G.callV (as := [.int (nI (ix v3)), .ref 73, .int (nI (cN 816)), .int (nI 1)]) (rest := []) (a := 54) oX12_keepsRow lk_EvenFindersModel_448 (by decide +kernel) rfl rfl ⟨rfl, rfl⟩ (Nat.le_of_ble_eq_true rfl) rfl ⟨Nat.le_of_ble_eq_true rfl, Nat.le_of_ble_eq_true rfl⟩ t15 (fun v9 N9 h16 => ?_) (fun E9 N9 h16 => by cases h16)
  cases h16
  show G z mX12_keepsAll (d + 1) 0 0 30 [some (.ref 54), some (.int (nI n1)), some (.int (nI 1)), some (.int v3)] [.int v12] (mrow (mrow (mrow M 71 r4) 73 r13) 79 r14) Q
  refine G.sl [(.istore_n 3, 1, 3, 0, 0, 0), (.iload_n 2, 1, 2, 0, 0, 0)] [] (pc2 := 32) (ls2 := [some (.ref 54), some (.int (nI n1)), some (.int (nI 1)), some (.int v12)]) (st2 := [.int (nI 1)]) (M2 := mrow (mrow (mrow M 71 r4) 73 r13) 79 r14) (Ps := []) (by decide +kernel) rfl rfl trivial ?_
  refine G.if_eq (off := (16)) (tgt := 48) (by decide +kernel) rfl (fun h9 => absurd h9 (by decide)) (fun _ => ?_)
  obtain ⟨k17, k18, hk⟩ := hk
  refine G.sl [(.aload_n 0, 1, 0, 0, 0, 0), (.getfield 89, 3, 11, 50, 173, 0), (.iload_n 3, 1, 3, 0, 0, 0), (.aload_n 0, 1, 0, 0, 0, 0), (.getfield 178, 3, 11, 35, 158, 0), (.iastore, 1, 0, 0, 0, 0), (.goto 13, 3, 58, 0, 0, 0)] [ix v12] (pc2 := 58) (ls2 := [some (.ref 54), some (.int (nI n1)), some (.int (nI 1)), some (.int v12)]) (st2 := []) (M2 := mput (mrow (mrow (mrow M 71 r4) 73 r13) 79 r14) 79 (ix v12) (M.1 54 35)) (Ps := [v12 = nI (ix v12) ∧ (ix v12) < 2604]) (by decide +kernel) rfl rfl ⟨⟨(ixE k17), k18⟩, trivial⟩ ?_
  refine G.mem (M' := mrow (mrow (mrow M 71 r4) 73 r13) 79 (upd r14 (ix v12) (M.1 54 35))) (by first | rfl | (simp only [mput, mrow_same, mrow_hit, mrow_miss, mrow_sw, idr_eq, ne_eq, Nat.reduceEqDiff, not_false_eq_true, Nat.reduceLT, reduceCtorEq]; done)) ?_
  refine G.mem (M' := mrow (mrow (mrow (mrow M 54 (M.1 54)) 71 r4) 73 r13) 79 (upd r14 (ix v12) (M.1 54 35))) (((mrow_id (N := mrow (mrow (mrow M 71 r4) 73 r13) 79 (upd r14 (ix v12) (M.1 54 35))) (c := 54) (f := M.1 54) (by first | rfl | (simp only [mput, mrow_same, mrow_hit, mrow_miss, mrow_sw, idr_eq, ne_eq, Nat.reduceEqDiff, not_false_eq_true, Nat.reduceLT, reduceCtorEq]; done))).symm).trans (by first | rfl | (simp only [mput, mrow_same, mrow_hit, mrow_miss, mrow_sw, idr_eq, ne_eq, Nat.reduceEqDiff, not_false_eq_true, Nat.reduceLT, reduceCtorEq]; done))) ?_
  exact G.retv (by decide +kernel) rfl (Nat.le_of_ble_eq_true rfl) (Nat.le_of_ble_eq_true rfl) ((by rw [hQ]; simp only [k_keepsAll_1, g2, g11, mrow_self]))
set_option maxHeartbeats 4000000 in
set_option maxRecDepth 3000 in
theorem c_k_image_54 (z : Zp) (d : Nat) (M : Mem) (hk : k_image_ok (M.1 54) (M.1 71) (M.1 73) (M.1 79)) : GM z mX12_image (d + 2) [.ref 54] M (fun rs => rs = .inl (some (.int ((k_image (M.1 54) (M.1 71) (M.1 73) (M.1 79)).1)), mrow (mrow (mrow (mrow M 54 ((k_image (M.1 54) (M.1 71) (M.1 73) (M.1 79)).2.1)) 71 ((k_image (M.1 54) (M.1 71) (M.1 73) (M.1 79)).2.2.1)) 73 ((k_image (M.1 54) (M.1 71) (M.1 73) (M.1 79)).2.2.2.1)) 79 ((k_image (M.1 54) (M.1 71) (M.1 73) (M.1 79)).2.2.2.2))) := by
  simp only [k_image_ok] at hk
  refine GM.of oX12_image.1 (Nat.le_of_ble_eq_true rfl) ?_
  show G z mX12_image (d + 2) 0 0 0 [some (.ref 54)] [] M _
  obtain ⟨Q, hQ⟩ : ∃ Q : Rs → Prop, Q = (fun rs => rs = .inl (some (.int ((k_image (M.1 54) (M.1 71) (M.1 73) (M.1 79)).1)), mrow (mrow (mrow (mrow M 54 ((k_image (M.1 54) (M.1 71) (M.1 73) (M.1 79)).2.1)) 71 ((k_image (M.1 54) (M.1 71) (M.1 73) (M.1 79)).2.2.1)) 73 ((k_image (M.1 54) (M.1 71) (M.1 73) (M.1 79)).2.2.2.1)) 79 ((k_image (M.1 54) (M.1 71) (M.1 73) (M.1 79)).2.2.2.2))) := ⟨_, rfl⟩
  rw [← hQ]
  refine G.sl [(.aload_n 0, 1, 0, 0, 0, 0), (.iconst 0, 1, 0, 0, 0, nI 0), (.putfield 3, 3, 11, 0, 123, 0), (.aload_n 0, 1, 0, 0, 0, 0), (.getfield 181, 3, 11, 51, 174, 0), (.iconst 3, 1, 0, 0, 0, nI 3)] [] (pc2 := 10) (ls2 := [some (.ref 54)]) (st2 := [.int (nI 3), .int (M.1 54 51)]) (M2 := mput M 54 0 (nI 0)) (Ps := []) (by decide +kernel) rfl rfl trivial ?_
  refine G.mem (M' := mrow M 54 (upd (M.1 54) 0 (nI 0))) (by first | rfl | (simp only [mput, mrow_same, mrow_hit, mrow_miss, mrow_sw, idr_eq, ne_eq, Nat.reduceEqDiff, not_false_eq_true, Nat.reduceLT, reduceCtorEq]; done)) ?_
  refine G.ic_ne (off := (5)) (tgt := 15) (by decide +kernel) rfl (fun c1 => ?_) (fun c1 => ?_)
  · skip
    rw [if_neg c1] at hk
    refine G.sl [(.aload_n 0, 1, 0, 0, 0, 0), (.aload_n 0, 1, 0, 0, 0, 0), (.getfield 181, 3, 11, 51, 174, 0), (.iconst 1, 1, 0, 0, 0, nI 1)] [] (pc2 := 21) (ls2 := [some (.ref 54)]) (st2 := [.int (nI 1), .int (M.1 54 51), .ref 54]) (M2 := mrow M 54 (upd (M.1 54) 0 (nI 0))) (Ps := []) (by decide +kernel) rfl rfl trivial ?_
    obtain ⟨k2, k3, hk⟩ := hk
    obtain ⟨k4, hk⟩ := hk
    refine G.eq (st' := [.int (nI 1), .int (nI (ix (M.1 54 51))), .ref 54]) ?_ rfl (by rw [← (show M.1 54 51 = nI (ix (M.1 54 51)) from (ixE k2))]) rfl
    rcases g5 : k_keepsAll_1 (upd (M.1 54) 0 (nI 0)) (M.1 71) (M.1 73) (M.1 79) (ix (M.1 54 51)) with ⟨u6, r7, r8, r9, r10⟩
    have t11 : GM z mX12_keepsAll (d + 1) [.ref 54, .int (nI (ix (M.1 54 51))), .int (nI 1)] (mrow M 54 (upd (M.1 54) 0 (nI 0))) (fun rs => rs = .inl (none, mrow (mrow (mrow (mrow M 54 r7) 71 r8) 73 r9) 79 r10)) := by
      have q9 := c_k_keepsAll_1_54 z d (mrow M 54 (upd (M.1 54) 0 (nI 0))) (ix (M.1 54 51)) k3 k4
      try simp only [mput, mrow_same, mrow_hit, mrow_miss, mrow_sw, idr_eq, ne_eq, Nat.reduceEqDiff, not_false_eq_true, Nat.reduceLT, reduceCtorEq, g5] at q9
      exact q9
    refine G.callV (as := [.int (nI (ix (M.1 54 51))), .int (nI 1)]) (rest := []) (a := 54) oX12_keepsAll lk_EvenFindersModel_452 (by decide +kernel) rfl rfl ⟨rfl, rfl⟩ (Nat.le_of_ble_eq_true rfl) rfl ⟨Nat.le_of_ble_eq_true rfl, Nat.le_of_ble_eq_true rfl⟩ t11 (fun v9 N9 h12 => ?_) (fun E9 N9 h12 => by cases h12)
    cases h12
    show G z mX12_image (d + 2) 0 0 24 [some (.ref 54)] [] (mrow (mrow (mrow (mrow M 54 r7) 71 r8) 73 r9) 79 r10) Q
    refine G.sl [(.aload_n 0, 1, 0, 0, 0, 0), (.dup, 1, 0, 0, 0, 0), (.getfield 181, 3, 11, 51, 174, 0), (.iconst 1, 1, 0, 0, 0, nI 1), (.iadd, 1, 0, 0, 0, 0), (.putfield 181, 3, 11, 51, 174, 0), (.aload_n 0, 1, 0, 0, 0, 0), (.getfield 181, 3, 11, 51, 174, 0)] [] (pc2 := 38) (ls2 := [some (.ref 54)]) (st2 := [.int ((r7 51) + (nI 1))]) (M2 := mput (mrow (mrow (mrow (mrow M 54 r7) 71 r8) 73 r9) 79 r10) 54 51 ((r7 51) + (nI 1))) (Ps := []) (by decide +kernel) rfl rfl trivial ?_
    refine G.mem (M' := mrow (mrow (mrow (mrow M 54 (upd r7 51 ((r7 51) + (nI 1)))) 71 r8) 73 r9) 79 r10) (by first | rfl | (simp only [mput, mrow_same, mrow_hit, mrow_miss, mrow_sw, idr_eq, ne_eq, Nat.reduceEqDiff, not_false_eq_true, Nat.reduceLT, reduceCtorEq]; done)) ?_
    exact G.reti (by decide +kernel) rfl rfl (Nat.le_of_ble_eq_true rfl) (Nat.le_of_ble_eq_true rfl) ((by rw [hQ]; simp only [k_image, if_neg c1, g5, mrow_self]))
  · skip
    rw [if_pos c1] at hk
    refine G.sl [(.iconst (-1), 1, 0, 0, 0, (-1))] [] (pc2 := 14) (ls2 := [some (.ref 54)]) (st2 := [.int ((-1))]) (M2 := mrow M 54 (upd (M.1 54) 0 (nI 0))) (Ps := []) (by decide +kernel) rfl rfl trivial ?_
    refine G.mem (M' := mrow (mrow (mrow (mrow M 54 (upd (M.1 54) 0 (nI 0))) 71 (M.1 71)) 73 (M.1 73)) 79 (M.1 79)) (((((mrow_id (N := mrow M 54 (upd (M.1 54) 0 (nI 0))) (c := 71) (f := M.1 71) (by first | rfl | (simp only [mput, mrow_same, mrow_hit, mrow_miss, mrow_sw, idr_eq, ne_eq, Nat.reduceEqDiff, not_false_eq_true, Nat.reduceLT, reduceCtorEq]; done))).symm).trans (mrow_id (N := mrow (mrow M 54 (upd (M.1 54) 0 (nI 0))) 71 (M.1 71)) (c := 73) (f := M.1 73) (by first | rfl | (simp only [mput, mrow_same, mrow_hit, mrow_miss, mrow_sw, idr_eq, ne_eq, Nat.reduceEqDiff, not_false_eq_true, Nat.reduceLT, reduceCtorEq]; done))).symm).trans (mrow_id (N := mrow (mrow (mrow M 54 (upd (M.1 54) 0 (nI 0))) 71 (M.1 71)) 73 (M.1 73)) (c := 79) (f := M.1 79) (by first | rfl | (simp only [mput, mrow_same, mrow_hit, mrow_miss, mrow_sw, idr_eq, ne_eq, Nat.reduceEqDiff, not_false_eq_true, Nat.reduceLT, reduceCtorEq]; done))).symm).trans (by first | rfl | (simp only [mput, mrow_same, mrow_hit, mrow_miss, mrow_sw, idr_eq, ne_eq, Nat.reduceEqDiff, not_false_eq_true, Nat.reduceLT, reduceCtorEq]; done))) ?_
    exact G.reti (by decide +kernel) rfl rfl (Nat.le_of_ble_eq_true rfl) (Nat.le_of_ble_eq_true rfl) ((by rw [hQ]; simp only [k_image, if_pos c1, mrow_self]))
set_option maxHeartbeats 4000000 in
set_option maxRecDepth 3000 in
theorem lp_k_keepsRow_0_L51_54_71_3 (z : Zp) (d : Nat) (M : Mem) (Q : Rs → Prop) (n1 : Nat) (n3 : Nat) (b1 : n1 < 3000) (b3 : n3 < 3000) (hk : ∀ i5, i5 < n3 → k_keepsRow_0_L51_3_ok (M.1 71) (M.1 79) n1 n3 i5) (hX : G z mX12_keepsRow (d) 0 0 49 [none, some (.int (nI n1)), none, some (.int (nI n3)), none, none] [] (mrow (mrow M 71 ((k_keepsRow_0_L51_3 (M.1 71) (M.1 79) n1 n3 n3).1)) 79 ((k_keepsRow_0_L51_3 (M.1 71) (M.1 79) n1 n3 n3).2)) Q) : G z mX12_keepsRow (d) 0 0 3 [some (.ref 54), some (.int (nI n1)), some (.ref 71), some (.int (nI n3)), some (.int (nI 0)), some (.int (nI 0))] [] M Q := by
  refine G.mem (M' := mrow (mrow M 71 (M.1 71)) 79 (M.1 79)) (by simp only [mrow_self]) ?_
  refine down (n := n3) (P := fun i5 => G z mX12_keepsRow (d) 0 0 3 [some (.ref 54), some (.int (nI n1)), some (.ref 71), some (.int (nI n3)), some (.int (nI 0)), some (.int (nI i5))] [] (mrow (mrow M 71 ((k_keepsRow_0_L51_3 (M.1 71) (M.1 79) n1 n3 i5).1)) 79 ((k_keepsRow_0_L51_3 (M.1 71) (M.1 79) n1 n3 i5).2)) Q) ?_ ?_ 0 (Nat.zero_le _)
  · skip
    refine G.sl [(.iload 5, 2, 5, 0, 0, 0), (.iload_n 3, 1, 3, 0, 0, 0)] [] (pc2 := 6) (ls2 := [some (.ref 54), some (.int (nI n1)), some (.ref 71), some (.int (nI n3)), some (.int (nI 0)), some (.int (nI n3))]) (st2 := [.int (nI n3), .int (nI n3)]) (M2 := mrow (mrow M 71 ((k_keepsRow_0_L51_3 (M.1 71) (M.1 79) n1 n3 n3).1)) 79 ((k_keepsRow_0_L51_3 (M.1 71) (M.1 79) n1 n3 n3).2)) (Ps := []) (by decide +kernel) rfl rfl trivial ?_
    refine G.ic_ge (off := (43)) (tgt := 49) (by decide +kernel) rfl (fun _ => ?_) (fun h9 => absurd (nI_le (by omega) (by omega)) h9)
    refine G.loc (ls2 := [none, some (.int (nI n1)), none, some (.int (nI n3)), none, none]) (by simp [subL]) ?_
    exact hX
  · skip
    intro i5 hi ih
    have hk := hk i5 hi
    simp only [k_keepsRow_0_L51_3_ok] at hk
    rcases g1 : k_keepsRow_0_L51_3 (M.1 71) (M.1 79) n1 n3 i5 with ⟨q71, q79⟩
    try simp only [g1] at hk
    try simp only [g1]
    show G z mX12_keepsRow (d) 0 0 3 [some (.ref 54), some (.int (nI n1)), some (.ref 71), some (.int (nI n3)), some (.int (nI 0)), some (.int (nI i5))] [] (mrow (mrow M 71 q71) 79 q79) Q
    refine G.sl [(.iload 5, 2, 5, 0, 0, 0), (.iload_n 3, 1, 3, 0, 0, 0)] [] (pc2 := 6) (ls2 := [some (.ref 54), some (.int (nI n1)), some (.ref 71), some (.int (nI n3)), some (.int (nI 0)), some (.int (nI i5))]) (st2 := [.int (nI n3), .int (nI i5)]) (M2 := mrow (mrow M 71 q71) 79 q79) (Ps := []) (by decide +kernel) rfl rfl trivial ?_
    refine G.ic_ge (off := (43)) (tgt := 49) (by decide +kernel) rfl (fun h9 => absurd h9 (nI_ge (by omega) (by omega))) (fun _ => ?_)
    refine G.sl [(.iload 4, 2, 4, 0, 0, 0)] [] (pc2 := 11) (ls2 := [some (.ref 54), some (.int (nI n1)), some (.ref 71), some (.int (nI n3)), some (.int (nI 0)), some (.int (nI i5))]) (st2 := [.int (nI 0)]) (M2 := mrow (mrow M 71 q71) 79 q79) (Ps := []) (by decide +kernel) rfl rfl trivial ?_
    refine G.if_eq (off := (19)) (tgt := 30) (by decide +kernel) rfl (fun _ => ?_) (fun h9 => absurd (by decide) h9)
    obtain ⟨k2, k3, hk⟩ := hk
    refine G.sl [(.aload_n 2, 1, 2, 0, 0, 0), (.iload 5, 2, 5, 0, 0, 0), (.aload_n 0, 1, 0, 0, 0, 0), (.getfield 89, 3, 11, 50, 173, 0), (.iload_n 1, 1, 1, 0, 0, 0), (.iload 5, 2, 5, 0, 0, 0), (.iadd, 1, 0, 0, 0, 0), (.iaload, 1, 0, 0, 0, 0), (.iastore, 1, 0, 0, 0, 0), (.iinc 5 1, 3, 5, 0, 0, nI 1), (.goto (-43), 3, 3, 0, 0, 0)] [n1 + i5, i5] (pc2 := 3) (ls2 := [some (.ref 54), some (.int (nI n1)), some (.ref 71), some (.int (nI n3)), some (.int (nI 0)), some (.int ((nI i5) + nI 1))]) (st2 := []) (M2 := mput (mrow (mrow M 71 q71) 79 q79) 71 i5 (q79 (n1 + i5))) (Ps := [((nI n1) + (nI i5)) = nI (n1 + i5) ∧ (n1 + i5) < 2604, (nI i5) = nI i5 ∧ i5 < 51]) (by decide +kernel) rfl rfl ⟨⟨(nI_add _ _), k2⟩, ⟨rfl, k3⟩, trivial⟩ ?_
    refine G.mem (M' := mrow (mrow M 71 (upd q71 i5 (q79 (n1 + i5)))) 79 q79) (by first | rfl | (simp only [mput, mrow_same, mrow_hit, mrow_miss, mrow_sw, idr_eq, ne_eq, Nat.reduceEqDiff, not_false_eq_true, Nat.reduceLT, reduceCtorEq]; done)) ?_
    rw [nI_add i5 1]
    simp only [k_keepsRow_0_L51_3, g1] at ih
    exact ih
set_option maxHeartbeats 4000000 in
set_option maxRecDepth 3000 in
theorem c_k_keepsRow_0_L51_54_71 (z : Zp) (d : Nat) (M : Mem) (n1 : Nat) (n3 : Nat) (b1 : n1 < 3000) (b3 : n3 < 3000) (hk : k_keepsRow_0_L51_ok (M.1 71) (M.1 79) n1 n3) : GM z mX12_keepsRow (d) [.ref 54, .int (nI n1), .ref 71, .int (nI n3), .int (nI 0)] M (fun rs => rs = .inl (some (.int ((k_keepsRow_0_L51 (M.1 71) (M.1 79) n1 n3).1)), mrow (mrow M 71 ((k_keepsRow_0_L51 (M.1 71) (M.1 79) n1 n3).2.1)) 79 ((k_keepsRow_0_L51 (M.1 71) (M.1 79) n1 n3).2.2))) := by
  simp only [k_keepsRow_0_L51_ok] at hk
  refine GM.of oX12_keepsRow.1 (Nat.le_of_ble_eq_true rfl) ?_
  show G z mX12_keepsRow (d) 0 0 0 [some (.ref 54), some (.int (nI n1)), some (.ref 71), some (.int (nI n3)), some (.int (nI 0)), none] [] M _
  obtain ⟨Q, hQ⟩ : ∃ Q : Rs → Prop, Q = (fun rs => rs = .inl (some (.int ((k_keepsRow_0_L51 (M.1 71) (M.1 79) n1 n3).1)), mrow (mrow M 71 ((k_keepsRow_0_L51 (M.1 71) (M.1 79) n1 n3).2.1)) 79 ((k_keepsRow_0_L51 (M.1 71) (M.1 79) n1 n3).2.2))) := ⟨_, rfl⟩
  rw [← hQ]
  refine G.sl [(.iconst 0, 1, 0, 0, 0, nI 0), (.istore 5, 2, 5, 0, 0, 0)] [] (pc2 := 3) (ls2 := [some (.ref 54), some (.int (nI n1)), some (.ref 71), some (.int (nI n3)), some (.int (nI 0)), some (.int (nI 0))]) (st2 := []) (M2 := M) (Ps := []) (by decide +kernel) rfl rfl trivial ?_
  obtain ⟨k4, hk⟩ := hk
  refine lp_k_keepsRow_0_L51_54_71_3 z d M Q n1 n3 (by omega) (by omega) (by first | (simp only [mput, mrow_same, mrow_hit, mrow_miss, mrow_sw, idr_eq, ne_eq, Nat.reduceEqDiff, not_false_eq_true, Nat.reduceLT, reduceCtorEq]; exact k4) | exact k4) ?_
  try simp only [mput, mrow_same, mrow_hit, mrow_miss, mrow_sw, idr_eq, ne_eq, Nat.reduceEqDiff, not_false_eq_true, Nat.reduceLT, reduceCtorEq]
  rcases g5 : k_keepsRow_0_L51_3 (M.1 71) (M.1 79) n1 n3 n3 with ⟨r6, r7⟩
  show G z mX12_keepsRow (d) 0 0 49 [none, some (.int (nI n1)), none, some (.int (nI n3)), none, none] [] (mrow (mrow M 71 r6) 79 r7) Q
  refine G.sl [(.iload_n 1, 1, 1, 0, 0, 0), (.iload_n 3, 1, 3, 0, 0, 0), (.iadd, 1, 0, 0, 0, 0)] [] (pc2 := 52) (ls2 := [none, some (.int (nI n1)), none, some (.int (nI n3)), none, none]) (st2 := [.int ((nI n1) + (nI n3))]) (M2 := mrow (mrow M 71 r6) 79 r7) (Ps := []) (by decide +kernel) rfl rfl trivial ?_
  exact G.reti (by decide +kernel) rfl rfl (Nat.le_of_ble_eq_true rfl) (Nat.le_of_ble_eq_true rfl) ((by rw [hQ]; simp only [k_keepsRow_0_L51, g5, mrow_self]))
set_option maxHeartbeats 4000000 in
set_option maxRecDepth 3000 in
theorem lp_k_keepsRow_0_L816_54_73_3 (z : Zp) (d : Nat) (M : Mem) (Q : Rs → Prop) (n1 : Nat) (n3 : Nat) (b1 : n1 < 3000) (b3 : n3 < 3000) (hk : ∀ i5, i5 < n3 → k_keepsRow_0_L816_3_ok (M.1 73) (M.1 79) n1 n3 i5) (hX : G z mX12_keepsRow (d) 0 0 49 [none, some (.int (nI n1)), none, some (.int (nI n3)), none, none] [] (mrow (mrow M 73 ((k_keepsRow_0_L816_3 (M.1 73) (M.1 79) n1 n3 n3).1)) 79 ((k_keepsRow_0_L816_3 (M.1 73) (M.1 79) n1 n3 n3).2)) Q) : G z mX12_keepsRow (d) 0 0 3 [some (.ref 54), some (.int (nI n1)), some (.ref 73), some (.int (nI n3)), some (.int (nI 0)), some (.int (nI 0))] [] M Q := by
  refine G.mem (M' := mrow (mrow M 73 (M.1 73)) 79 (M.1 79)) (by simp only [mrow_self]) ?_
  refine down (n := n3) (P := fun i5 => G z mX12_keepsRow (d) 0 0 3 [some (.ref 54), some (.int (nI n1)), some (.ref 73), some (.int (nI n3)), some (.int (nI 0)), some (.int (nI i5))] [] (mrow (mrow M 73 ((k_keepsRow_0_L816_3 (M.1 73) (M.1 79) n1 n3 i5).1)) 79 ((k_keepsRow_0_L816_3 (M.1 73) (M.1 79) n1 n3 i5).2)) Q) ?_ ?_ 0 (Nat.zero_le _)
  · skip
    refine G.sl [(.iload 5, 2, 5, 0, 0, 0), (.iload_n 3, 1, 3, 0, 0, 0)] [] (pc2 := 6) (ls2 := [some (.ref 54), some (.int (nI n1)), some (.ref 73), some (.int (nI n3)), some (.int (nI 0)), some (.int (nI n3))]) (st2 := [.int (nI n3), .int (nI n3)]) (M2 := mrow (mrow M 73 ((k_keepsRow_0_L816_3 (M.1 73) (M.1 79) n1 n3 n3).1)) 79 ((k_keepsRow_0_L816_3 (M.1 73) (M.1 79) n1 n3 n3).2)) (Ps := []) (by decide +kernel) rfl rfl trivial ?_
    refine G.ic_ge (off := (43)) (tgt := 49) (by decide +kernel) rfl (fun _ => ?_) (fun h9 => absurd (nI_le (by omega) (by omega)) h9)
    refine G.loc (ls2 := [none, some (.int (nI n1)), none, some (.int (nI n3)), none, none]) (by simp [subL]) ?_
    exact hX
  · skip
    intro i5 hi ih
    have hk := hk i5 hi
    simp only [k_keepsRow_0_L816_3_ok] at hk
    rcases g1 : k_keepsRow_0_L816_3 (M.1 73) (M.1 79) n1 n3 i5 with ⟨q73, q79⟩
    try simp only [g1] at hk
    try simp only [g1]
    show G z mX12_keepsRow (d) 0 0 3 [some (.ref 54), some (.int (nI n1)), some (.ref 73), some (.int (nI n3)), some (.int (nI 0)), some (.int (nI i5))] [] (mrow (mrow M 73 q73) 79 q79) Q
    refine G.sl [(.iload 5, 2, 5, 0, 0, 0), (.iload_n 3, 1, 3, 0, 0, 0)] [] (pc2 := 6) (ls2 := [some (.ref 54), some (.int (nI n1)), some (.ref 73), some (.int (nI n3)), some (.int (nI 0)), some (.int (nI i5))]) (st2 := [.int (nI n3), .int (nI i5)]) (M2 := mrow (mrow M 73 q73) 79 q79) (Ps := []) (by decide +kernel) rfl rfl trivial ?_
    refine G.ic_ge (off := (43)) (tgt := 49) (by decide +kernel) rfl (fun h9 => absurd h9 (nI_ge (by omega) (by omega))) (fun _ => ?_)
    refine G.sl [(.iload 4, 2, 4, 0, 0, 0)] [] (pc2 := 11) (ls2 := [some (.ref 54), some (.int (nI n1)), some (.ref 73), some (.int (nI n3)), some (.int (nI 0)), some (.int (nI i5))]) (st2 := [.int (nI 0)]) (M2 := mrow (mrow M 73 q73) 79 q79) (Ps := []) (by decide +kernel) rfl rfl trivial ?_
    refine G.if_eq (off := (19)) (tgt := 30) (by decide +kernel) rfl (fun _ => ?_) (fun h9 => absurd (by decide) h9)
    obtain ⟨k2, k3, hk⟩ := hk
    refine G.sl [(.aload_n 2, 1, 2, 0, 0, 0), (.iload 5, 2, 5, 0, 0, 0), (.aload_n 0, 1, 0, 0, 0, 0), (.getfield 89, 3, 11, 50, 173, 0), (.iload_n 1, 1, 1, 0, 0, 0), (.iload 5, 2, 5, 0, 0, 0), (.iadd, 1, 0, 0, 0, 0), (.iaload, 1, 0, 0, 0, 0), (.iastore, 1, 0, 0, 0, 0), (.iinc 5 1, 3, 5, 0, 0, nI 1), (.goto (-43), 3, 3, 0, 0, 0)] [n1 + i5, i5] (pc2 := 3) (ls2 := [some (.ref 54), some (.int (nI n1)), some (.ref 73), some (.int (nI n3)), some (.int (nI 0)), some (.int ((nI i5) + nI 1))]) (st2 := []) (M2 := mput (mrow (mrow M 73 q73) 79 q79) 73 i5 (q79 (n1 + i5))) (Ps := [((nI n1) + (nI i5)) = nI (n1 + i5) ∧ (n1 + i5) < 2604, (nI i5) = nI i5 ∧ i5 < 816]) (by decide +kernel) rfl rfl ⟨⟨(nI_add _ _), k2⟩, ⟨rfl, k3⟩, trivial⟩ ?_
    refine G.mem (M' := mrow (mrow M 73 (upd q73 i5 (q79 (n1 + i5)))) 79 q79) (by first | rfl | (simp only [mput, mrow_same, mrow_hit, mrow_miss, mrow_sw, idr_eq, ne_eq, Nat.reduceEqDiff, not_false_eq_true, Nat.reduceLT, reduceCtorEq]; done)) ?_
    rw [nI_add i5 1]
    simp only [k_keepsRow_0_L816_3, g1] at ih
    exact ih
set_option maxHeartbeats 4000000 in
set_option maxRecDepth 3000 in
theorem c_k_keepsRow_0_L816_54_73 (z : Zp) (d : Nat) (M : Mem) (n1 : Nat) (n3 : Nat) (b1 : n1 < 3000) (b3 : n3 < 3000) (hk : k_keepsRow_0_L816_ok (M.1 73) (M.1 79) n1 n3) : GM z mX12_keepsRow (d) [.ref 54, .int (nI n1), .ref 73, .int (nI n3), .int (nI 0)] M (fun rs => rs = .inl (some (.int ((k_keepsRow_0_L816 (M.1 73) (M.1 79) n1 n3).1)), mrow (mrow M 73 ((k_keepsRow_0_L816 (M.1 73) (M.1 79) n1 n3).2.1)) 79 ((k_keepsRow_0_L816 (M.1 73) (M.1 79) n1 n3).2.2))) := by
  simp only [k_keepsRow_0_L816_ok] at hk
  refine GM.of oX12_keepsRow.1 (Nat.le_of_ble_eq_true rfl) ?_
  show G z mX12_keepsRow (d) 0 0 0 [some (.ref 54), some (.int (nI n1)), some (.ref 73), some (.int (nI n3)), some (.int (nI 0)), none] [] M _
  obtain ⟨Q, hQ⟩ : ∃ Q : Rs → Prop, Q = (fun rs => rs = .inl (some (.int ((k_keepsRow_0_L816 (M.1 73) (M.1 79) n1 n3).1)), mrow (mrow M 73 ((k_keepsRow_0_L816 (M.1 73) (M.1 79) n1 n3).2.1)) 79 ((k_keepsRow_0_L816 (M.1 73) (M.1 79) n1 n3).2.2))) := ⟨_, rfl⟩
  rw [← hQ]
  refine G.sl [(.iconst 0, 1, 0, 0, 0, nI 0), (.istore 5, 2, 5, 0, 0, 0)] [] (pc2 := 3) (ls2 := [some (.ref 54), some (.int (nI n1)), some (.ref 73), some (.int (nI n3)), some (.int (nI 0)), some (.int (nI 0))]) (st2 := []) (M2 := M) (Ps := []) (by decide +kernel) rfl rfl trivial ?_
  obtain ⟨k4, hk⟩ := hk
  refine lp_k_keepsRow_0_L816_54_73_3 z d M Q n1 n3 (by omega) (by omega) (by first | (simp only [mput, mrow_same, mrow_hit, mrow_miss, mrow_sw, idr_eq, ne_eq, Nat.reduceEqDiff, not_false_eq_true, Nat.reduceLT, reduceCtorEq]; exact k4) | exact k4) ?_
  try simp only [mput, mrow_same, mrow_hit, mrow_miss, mrow_sw, idr_eq, ne_eq, Nat.reduceEqDiff, not_false_eq_true, Nat.reduceLT, reduceCtorEq]
  rcases g5 : k_keepsRow_0_L816_3 (M.1 73) (M.1 79) n1 n3 n3 with ⟨r6, r7⟩
  show G z mX12_keepsRow (d) 0 0 49 [none, some (.int (nI n1)), none, some (.int (nI n3)), none, none] [] (mrow (mrow M 73 r6) 79 r7) Q
  refine G.sl [(.iload_n 1, 1, 1, 0, 0, 0), (.iload_n 3, 1, 3, 0, 0, 0), (.iadd, 1, 0, 0, 0, 0)] [] (pc2 := 52) (ls2 := [none, some (.int (nI n1)), none, some (.int (nI n3)), none, none]) (st2 := [.int ((nI n1) + (nI n3))]) (M2 := mrow (mrow M 73 r6) 79 r7) (Ps := []) (by decide +kernel) rfl rfl trivial ?_
  exact G.reti (by decide +kernel) rfl rfl (Nat.le_of_ble_eq_true rfl) (Nat.le_of_ble_eq_true rfl) ((by rw [hQ]; simp only [k_keepsRow_0_L816, g5, mrow_self]))
set_option maxHeartbeats 4000000 in
set_option maxRecDepth 3000 in
theorem c_k_keepsAll_0_54 (z : Zp) (d : Nat) (M : Mem) (n1 : Nat) (b1 : n1 < 3) (hk : k_keepsAll_0_ok (M.1 54) (M.1 71) (M.1 73) (M.1 79) n1) : GM z mX12_keepsAll (d + 1) [.ref 54, .int (nI n1), .int (nI 0)] M (fun rs => rs = .inl (none, mrow (mrow (mrow (mrow M 54 ((k_keepsAll_0 (M.1 54) (M.1 71) (M.1 73) (M.1 79) n1).2.1)) 71 ((k_keepsAll_0 (M.1 54) (M.1 71) (M.1 73) (M.1 79) n1).2.2.1)) 73 ((k_keepsAll_0 (M.1 54) (M.1 71) (M.1 73) (M.1 79) n1).2.2.2.1)) 79 ((k_keepsAll_0 (M.1 54) (M.1 71) (M.1 73) (M.1 79) n1).2.2.2.2))) := by
  simp only [k_keepsAll_0_ok] at hk
  refine GM.of oX12_keepsAll.1 (Nat.le_of_ble_eq_true rfl) ?_
  show G z mX12_keepsAll (d + 1) 0 0 0 [some (.ref 54), some (.int (nI n1)), some (.int (nI 0)), none] [] M _
  obtain ⟨Q, hQ⟩ : ∃ Q : Rs → Prop, Q = (fun rs => rs = .inl (none, mrow (mrow (mrow (mrow M 54 ((k_keepsAll_0 (M.1 54) (M.1 71) (M.1 73) (M.1 79) n1).2.1)) 71 ((k_keepsAll_0 (M.1 54) (M.1 71) (M.1 73) (M.1 79) n1).2.2.1)) 73 ((k_keepsAll_0 (M.1 54) (M.1 71) (M.1 73) (M.1 79) n1).2.2.2.1)) 79 ((k_keepsAll_0 (M.1 54) (M.1 71) (M.1 73) (M.1 79) n1).2.2.2.2))) := ⟨_, rfl⟩
  rw [← hQ]
  refine G.sl [(.aload_n 0, 1, 0, 0, 0, 0), (.sipush 868, 3, 0, 0, 0, nI 868), (.iload_n 1, 1, 1, 0, 0, 0), (.imul, 1, 0, 0, 0, 0), (.aload_n 0, 1, 0, 0, 0, 0), (.getfield 65, 3, 11, 40, 163, 0), (.bipush 51, 2, 0, 0, 0, nI 51), (.iload_n 2, 1, 2, 0, 0, 0)] [] (pc2 := 13) (ls2 := [some (.ref 54), some (.int (nI n1)), some (.int (nI 0)), none]) (st2 := [.int (nI 0), .int (nI 51), .ref 71, .int ((nI 868) * (nI n1)), .ref 54]) (M2 := M) (Ps := []) (by decide +kernel) rfl rfl trivial ?_
  obtain ⟨k1, hk⟩ := hk
  refine G.eq (st' := [.int (nI 0), .int (nI (cN 51)), .ref 71, .int (nI (868 * n1)), .ref 54]) ?_ rfl (by rw [← (show (nI 868) * (nI n1) = nI (868 * n1) from (pk_mul _ _)), ← (show nI 51 = nI (cN 51) from (by rw [cN_eq]))]) rfl
  rcases g2 : k_keepsRow_0_L51 (M.1 71) (M.1 79) (868 * n1) (cN 51) with ⟨v3, r4, r5⟩
  try simp only [g2] at hk
  have t6 : GM z mX12_keepsRow (d) [.ref 54, .int (nI (868 * n1)), .ref 71, .int (nI (cN 51)), .int (nI 0)] M (fun rs => rs = .inl (some (.int v3), mrow (mrow M 71 r4) 79 r5)) := by
    have q9 := c_k_keepsRow_0_L51_54_71 z d M (868 * n1) (cN 51) (by omega) (by rw [cN_eq]; omega) k1
    try simp only [mput, mrow_same, mrow_hit, mrow_miss, mrow_sw, idr_eq, ne_eq, Nat.reduceEqDiff, not_false_eq_true, Nat.reduceLT, reduceCtorEq, g2] at q9
    exact q9
  refine G.callV (as := [.int (nI (868 * n1)), .ref 71, .int (nI (cN 51)), .int (nI 0)]) (rest := []) (a := 54) oX12_keepsRow lk_EvenFindersModel_448 (by decide +kernel) rfl rfl ⟨rfl, rfl⟩ (Nat.le_of_ble_eq_true rfl) rfl ⟨Nat.le_of_ble_eq_true rfl, Nat.le_of_ble_eq_true rfl⟩ t6 (fun v9 N9 h7 => ?_) (fun E9 N9 h7 => by cases h7)
  cases h7
  show G z mX12_keepsAll (d + 1) 0 0 16 [some (.ref 54), some (.int (nI n1)), some (.int (nI 0)), none] [.int v3] (mrow (mrow M 71 r4) 79 r5) Q
  refine G.sl [(.istore_n 3, 1, 3, 0, 0, 0), (.aload_n 0, 1, 0, 0, 0, 0), (.iload_n 3, 1, 3, 0, 0, 0), (.aload_n 0, 1, 0, 0, 0, 0), (.getfield 71, 3, 11, 42, 165, 0), (.sipush 816, 3, 0, 0, 0, nI 816), (.iload_n 2, 1, 2, 0, 0, 0)] [] (pc2 := 27) (ls2 := [some (.ref 54), some (.int (nI n1)), some (.int (nI 0)), some (.int v3)]) (st2 := [.int (nI 0), .int (nI 816), .ref 73, .int v3, .ref 54]) (M2 := mrow (mrow M 71 r4) 79 r5) (Ps := []) (by decide +kernel) rfl rfl trivial ?_
  obtain ⟨k8, k9, hk⟩ := hk
  obtain ⟨k10, hk⟩ := hk
  refine G.eq (st' := [.int (nI 0), .int (nI (cN 816)), .ref 73, .int (nI (ix v3)), .ref 54]) ?_ rfl (by rw [← (show v3 = nI (ix v3) from (ixE k8)), ← (show nI 816 = nI (cN 816) from (by rw [cN_eq]))]) rfl
  rcases g11 : k_keepsRow_0_L816 (M.1 73) r5 (ix v3) (cN 816) with ⟨v12, r13, r14⟩
  try simp only [g11] at hk
  have t15 : GM z mX12_keepsRow (d) [.ref 54, .int (nI (ix v3)), .ref 73, .int (nI (cN 816)), .int (nI 0)] (mrow (mrow M 71 r4) 79 r5) (fun rs => rs = .inl (some (.int v12), mrow (mrow (mrow M 71 r4) 73 r13) 79 r14)) := by
    have q9 := c_k_keepsRow_0_L816_54_73 z d (mrow (mrow M 71 r4) 79 r5) (ix v3) (cN 816) k9 (by rw [cN_eq]; omega) k10
    try simp only [mput, mrow_same, mrow_hit, mrow_miss, mrow_sw, idr_eq, ne_eq, Nat.reduceEqDiff, not_false_eq_true, Nat.reduceLT, reduceCtorEq, g11] at q9
    exact q9
  refine G.callV (as := [.int (nI (ix v3)), .ref 73, .int (nI (cN 816)), .int (nI 0)]) (rest := []) (a := 54) oX12_keepsRow lk_EvenFindersModel_448 (by decide +kernel) rfl rfl ⟨rfl, rfl⟩ (Nat.le_of_ble_eq_true rfl) rfl ⟨Nat.le_of_ble_eq_true rfl, Nat.le_of_ble_eq_true rfl⟩ t15 (fun v9 N9 h16 => ?_) (fun E9 N9 h16 => by cases h16)
  cases h16
  show G z mX12_keepsAll (d + 1) 0 0 30 [some (.ref 54), some (.int (nI n1)), some (.int (nI 0)), some (.int v3)] [.int v12] (mrow (mrow (mrow M 71 r4) 73 r13) 79 r14) Q
  refine G.sl [(.istore_n 3, 1, 3, 0, 0, 0), (.iload_n 2, 1, 2, 0, 0, 0)] [] (pc2 := 32) (ls2 := [some (.ref 54), some (.int (nI n1)), some (.int (nI 0)), some (.int v12)]) (st2 := [.int (nI 0)]) (M2 := mrow (mrow (mrow M 71 r4) 73 r13) 79 r14) (Ps := []) (by decide +kernel) rfl rfl trivial ?_
  refine G.if_eq (off := (16)) (tgt := 48) (by decide +kernel) rfl (fun _ => ?_) (fun h9 => absurd (by decide) h9)
  obtain ⟨k17, k18, hk⟩ := hk
  refine G.sl [(.aload_n 0, 1, 0, 0, 0, 0), (.aload_n 0, 1, 0, 0, 0, 0), (.getfield 89, 3, 11, 50, 173, 0), (.iload_n 3, 1, 3, 0, 0, 0), (.iaload, 1, 0, 0, 0, 0), (.putfield 178, 3, 11, 35, 158, 0)] [ix v12] (pc2 := 58) (ls2 := [some (.ref 54), some (.int (nI n1)), some (.int (nI 0)), some (.int v12)]) (st2 := []) (M2 := mput (mrow (mrow (mrow M 71 r4) 73 r13) 79 r14) 54 35 (r14 (ix v12))) (Ps := [v12 = nI (ix v12) ∧ (ix v12) < 2604]) (by decide +kernel) rfl rfl ⟨⟨(ixE k17), k18⟩, trivial⟩ ?_
  refine G.mem (M' := mrow (mrow (mrow (mrow M 54 (upd (M.1 54) 35 (r14 (ix v12)))) 71 r4) 73 r13) 79 r14) (by first | rfl | (simp only [mput, mrow_same, mrow_hit, mrow_miss, mrow_sw, idr_eq, ne_eq, Nat.reduceEqDiff, not_false_eq_true, Nat.reduceLT, reduceCtorEq]; done)) ?_
  exact G.retv (by decide +kernel) rfl (Nat.le_of_ble_eq_true rfl) (Nat.le_of_ble_eq_true rfl) ((by rw [hQ]; simp only [k_keepsAll_0, g2, g11, mrow_self]))
set_option maxHeartbeats 4000000 in
set_option maxRecDepth 3000 in
theorem c_k_restore_54 (z : Zp) (d : Nat) (M : Mem) (hk : k_restore_ok (M.1 54) (M.1 71) (M.1 73) (M.1 79)) : GM z mX12_restore (d + 2) [.ref 54] M (fun rs => rs = .inl (some (.int ((k_restore (M.1 54) (M.1 71) (M.1 73) (M.1 79)).1)), mrow (mrow (mrow (mrow M 54 ((k_restore (M.1 54) (M.1 71) (M.1 73) (M.1 79)).2.1)) 71 ((k_restore (M.1 54) (M.1 71) (M.1 73) (M.1 79)).2.2.1)) 73 ((k_restore (M.1 54) (M.1 71) (M.1 73) (M.1 79)).2.2.2.1)) 79 ((k_restore (M.1 54) (M.1 71) (M.1 73) (M.1 79)).2.2.2.2))) := by
  simp only [k_restore_ok] at hk
  refine GM.of oX12_restore.1 (Nat.le_of_ble_eq_true rfl) ?_
  show G z mX12_restore (d + 2) 0 0 0 [some (.ref 54)] [] M _
  obtain ⟨Q, hQ⟩ : ∃ Q : Rs → Prop, Q = (fun rs => rs = .inl (some (.int ((k_restore (M.1 54) (M.1 71) (M.1 73) (M.1 79)).1)), mrow (mrow (mrow (mrow M 54 ((k_restore (M.1 54) (M.1 71) (M.1 73) (M.1 79)).2.1)) 71 ((k_restore (M.1 54) (M.1 71) (M.1 73) (M.1 79)).2.2.1)) 73 ((k_restore (M.1 54) (M.1 71) (M.1 73) (M.1 79)).2.2.2.1)) 79 ((k_restore (M.1 54) (M.1 71) (M.1 73) (M.1 79)).2.2.2.2))) := ⟨_, rfl⟩
  rw [← hQ]
  refine G.sl [(.aload_n 0, 1, 0, 0, 0, 0), (.iconst 0, 1, 0, 0, 0, nI 0), (.putfield 3, 3, 11, 0, 123, 0), (.aload_n 0, 1, 0, 0, 0, 0), (.getfield 181, 3, 11, 51, 174, 0)] [] (pc2 := 9) (ls2 := [some (.ref 54)]) (st2 := [.int (M.1 54 51)]) (M2 := mput M 54 0 (nI 0)) (Ps := []) (by decide +kernel) rfl rfl trivial ?_
  refine G.mem (M' := mrow M 54 (upd (M.1 54) 0 (nI 0))) (by first | rfl | (simp only [mput, mrow_same, mrow_hit, mrow_miss, mrow_sw, idr_eq, ne_eq, Nat.reduceEqDiff, not_false_eq_true, Nat.reduceLT, reduceCtorEq]; done)) ?_
  refine G.if_ne (off := (5)) (tgt := 14) (by decide +kernel) rfl (fun c1 => ?_) (fun c1 => ?_)
  · skip
    rw [if_neg c1] at hk
    refine G.sl [(.aload_n 0, 1, 0, 0, 0, 0), (.dup, 1, 0, 0, 0, 0), (.getfield 181, 3, 11, 51, 174, 0), (.iconst 1, 1, 0, 0, 0, nI 1), (.isub, 1, 0, 0, 0, 0), (.putfield 181, 3, 11, 51, 174, 0), (.aload_n 0, 1, 0, 0, 0, 0), (.aload_n 0, 1, 0, 0, 0, 0), (.getfield 181, 3, 11, 51, 174, 0), (.iconst 0, 1, 0, 0, 0, nI 0)] [] (pc2 := 30) (ls2 := [some (.ref 54)]) (st2 := [.int (nI 0), .int ((M.1 54 51) - (nI 1)), .ref 54]) (M2 := mput (mrow M 54 (upd (M.1 54) 0 (nI 0))) 54 51 ((M.1 54 51) - (nI 1))) (Ps := []) (by decide +kernel) rfl rfl trivial ?_
    refine G.mem (M' := mrow M 54 (upd (upd (M.1 54) 0 (nI 0)) 51 ((M.1 54 51) - (nI 1)))) (by first | rfl | (simp only [mput, mrow_same, mrow_hit, mrow_miss, mrow_sw, idr_eq, ne_eq, Nat.reduceEqDiff, not_false_eq_true, Nat.reduceLT, reduceCtorEq]; done)) ?_
    obtain ⟨k2, k3, hk⟩ := hk
    obtain ⟨k4, hk⟩ := hk
    refine G.eq (st' := [.int (nI 0), .int (nI (ix ((M.1 54 51) - (nI 1)))), .ref 54]) ?_ rfl (by rw [← (show (M.1 54 51) - (nI 1) = nI (ix ((M.1 54 51) - (nI 1))) from (ixE k2))]) rfl
    rcases g5 : k_keepsAll_0 (upd (upd (M.1 54) 0 (nI 0)) 51 ((M.1 54 51) - (nI 1))) (M.1 71) (M.1 73) (M.1 79) (ix ((M.1 54 51) - (nI 1))) with ⟨u6, r7, r8, r9, r10⟩
    have t11 : GM z mX12_keepsAll (d + 1) [.ref 54, .int (nI (ix ((M.1 54 51) - (nI 1)))), .int (nI 0)] (mrow M 54 (upd (upd (M.1 54) 0 (nI 0)) 51 ((M.1 54 51) - (nI 1)))) (fun rs => rs = .inl (none, mrow (mrow (mrow (mrow M 54 r7) 71 r8) 73 r9) 79 r10)) := by
      have q9 := c_k_keepsAll_0_54 z d (mrow M 54 (upd (upd (M.1 54) 0 (nI 0)) 51 ((M.1 54 51) - (nI 1)))) (ix ((M.1 54 51) - (nI 1))) k3 k4
      try simp only [mput, mrow_same, mrow_hit, mrow_miss, mrow_sw, idr_eq, ne_eq, Nat.reduceEqDiff, not_false_eq_true, Nat.reduceLT, reduceCtorEq, g5] at q9
      exact q9
    refine G.callV (as := [.int (nI (ix ((M.1 54 51) - (nI 1)))), .int (nI 0)]) (rest := []) (a := 54) oX12_keepsAll lk_EvenFindersModel_452 (by decide +kernel) rfl rfl ⟨rfl, rfl⟩ (Nat.le_of_ble_eq_true rfl) rfl ⟨Nat.le_of_ble_eq_true rfl, Nat.le_of_ble_eq_true rfl⟩ t11 (fun v9 N9 h12 => ?_) (fun E9 N9 h12 => by cases h12)
    cases h12
    show G z mX12_restore (d + 2) 0 0 33 [some (.ref 54)] [] (mrow (mrow (mrow (mrow M 54 r7) 71 r8) 73 r9) 79 r10) Q
    refine G.sl [(.aload_n 0, 1, 0, 0, 0, 0), (.iconst 0, 1, 0, 0, 0, nI 0), (.putfield 184, 3, 11, 36, 159, 0), (.aload_n 0, 1, 0, 0, 0, 0), (.getfield 181, 3, 11, 51, 174, 0)] [] (pc2 := 42) (ls2 := [some (.ref 54)]) (st2 := [.int (r7 51)]) (M2 := mput (mrow (mrow (mrow (mrow M 54 r7) 71 r8) 73 r9) 79 r10) 54 36 (nI 0)) (Ps := []) (by decide +kernel) rfl rfl trivial ?_
    refine G.mem (M' := mrow (mrow (mrow (mrow M 54 (upd r7 36 (nI 0))) 71 r8) 73 r9) 79 r10) (by first | rfl | (simp only [mput, mrow_same, mrow_hit, mrow_miss, mrow_sw, idr_eq, ne_eq, Nat.reduceEqDiff, not_false_eq_true, Nat.reduceLT, reduceCtorEq]; done)) ?_
    exact G.reti (by decide +kernel) rfl rfl (Nat.le_of_ble_eq_true rfl) (Nat.le_of_ble_eq_true rfl) ((by rw [hQ]; simp only [k_restore, if_neg c1, g5, mrow_self]))
  · skip
    rw [if_pos c1] at hk
    refine G.sl [(.iconst (-1), 1, 0, 0, 0, (-1))] [] (pc2 := 13) (ls2 := [some (.ref 54)]) (st2 := [.int ((-1))]) (M2 := mrow M 54 (upd (M.1 54) 0 (nI 0))) (Ps := []) (by decide +kernel) rfl rfl trivial ?_
    refine G.mem (M' := mrow (mrow (mrow (mrow M 54 (upd (M.1 54) 0 (nI 0))) 71 (M.1 71)) 73 (M.1 73)) 79 (M.1 79)) (((((mrow_id (N := mrow M 54 (upd (M.1 54) 0 (nI 0))) (c := 71) (f := M.1 71) (by first | rfl | (simp only [mput, mrow_same, mrow_hit, mrow_miss, mrow_sw, idr_eq, ne_eq, Nat.reduceEqDiff, not_false_eq_true, Nat.reduceLT, reduceCtorEq]; done))).symm).trans (mrow_id (N := mrow (mrow M 54 (upd (M.1 54) 0 (nI 0))) 71 (M.1 71)) (c := 73) (f := M.1 73) (by first | rfl | (simp only [mput, mrow_same, mrow_hit, mrow_miss, mrow_sw, idr_eq, ne_eq, Nat.reduceEqDiff, not_false_eq_true, Nat.reduceLT, reduceCtorEq]; done))).symm).trans (mrow_id (N := mrow (mrow (mrow M 54 (upd (M.1 54) 0 (nI 0))) 71 (M.1 71)) 73 (M.1 73)) (c := 79) (f := M.1 79) (by first | rfl | (simp only [mput, mrow_same, mrow_hit, mrow_miss, mrow_sw, idr_eq, ne_eq, Nat.reduceEqDiff, not_false_eq_true, Nat.reduceLT, reduceCtorEq]; done))).symm).trans (by first | rfl | (simp only [mput, mrow_same, mrow_hit, mrow_miss, mrow_sw, idr_eq, ne_eq, Nat.reduceEqDiff, not_false_eq_true, Nat.reduceLT, reduceCtorEq]; done))) ?_
    exact G.reti (by decide +kernel) rfl rfl (Nat.le_of_ble_eq_true rfl) (Nat.le_of_ble_eq_true rfl) ((by rw [hQ]; simp only [k_restore, if_pos c1, mrow_self]))
set_option maxHeartbeats 4000000 in
set_option maxRecDepth 3000 in
theorem c_k_status_54 (z : Zp) (d : Nat) (M : Mem) (x1 : Int32) (hk : k_status_ok (M.1 54) (M.1 55) x1) : GM z mX12_status (d + 1) [.ref 54, .int x1] M (fun rs => rs = .inl (some (.int ((k_status (M.1 54) (M.1 55) x1).1)), mrow M 54 ((k_status (M.1 54) (M.1 55) x1).2))) := by
  simp only [k_status_ok] at hk
  refine GM.of oX12_status.1 (Nat.le_of_ble_eq_true rfl) ?_
  show G z mX12_status (d + 1) 0 0 0 [some (.ref 54), some (.int x1)] [] M _
  obtain ⟨Q, hQ⟩ : ∃ Q : Rs → Prop, Q = (fun rs => rs = .inl (some (.int ((k_status (M.1 54) (M.1 55) x1).1)), mrow M 54 ((k_status (M.1 54) (M.1 55) x1).2))) := ⟨_, rfl⟩
  rw [← hQ]
  refine G.sl [(.aload_n 0, 1, 0, 0, 0, 0), (.iconst 0, 1, 0, 0, 0, nI 0), (.putfield 3, 3, 11, 0, 123, 0), (.iload_n 1, 1, 1, 0, 0, 0), (.iconst 0, 1, 0, 0, 0, nI 0), (.iconst 1, 1, 0, 0, 0, nI 1)] [] (pc2 := 8) (ls2 := [some (.ref 54), some (.int x1)]) (st2 := [.int (nI 1), .int (nI 0), .int x1]) (M2 := mput M 54 0 (nI 0)) (Ps := []) (by decide +kernel) rfl rfl trivial ?_
  refine G.mem (M' := mrow M 54 (upd (M.1 54) 0 (nI 0))) (by first | rfl | (simp only [mput, mrow_same, mrow_hit, mrow_miss, mrow_sw, idr_eq, ne_eq, Nat.reduceEqDiff, not_false_eq_true, Nat.reduceLT, reduceCtorEq]; done)) ?_
  obtain ⟨k1, hk⟩ := hk
  have t2 : GM z mX12_within (d) [.int x1, .int (nI 0), .int (nI 1)] (mrow M 54 (upd (M.1 54) 0 (nI 0))) (fun rs => rs = .inl (some (.int (k_within x1 (nI 0) (nI 1))), mrow M 54 (upd (M.1 54) 0 (nI 0)))) := by
    have q9 := c_k_within z d (mrow M 54 (upd (M.1 54) 0 (nI 0))) x1 (nI 0) (nI 1)
    try simp only [mput, mrow_same, mrow_hit, mrow_miss, mrow_sw, idr_eq, ne_eq, Nat.reduceEqDiff, not_false_eq_true, Nat.reduceLT, reduceCtorEq] at q9
    exact q9
  refine G.callS (as := [.int x1, .int (nI 0), .int (nI 1)]) (rest := []) oX12_within lk_EvenFindersModel_379 (by decide +kernel) rfl (Nat.le_of_ble_eq_true rfl) rfl ⟨Nat.le_of_ble_eq_true rfl, Nat.le_of_ble_eq_true rfl⟩ t2 (fun v9 N9 h3 => ?_) (fun E9 N9 h3 => by cases h3)
  cases h3
  show G z mX12_status (d + 1) 0 0 11 [some (.ref 54), some (.int x1)] [.int (k_within x1 (nI 0) (nI 1))] (mrow M 54 (upd (M.1 54) 0 (nI 0))) Q
  refine G.if_eq (off := (12)) (tgt := 23) (by decide +kernel) rfl (fun c4 => ?_) (fun c4 => ?_)
  · skip
    rw [if_pos c4] at hk
    refine G.sl [(.iconst (-1), 1, 0, 0, 0, (-1))] [] (pc2 := 24) (ls2 := [some (.ref 54), some (.int x1)]) (st2 := [.int ((-1))]) (M2 := mrow M 54 (upd (M.1 54) 0 (nI 0))) (Ps := []) (by decide +kernel) rfl rfl trivial ?_
    exact G.reti (by decide +kernel) rfl rfl (Nat.le_of_ble_eq_true rfl) (Nat.le_of_ble_eq_true rfl) ((by rw [hQ]; simp only [k_status, if_pos c4, mrow_self]))
  · skip
    rw [if_neg c4] at hk
    obtain ⟨k5, k6, hk⟩ := hk
    refine G.sl [(.aload_n 0, 1, 0, 0, 0, 0), (.getfield 7, 3, 11, 1, 124, 0), (.iload_n 1, 1, 1, 0, 0, 0), (.iaload, 1, 0, 0, 0, 0), (.goto 4, 3, 24, 0, 0, 0)] [ix x1] (pc2 := 24) (ls2 := [some (.ref 54), some (.int x1)]) (st2 := [.int (M.1 55 (ix x1))]) (M2 := mrow M 54 (upd (M.1 54) 0 (nI 0))) (Ps := [x1 = nI (ix x1) ∧ (ix x1) < 2]) (by decide +kernel) rfl rfl ⟨⟨(ixE k5), k6⟩, trivial⟩ ?_
    exact G.reti (by decide +kernel) rfl rfl (Nat.le_of_ble_eq_true rfl) (Nat.le_of_ble_eq_true rfl) ((by rw [hQ]; simp only [k_status, if_neg c4, mrow_self]))
set_option maxHeartbeats 4000000 in
set_option maxRecDepth 3000 in
theorem c_k_count_54 (z : Zp) (d : Nat) (M : Mem) (x1 : Int32) : GM z mX12_count (d) [.ref 54, .int x1] M (fun rs => rs = .inl (some (.int ((k_count (M.1 54) x1).1)), mrow M 54 ((k_count (M.1 54) x1).2))) := by
  refine GM.of oX12_count.1 (Nat.le_of_ble_eq_true rfl) ?_
  show G z mX12_count (d) 0 0 0 [some (.ref 54), some (.int x1)] [] M _
  obtain ⟨Q, hQ⟩ : ∃ Q : Rs → Prop, Q = (fun rs => rs = .inl (some (.int ((k_count (M.1 54) x1).1)), mrow M 54 ((k_count (M.1 54) x1).2))) := ⟨_, rfl⟩
  rw [← hQ]
  refine G.sl [(.aload_n 0, 1, 0, 0, 0, 0), (.iconst 0, 1, 0, 0, 0, nI 0), (.putfield 3, 3, 11, 0, 123, 0), (.iload_n 1, 1, 1, 0, 0, 0)] [] (pc2 := 6) (ls2 := [some (.ref 54), some (.int x1)]) (st2 := [.int x1]) (M2 := mput M 54 0 (nI 0)) (Ps := []) (by decide +kernel) rfl rfl trivial ?_
  refine G.mem (M' := mrow M 54 (upd (M.1 54) 0 (nI 0))) (by first | rfl | (simp only [mput, mrow_same, mrow_hit, mrow_miss, mrow_sw, idr_eq, ne_eq, Nat.reduceEqDiff, not_false_eq_true, Nat.reduceLT, reduceCtorEq]; done)) ?_
  refine G.if_ne (off := (10)) (tgt := 16) (by decide +kernel) rfl (fun c1 => ?_) (fun c1 => ?_)
  · skip
    refine G.sl [(.iload_n 1, 1, 1, 0, 0, 0), (.iconst 1, 1, 0, 0, 0, nI 1)] [] (pc2 := 18) (ls2 := [some (.ref 54), some (.int x1)]) (st2 := [.int (nI 1), .int x1]) (M2 := mrow M 54 (upd (M.1 54) 0 (nI 0))) (Ps := []) (by decide +kernel) rfl rfl trivial ?_
    refine G.ic_ne (off := (10)) (tgt := 28) (by decide +kernel) rfl (fun c2 => ?_) (fun c2 => ?_)
    · skip
      refine G.sl [(.iload_n 1, 1, 1, 0, 0, 0), (.iconst 2, 1, 0, 0, 0, nI 2)] [] (pc2 := 30) (ls2 := [some (.ref 54), some (.int x1)]) (st2 := [.int (nI 2), .int x1]) (M2 := mrow M 54 (upd (M.1 54) 0 (nI 0))) (Ps := []) (by decide +kernel) rfl rfl trivial ?_
      refine G.ic_ne (off := (10)) (tgt := 40) (by decide +kernel) rfl (fun c3 => ?_) (fun c3 => ?_)
      · skip
        refine G.sl [(.iconst (-1), 1, 0, 0, 0, (-1))] [] (pc2 := 41) (ls2 := [some (.ref 54), some (.int x1)]) (st2 := [.int ((-1))]) (M2 := mrow M 54 (upd (M.1 54) 0 (nI 0))) (Ps := []) (by decide +kernel) rfl rfl trivial ?_
        exact G.reti (by decide +kernel) rfl rfl (Nat.le_of_ble_eq_true rfl) (Nat.le_of_ble_eq_true rfl) ((by rw [hQ]; simp only [k_count, if_neg c1, if_neg c2, if_neg c3, mrow_self]))
      · skip
        refine G.sl [(.aload_n 0, 1, 0, 0, 0, 0), (.getfield 178, 3, 11, 35, 158, 0), (.goto 4, 3, 41, 0, 0, 0)] [] (pc2 := 41) (ls2 := [some (.ref 54), some (.int x1)]) (st2 := [.int (M.1 54 35)]) (M2 := mrow M 54 (upd (M.1 54) 0 (nI 0))) (Ps := []) (by decide +kernel) rfl rfl trivial ?_
        exact G.reti (by decide +kernel) rfl rfl (Nat.le_of_ble_eq_true rfl) (Nat.le_of_ble_eq_true rfl) ((by rw [hQ]; simp only [k_count, if_neg c1, if_neg c2, if_pos c3, mrow_self]))
    · skip
      refine G.sl [(.aload_n 0, 1, 0, 0, 0, 0), (.getfield 98, 3, 11, 2, 125, 0), (.goto 16, 3, 41, 0, 0, 0)] [] (pc2 := 41) (ls2 := [some (.ref 54), some (.int x1)]) (st2 := [.int (M.1 54 2)]) (M2 := mrow M 54 (upd (M.1 54) 0 (nI 0))) (Ps := []) (by decide +kernel) rfl rfl trivial ?_
      exact G.reti (by decide +kernel) rfl rfl (Nat.le_of_ble_eq_true rfl) (Nat.le_of_ble_eq_true rfl) ((by rw [hQ]; simp only [k_count, if_neg c1, if_pos c2, mrow_self]))
  · skip
    refine G.sl [(.aload_n 0, 1, 0, 0, 0, 0), (.getfield 181, 3, 11, 51, 174, 0), (.goto 28, 3, 41, 0, 0, 0)] [] (pc2 := 41) (ls2 := [some (.ref 54), some (.int x1)]) (st2 := [.int (M.1 54 51)]) (M2 := mrow M 54 (upd (M.1 54) 0 (nI 0))) (Ps := []) (by decide +kernel) rfl rfl trivial ?_
    exact G.reti (by decide +kernel) rfl rfl (Nat.le_of_ble_eq_true rfl) (Nat.le_of_ble_eq_true rfl) ((by rw [hQ]; simp only [k_count, if_pos c1, mrow_self]))
set_option maxHeartbeats 4000000 in
set_option maxRecDepth 3000 in
theorem c_k_thrown_54 (z : Zp) (d : Nat) (M : Mem) : GM z mX12_thrown (d) [.ref 54] M (fun rs => rs = .inl (some (.int (k_thrown (M.1 54))), M)) := by
  refine GM.of oX12_thrown.1 (Nat.le_of_ble_eq_true rfl) ?_
  show G z mX12_thrown (d) 0 0 0 [some (.ref 54)] [] M _
  obtain ⟨Q, hQ⟩ : ∃ Q : Rs → Prop, Q = (fun rs => rs = .inl (some (.int (k_thrown (M.1 54))), M)) := ⟨_, rfl⟩
  rw [← hQ]
  refine G.sl [(.aload_n 0, 1, 0, 0, 0, 0), (.getfield 3, 3, 11, 0, 123, 0)] [] (pc2 := 4) (ls2 := [some (.ref 54)]) (st2 := [.int (M.1 54 0)]) (M2 := M) (Ps := []) (by decide +kernel) rfl rfl trivial ?_
  exact G.reti (by decide +kernel) rfl rfl (Nat.le_of_ble_eq_true rfl) (Nat.le_of_ble_eq_true rfl) ((by rw [hQ]; simp only [k_thrown, mrow_self]))
set_option maxHeartbeats 4000000 in
set_option maxRecDepth 3000 in
theorem lp_t_word_s1_1_19 (z : Zp) (d : Nat) (M : Mem) (Q : Rs → Prop) : ∀ (k0 : Nat) (s2 : Int32), t_word_s1_19_ok (M.1 1) (M.1 2) k0 s2 → (match t_word_s1_19 (M.1 1) (M.1 2) k0 s2 with | s2' => G z mX6_word (d + 5) 0 0 55 [some (.ref 1), some (.ref 1001), some (.int (s2')), none] [] M Q) → G z mX6_word (d + 5) 0 0 19 [some (.ref 1), some (.ref 1001), some (.int s2), none] [] M Q := by
  intro k0
  induction k0 with
  | zero =>
      intro s2 hk hX
      exact (by simpa only [t_word_s1_19_ok] using hk : False).elim
  | succ k0 ih =>
      intro s2 hk hX
      simp only [t_word_s1_19_ok] at hk
      refine G.sl [(.iload_n 2, 1, 2, 0, 0, 0), (.aload_n 0, 1, 0, 0, 0, 0), (.getfield 31, 3, 5, 5, 12, 0)] [] (pc2 := 24) (ls2 := [some (.ref 1), some (.ref 1001), some (.int s2), none]) (st2 := [.int (M.1 1 5), .int s2]) (M2 := M) (Ps := []) (by decide +kernel) rfl rfl trivial ?_
      refine G.ic_ge (off := (31)) (tgt := 55) (by decide +kernel) rfl (fun c8 => ?_) (fun c8 => ?_)
      · skip
        rw [if_pos c8] at hk
        simp only [t_word_s1_19, if_pos c8] at hX
        exact hX
      · skip
        rw [if_neg c8] at hk
        obtain ⟨k9, k10, hk⟩ := hk
        refine G.sl [(.aload_n 0, 1, 0, 0, 0, 0), (.getfield 9, 3, 5, 0, 0, 0), (.iload_n 2, 1, 2, 0, 0, 0), (.iaload, 1, 0, 0, 0, 0), (.bipush 97, 2, 0, 0, 0, nI 97)] [ix s2] (pc2 := 35) (ls2 := [some (.ref 1), some (.ref 1001), some (.int s2), none]) (st2 := [.int (nI 97), .int (M.1 2 (ix s2))]) (M2 := M) (Ps := [s2 = nI (ix s2) ∧ (ix s2) < 600]) (by decide +kernel) rfl rfl ⟨⟨(ixE k9), k10⟩, trivial⟩ ?_
        refine G.ic_lt (off := (20)) (tgt := 55) (by decide +kernel) rfl (fun c11 => ?_) (fun c11 => ?_)
        · skip
          rw [if_pos c11] at hk
          simp only [t_word_s1_19, if_neg c8, if_pos c11] at hX
          exact hX
        · skip
          rw [if_neg c11] at hk
          refine G.sl [(.aload_n 0, 1, 0, 0, 0, 0), (.getfield 9, 3, 5, 0, 0, 0), (.iload_n 2, 1, 2, 0, 0, 0), (.iaload, 1, 0, 0, 0, 0), (.bipush 122, 2, 0, 0, 0, nI 122)] [ix s2] (pc2 := 46) (ls2 := [some (.ref 1), some (.ref 1001), some (.int s2), none]) (st2 := [.int (nI 122), .int (M.1 2 (ix s2))]) (M2 := M) (Ps := [s2 = nI (ix s2) ∧ (ix s2) < 600]) (by decide +kernel) rfl rfl ⟨⟨(ixE k9), k10⟩, trivial⟩ ?_
          refine G.ic_gt (off := (9)) (tgt := 55) (by decide +kernel) rfl (fun c12 => ?_) (fun c12 => ?_)
          · skip
            rw [if_pos c12] at hk
            simp only [t_word_s1_19, if_neg c8, if_neg c11, if_pos c12] at hX
            exact hX
          · skip
            rw [if_neg c12] at hk
            refine G.sl [(.iinc 2 1, 3, 2, 0, 0, nI 1), (.goto (-33), 3, 19, 0, 0, 0)] [] (pc2 := 19) (ls2 := [some (.ref 1), some (.ref 1001), some (.int (s2 + nI 1)), none]) (st2 := []) (M2 := M) (Ps := []) (by decide +kernel) rfl rfl trivial ?_
            simp only [t_word_s1_19, if_neg c8, if_neg c11, if_neg c12] at hX
            exact ih (s2 + nI 1) hk hX
set_option maxHeartbeats 4000000 in
set_option maxRecDepth 3000 in
theorem lp_t_indexIn_s1_1_14 (z : Zp) (d : Nat) (M : Mem) (Q : Rs → Prop) (nn : Nat) (x2 : Int32) (hnn : nn = 28) : ∀ (k0 : Nat) (i6 : Nat) (s3 : Int32) (s4 : Int32) (s5 : Int32), i6 + k0 = nn → t_indexIn_s1_14_ok (M.1 1) (M.1 2) x2 k0 i6 s3 s4 s5 → (match t_indexIn_s1_14 (M.1 1) (M.1 2) x2 k0 i6 s3 s4 s5 with | .inl v' => Q (.inl (some (.int v'), M)) | .inr (s3', s4', s5') => G z mX6_indexIn (d + 4) 0 0 105 [none, none, some (.int x2), some (.int (s3')), some (.int (s4')), some (.int (s5')), none, none] [] M Q) → G z mX6_indexIn (d + 4) 0 0 14 [some (.ref 1), some (.ref 1001), some (.int x2), some (.int s3), some (.int s4), some (.int s5), some (.int (nI i6)), none] [] M Q := by
  intro k0
  induction k0 with
  | zero =>
      intro i6 s3 s4 s5 hn hk hX
      refine G.sl [(.iload 6, 2, 6, 0, 0, 0), (.aload_n 1, 1, 1, 0, 0, 0)] [] (pc2 := 17) (ls2 := [some (.ref 1), some (.ref 1001), some (.int x2), some (.int s3), some (.int s4), some (.int s5), some (.int (nI i6)), none]) (st2 := [.ref 1001, .int (nI i6)]) (M2 := M) (Ps := []) (by decide +kernel) rfl rfl trivial ?_
      have t13 : GM z mJ0_length_8abf5 (d + 3) [.ref 1001] M (fun rs => rs = .inl (some (.int (nI 28)), M)) := c_slen z _ _ 1 (by decide)
      refine G.callT (as := []) (rest := [.int (nI i6)]) (i := 1) oJ0_length_8abf5 lk_EvenFinders_Tape_59 (by decide +kernel) rfl (by decide) rfl (Nat.le_of_ble_eq_true rfl) rfl ⟨Nat.le_of_ble_eq_true rfl, Nat.le_of_ble_eq_true rfl⟩ t13 (fun v9 N9 h14 => ?_) (fun E9 N9 h14 => by cases h14)
      cases h14
      show G z mX6_indexIn (d + 4) 0 0 20 [some (.ref 1), some (.ref 1001), some (.int x2), some (.int s3), some (.int s4), some (.int s5), some (.int (nI i6)), none] [.int (nI 28), .int (nI i6)] M Q
      refine G.ic_ge (off := (85)) (tgt := 105) (by decide +kernel) rfl (fun _ => ?_) (fun h9 => absurd (nI_le (by omega) (by omega)) h9)
      refine G.loc (ls2 := [none, none, some (.int x2), some (.int s3), some (.int s4), some (.int s5), none, none]) (by simp [subL]) ?_
      simp only [t_indexIn_s1_14] at hX
      exact hX
  | succ k0 ih =>
      intro i6 s3 s4 s5 hn hk hX
      simp only [t_indexIn_s1_14_ok] at hk
      refine G.sl [(.iload 6, 2, 6, 0, 0, 0), (.aload_n 1, 1, 1, 0, 0, 0)] [] (pc2 := 17) (ls2 := [some (.ref 1), some (.ref 1001), some (.int x2), some (.int s3), some (.int s4), some (.int s5), some (.int (nI i6)), none]) (st2 := [.ref 1001, .int (nI i6)]) (M2 := M) (Ps := []) (by decide +kernel) rfl rfl trivial ?_
      have t1 : GM z mJ0_length_8abf5 (d + 3) [.ref 1001] M (fun rs => rs = .inl (some (.int (nI 28)), M)) := c_slen z _ _ 1 (by decide)
      refine G.callT (as := []) (rest := [.int (nI i6)]) (i := 1) oJ0_length_8abf5 lk_EvenFinders_Tape_59 (by decide +kernel) rfl (by decide) rfl (Nat.le_of_ble_eq_true rfl) rfl ⟨Nat.le_of_ble_eq_true rfl, Nat.le_of_ble_eq_true rfl⟩ t1 (fun v9 N9 h2 => ?_) (fun E9 N9 h2 => by cases h2)
      cases h2
      show G z mX6_indexIn (d + 4) 0 0 20 [some (.ref 1), some (.ref 1001), some (.int x2), some (.int s3), some (.int s4), some (.int s5), some (.int (nI i6)), none] [.int (nI 28), .int (nI i6)] M Q
      refine G.ic_ge (off := (85)) (tgt := 105) (by decide +kernel) rfl (fun h9 => absurd h9 (nI_ge (by omega) (by omega))) (fun _ => ?_)
      refine G.sl [(.aload_n 1, 1, 1, 0, 0, 0), (.iload 6, 2, 6, 0, 0, 0)] [] (pc2 := 26) (ls2 := [some (.ref 1), some (.ref 1001), some (.int x2), some (.int s3), some (.int s4), some (.int s5), some (.int (nI i6)), none]) (st2 := [.int (nI i6), .ref 1001]) (M2 := M) (Ps := []) (by decide +kernel) rfl rfl trivial ?_
      have t3 : GM z mJ0_charAt_5068e (d + 3) [.ref 1001, .int (nI i6)] M (fun rs => rs = .inl (some (.int (sby 1 i6)), M)) := c_charAt z _ _ 1 i6 (by decide) (show i6 < 28 from (by omega))
      refine G.callT (as := [.int (nI i6)]) (rest := []) (i := 1) oJ0_charAt_5068e lk_EvenFinders_Tape_63 (by decide +kernel) rfl (by decide) rfl (Nat.le_of_ble_eq_true rfl) rfl ⟨Nat.le_of_ble_eq_true rfl, Nat.le_of_ble_eq_true rfl⟩ t3 (fun v9 N9 h4 => ?_) (fun E9 N9 h4 => by cases h4)
      cases h4
      show G z mX6_indexIn (d + 4) 0 0 29 [some (.ref 1), some (.ref 1001), some (.int x2), some (.int s3), some (.int s4), some (.int s5), some (.int (nI i6)), none] [.int (sby 1 i6)] M Q
      refine G.sl [(.istore 7, 2, 7, 0, 0, 0), (.iload 7, 2, 7, 0, 0, 0), (.bipush 32, 2, 0, 0, 0, nI 32)] [] (pc2 := 35) (ls2 := [some (.ref 1), some (.ref 1001), some (.int x2), some (.int s3), some (.int s4), some (.int s5), some (.int (nI i6)), some (.int (sby 1 i6))]) (st2 := [.int (nI 32), .int (sby 1 i6)]) (M2 := M) (Ps := []) (by decide +kernel) rfl rfl trivial ?_
      refine G.ic_eq (off := (39)) (tgt := 74) (by decide +kernel) rfl (fun c5 => ?_) (fun c5 => ?_)
      · skip
        rw [if_pos c5] at hk
        refine G.sl [(.iload 5, 2, 5, 0, 0, 0)] [] (pc2 := 76) (ls2 := [some (.ref 1), some (.ref 1001), some (.int x2), some (.int s3), some (.int s4), some (.int s5), some (.int (nI i6)), some (.int (sby 1 i6))]) (st2 := [.int s5]) (M2 := M) (Ps := []) (by decide +kernel) rfl rfl trivial ?_
        refine G.if_eq (off := (11)) (tgt := 87) (by decide +kernel) rfl (fun c6 => ?_) (fun c6 => ?_)
        · skip
          rw [if_pos c6] at hk
          refine G.sl [(.iinc 3 1, 3, 3, 0, 0, nI 1), (.aload_n 0, 1, 0, 0, 0, 0), (.getfield 34, 3, 5, 6, 13, 0), (.istore 4, 2, 4, 0, 0, 0), (.iconst 1, 1, 0, 0, 0, nI 1), (.istore 5, 2, 5, 0, 0, 0), (.iinc 6 1, 3, 6, 0, 0, nI 1), (.goto (-88), 3, 14, 0, 0, 0)] [] (pc2 := 14) (ls2 := [some (.ref 1), some (.ref 1001), some (.int x2), some (.int (s3 + nI 1)), some (.int (M.1 1 6)), some (.int (nI 1)), some (.int ((nI i6) + nI 1)), some (.int (sby 1 i6))]) (st2 := []) (M2 := M) (Ps := []) (by decide +kernel) rfl rfl trivial ?_
          refine G.loc (ls2 := [some (.ref 1), some (.ref 1001), some (.int x2), some (.int (s3 + nI 1)), some (.int (M.1 1 6)), some (.int (nI 1)), some (.int ((nI i6) + nI 1)), none]) (by simp [subL]) ?_
          rw [nI_add i6 1]
          simp only [t_indexIn_s1_14, if_pos c5, if_pos c6] at hX
          exact ih (i6 + 1) (s3 + nI 1) (M.1 1 6) (nI 1) (by omega) hk hX
        · skip
          rw [if_neg c6] at hk
          refine G.sl [(.iload 4, 2, 4, 0, 0, 0), (.iload_n 2, 1, 2, 0, 0, 0)] [] (pc2 := 82) (ls2 := [some (.ref 1), some (.ref 1001), some (.int x2), some (.int s3), some (.int s4), some (.int s5), some (.int (nI i6)), some (.int (sby 1 i6))]) (st2 := [.int x2, .int s4]) (M2 := M) (Ps := []) (by decide +kernel) rfl rfl trivial ?_
          refine G.ic_ne (off := (5)) (tgt := 87) (by decide +kernel) rfl (fun c7 => ?_) (fun c7 => ?_)
          · skip
            rw [if_neg c7] at hk
            refine G.sl [(.iinc 3 1, 3, 3, 0, 0, nI 1), (.aload_n 0, 1, 0, 0, 0, 0), (.getfield 34, 3, 5, 6, 13, 0), (.istore 4, 2, 4, 0, 0, 0), (.iconst 1, 1, 0, 0, 0, nI 1), (.istore 5, 2, 5, 0, 0, 0), (.iinc 6 1, 3, 6, 0, 0, nI 1), (.goto (-88), 3, 14, 0, 0, 0)] [] (pc2 := 14) (ls2 := [some (.ref 1), some (.ref 1001), some (.int x2), some (.int (s3 + nI 1)), some (.int (M.1 1 6)), some (.int (nI 1)), some (.int ((nI i6) + nI 1)), some (.int (sby 1 i6))]) (st2 := []) (M2 := M) (Ps := []) (by decide +kernel) rfl rfl trivial ?_
            refine G.loc (ls2 := [some (.ref 1), some (.ref 1001), some (.int x2), some (.int (s3 + nI 1)), some (.int (M.1 1 6)), some (.int (nI 1)), some (.int ((nI i6) + nI 1)), none]) (by simp [subL]) ?_
            rw [nI_add i6 1]
            simp only [t_indexIn_s1_14, if_pos c5, if_neg c6, if_neg c7] at hX
            exact ih (i6 + 1) (s3 + nI 1) (M.1 1 6) (nI 1) (by omega) hk hX
          · skip
            rw [if_pos c7] at hk
            refine G.sl [(.iload_n 3, 1, 3, 0, 0, 0)] [] (pc2 := 86) (ls2 := [some (.ref 1), some (.ref 1001), some (.int x2), some (.int s3), some (.int s4), some (.int s5), some (.int (nI i6)), some (.int (sby 1 i6))]) (st2 := [.int s3]) (M2 := M) (Ps := []) (by decide +kernel) rfl rfl trivial ?_
            exact G.reti (by decide +kernel) rfl rfl (Nat.le_of_ble_eq_true rfl) (Nat.le_of_ble_eq_true rfl) ((by simp only [t_indexIn_s1_14, if_pos c5, if_neg c6, if_pos c7] at hX; exact hX))
      · skip
        rw [if_neg c5] at hk
        refine G.sl [(.iload 5, 2, 5, 0, 0, 0)] [] (pc2 := 40) (ls2 := [some (.ref 1), some (.ref 1001), some (.int x2), some (.int s3), some (.int s4), some (.int s5), some (.int (nI i6)), some (.int (sby 1 i6))]) (st2 := [.int s5]) (M2 := M) (Ps := []) (by decide +kernel) rfl rfl trivial ?_
        refine G.if_eq (off := (25)) (tgt := 65) (by decide +kernel) rfl (fun c8 => ?_) (fun c8 => ?_)
        · skip
          rw [if_pos c8] at hk
          refine G.sl [(.iconst 0, 1, 0, 0, 0, nI 0), (.istore 5, 2, 5, 0, 0, 0), (.iinc 4 1, 3, 4, 0, 0, nI 1), (.goto 28, 3, 99, 0, 0, 0), (.iinc 6 1, 3, 6, 0, 0, nI 1), (.goto (-88), 3, 14, 0, 0, 0)] [] (pc2 := 14) (ls2 := [some (.ref 1), some (.ref 1001), some (.int x2), some (.int s3), some (.int (s4 + nI 1)), some (.int (nI 0)), some (.int ((nI i6) + nI 1)), some (.int (sby 1 i6))]) (st2 := []) (M2 := M) (Ps := []) (by decide +kernel) rfl rfl trivial ?_
          refine G.loc (ls2 := [some (.ref 1), some (.ref 1001), some (.int x2), some (.int s3), some (.int (s4 + nI 1)), some (.int (nI 0)), some (.int ((nI i6) + nI 1)), none]) (by simp [subL]) ?_
          rw [nI_add i6 1]
          simp only [t_indexIn_s1_14, if_neg c5, if_pos c8] at hX
          exact ih (i6 + 1) s3 (s4 + nI 1) (nI 0) (by omega) hk hX
        · skip
          rw [if_neg c8] at hk
          refine G.sl [(.iload 4, 2, 4, 0, 0, 0), (.iload_n 2, 1, 2, 0, 0, 0)] [] (pc2 := 46) (ls2 := [some (.ref 1), some (.ref 1001), some (.int x2), some (.int s3), some (.int s4), some (.int s5), some (.int (nI i6)), some (.int (sby 1 i6))]) (st2 := [.int x2, .int s4]) (M2 := M) (Ps := []) (by decide +kernel) rfl rfl trivial ?_
          refine G.ic_ge (off := (19)) (tgt := 65) (by decide +kernel) rfl (fun c9 => ?_) (fun c9 => ?_)
          · skip
            rw [if_pos c9] at hk
            refine G.sl [(.iconst 0, 1, 0, 0, 0, nI 0), (.istore 5, 2, 5, 0, 0, 0), (.iinc 4 1, 3, 4, 0, 0, nI 1), (.goto 28, 3, 99, 0, 0, 0), (.iinc 6 1, 3, 6, 0, 0, nI 1), (.goto (-88), 3, 14, 0, 0, 0)] [] (pc2 := 14) (ls2 := [some (.ref 1), some (.ref 1001), some (.int x2), some (.int s3), some (.int (s4 + nI 1)), some (.int (nI 0)), some (.int ((nI i6) + nI 1)), some (.int (sby 1 i6))]) (st2 := []) (M2 := M) (Ps := []) (by decide +kernel) rfl rfl trivial ?_
            refine G.loc (ls2 := [some (.ref 1), some (.ref 1001), some (.int x2), some (.int s3), some (.int (s4 + nI 1)), some (.int (nI 0)), some (.int ((nI i6) + nI 1)), none]) (by simp [subL]) ?_
            rw [nI_add i6 1]
            simp only [t_indexIn_s1_14, if_neg c5, if_neg c8, if_pos c9] at hX
            exact ih (i6 + 1) s3 (s4 + nI 1) (nI 0) (by omega) hk hX
          · skip
            rw [if_neg c9] at hk
            obtain ⟨k10, k11, hk⟩ := hk
            refine G.sl [(.aload_n 0, 1, 0, 0, 0, 0), (.getfield 9, 3, 5, 0, 0, 0), (.iload 4, 2, 4, 0, 0, 0), (.iaload, 1, 0, 0, 0, 0), (.iload 7, 2, 7, 0, 0, 0)] [ix s4] (pc2 := 58) (ls2 := [some (.ref 1), some (.ref 1001), some (.int x2), some (.int s3), some (.int s4), some (.int s5), some (.int (nI i6)), some (.int (sby 1 i6))]) (st2 := [.int (sby 1 i6), .int (M.1 2 (ix s4))]) (M2 := M) (Ps := [s4 = nI (ix s4) ∧ (ix s4) < 600]) (by decide +kernel) rfl rfl ⟨⟨(ixE k10), k11⟩, trivial⟩ ?_
            refine G.ic_ne (off := (7)) (tgt := 65) (by decide +kernel) rfl (fun c12 => ?_) (fun c12 => ?_)
            · skip
              rw [if_neg c12] at hk
              refine G.sl [(.iconst 0, 1, 0, 0, 0, nI 0), (.istore 5, 2, 5, 0, 0, 0), (.iinc 4 1, 3, 4, 0, 0, nI 1), (.goto 28, 3, 99, 0, 0, 0), (.iinc 6 1, 3, 6, 0, 0, nI 1), (.goto (-88), 3, 14, 0, 0, 0)] [] (pc2 := 14) (ls2 := [some (.ref 1), some (.ref 1001), some (.int x2), some (.int s3), some (.int (s4 + nI 1)), some (.int (nI 0)), some (.int ((nI i6) + nI 1)), some (.int (sby 1 i6))]) (st2 := []) (M2 := M) (Ps := []) (by decide +kernel) rfl rfl trivial ?_
              refine G.loc (ls2 := [some (.ref 1), some (.ref 1001), some (.int x2), some (.int s3), some (.int (s4 + nI 1)), some (.int (nI 0)), some (.int ((nI i6) + nI 1)), none]) (by simp [subL]) ?_
              rw [nI_add i6 1]
              simp only [t_indexIn_s1_14, if_neg c5, if_neg c8, if_neg c9, if_neg c12] at hX
              exact ih (i6 + 1) s3 (s4 + nI 1) (nI 0) (by omega) hk hX
            · skip
              rw [if_pos c12] at hk
              refine G.sl [(.iconst 1, 1, 0, 0, 0, nI 1), (.goto 4, 3, 66, 0, 0, 0), (.istore 5, 2, 5, 0, 0, 0), (.iinc 4 1, 3, 4, 0, 0, nI 1), (.goto 28, 3, 99, 0, 0, 0), (.iinc 6 1, 3, 6, 0, 0, nI 1), (.goto (-88), 3, 14, 0, 0, 0)] [] (pc2 := 14) (ls2 := [some (.ref 1), some (.ref 1001), some (.int x2), some (.int s3), some (.int (s4 + nI 1)), some (.int (nI 1)), some (.int ((nI i6) + nI 1)), some (.int (sby 1 i6))]) (st2 := []) (M2 := M) (Ps := []) (by decide +kernel) rfl rfl trivial ?_
              refine G.loc (ls2 := [some (.ref 1), some (.ref 1001), some (.int x2), some (.int s3), some (.int (s4 + nI 1)), some (.int (nI 1)), some (.int ((nI i6) + nI 1)), none]) (by simp [subL]) ?_
              rw [nI_add i6 1]
              simp only [t_indexIn_s1_14, if_neg c5, if_neg c8, if_neg c9, if_pos c12] at hX
              exact ih (i6 + 1) s3 (s4 + nI 1) (nI 1) (by omega) hk hX
set_option maxHeartbeats 4000000 in
set_option maxRecDepth 3000 in
theorem c_t_indexIn_s1_1 (z : Zp) (d : Nat) (M : Mem) (x2 : Int32) (hk : t_indexIn_s1_ok (M.1 1) (M.1 2) x2) : GM z mX6_indexIn (d + 4) [.ref 1, .ref 1001, .int x2] M (fun rs => rs = .inl (some (.int (t_indexIn_s1 (M.1 1) (M.1 2) x2)), M)) := by
  simp only [t_indexIn_s1_ok] at hk
  refine GM.of oX6_indexIn.1 (Nat.le_of_ble_eq_true rfl) ?_
  show G z mX6_indexIn (d + 4) 0 0 0 [some (.ref 1), some (.ref 1001), some (.int x2), none, none, none, none, none] [] M _
  obtain ⟨Q, hQ⟩ : ∃ Q : Rs → Prop, Q = (fun rs => rs = .inl (some (.int (t_indexIn_s1 (M.1 1) (M.1 2) x2)), M)) := ⟨_, rfl⟩
  rw [← hQ]
  refine G.sl [(.iconst 0, 1, 0, 0, 0, nI 0), (.istore_n 3, 1, 3, 0, 0, 0), (.aload_n 0, 1, 0, 0, 0, 0), (.getfield 34, 3, 5, 6, 13, 0), (.istore 4, 2, 4, 0, 0, 0), (.iconst 1, 1, 0, 0, 0, nI 1), (.istore 5, 2, 5, 0, 0, 0), (.iconst 0, 1, 0, 0, 0, nI 0), (.istore 6, 2, 6, 0, 0, 0)] [] (pc2 := 14) (ls2 := [some (.ref 1), some (.ref 1001), some (.int x2), some (.int (nI 0)), some (.int (M.1 1 6)), some (.int (nI 1)), some (.int (nI 0)), none]) (st2 := []) (M2 := M) (Ps := []) (by decide +kernel) rfl rfl trivial ?_
  obtain ⟨k15, hk⟩ := hk
  refine lp_t_indexIn_s1_1_14 z d M Q (cN 28) x2 (cN_eq 28) (cN 28) 0 (nI 0) (M.1 1 6) (nI 1) (Nat.zero_add _) (by first | (simp only [mput, mrow_same, mrow_hit, mrow_miss, mrow_sw, idr_eq, ne_eq, Nat.reduceEqDiff, not_false_eq_true, Nat.reduceLT, reduceCtorEq]; exact k15) | exact k15) ?_
  try simp only [mput, mrow_same, mrow_hit, mrow_miss, mrow_sw, idr_eq, ne_eq, Nat.reduceEqDiff, not_false_eq_true, Nat.reduceLT, reduceCtorEq]
  rcases g16 : t_indexIn_s1_14 (M.1 1) (M.1 2) x2 (cN 28) 0 (nI 0) (M.1 1 6) (nI 1) with v20 | ⟨v17, v18, v19⟩
  · skip
    show Q (.inl (some (.int v20), M))
    rw [hQ]
    simp only [t_indexIn_s1, g16, mrow_self]
  · skip
    show G z mX6_indexIn (d + 4) 0 0 105 [none, none, some (.int x2), some (.int v17), some (.int v18), some (.int v19), none, none] [] M Q
    refine G.sl [(.iload 5, 2, 5, 0, 0, 0)] [] (pc2 := 107) (ls2 := [none, none, some (.int x2), some (.int v17), some (.int v18), some (.int v19), none, none]) (st2 := [.int v19]) (M2 := M) (Ps := []) (by decide +kernel) rfl rfl trivial ?_
    refine G.if_eq (off := (13)) (tgt := 120) (by decide +kernel) rfl (fun c21 => ?_) (fun c21 => ?_)
    · skip
      refine G.sl [(.iconst (-1), 1, 0, 0, 0, (-1))] [] (pc2 := 121) (ls2 := [none, none, some (.int x2), some (.int v17), some (.int v18), some (.int v19), none, none]) (st2 := [.int ((-1))]) (M2 := M) (Ps := []) (by decide +kernel) rfl rfl trivial ?_
      exact G.reti (by decide +kernel) rfl rfl (Nat.le_of_ble_eq_true rfl) (Nat.le_of_ble_eq_true rfl) ((by rw [hQ]; simp only [t_indexIn_s1, g16, if_pos c21, mrow_self]))
    · skip
      refine G.sl [(.iload 4, 2, 4, 0, 0, 0), (.iload_n 2, 1, 2, 0, 0, 0)] [] (pc2 := 113) (ls2 := [none, none, some (.int x2), some (.int v17), some (.int v18), some (.int v19), none, none]) (st2 := [.int x2, .int v18]) (M2 := M) (Ps := []) (by decide +kernel) rfl rfl trivial ?_
      refine G.ic_ne (off := (7)) (tgt := 120) (by decide +kernel) rfl (fun c22 => ?_) (fun c22 => ?_)
      · skip
        refine G.sl [(.iconst (-1), 1, 0, 0, 0, (-1))] [] (pc2 := 121) (ls2 := [none, none, some (.int x2), some (.int v17), some (.int v18), some (.int v19), none, none]) (st2 := [.int ((-1))]) (M2 := M) (Ps := []) (by decide +kernel) rfl rfl trivial ?_
        exact G.reti (by decide +kernel) rfl rfl (Nat.le_of_ble_eq_true rfl) (Nat.le_of_ble_eq_true rfl) ((by rw [hQ]; simp only [t_indexIn_s1, g16, if_neg c21, if_neg c22, mrow_self]))
      · skip
        refine G.sl [(.iload_n 3, 1, 3, 0, 0, 0), (.goto 4, 3, 121, 0, 0, 0)] [] (pc2 := 121) (ls2 := [none, none, some (.int x2), some (.int v17), some (.int v18), some (.int v19), none, none]) (st2 := [.int v17]) (M2 := M) (Ps := []) (by decide +kernel) rfl rfl trivial ?_
        exact G.reti (by decide +kernel) rfl rfl (Nat.le_of_ble_eq_true rfl) (Nat.le_of_ble_eq_true rfl) ((by rw [hQ]; simp only [t_indexIn_s1, g16, if_neg c21, if_pos c22, mrow_self]))
set_option maxHeartbeats 4000000 in
set_option maxRecDepth 3000 in
theorem c_t_word_s1_1 (z : Zp) (d : Nat) (M : Mem) (hk : t_word_s1_ok (M.1 1) (M.1 2)) : GM z mX6_word (d + 5) [.ref 1, .ref 1001] M (fun rs => rs = .inl (some (.int ((t_word_s1 (M.1 1) (M.1 2)).1)), mrow M 1 ((t_word_s1 (M.1 1) (M.1 2)).2))) := by
  simp only [t_word_s1_ok] at hk
  refine GM.of oX6_word.1 (Nat.le_of_ble_eq_true rfl) ?_
  show G z mX6_word (d + 5) 0 0 0 [some (.ref 1), some (.ref 1001), none, none] [] M _
  obtain ⟨Q, hQ⟩ : ∃ Q : Rs → Prop, Q = (fun rs => rs = .inl (some (.int ((t_word_s1 (M.1 1) (M.1 2)).1)), mrow M 1 ((t_word_s1 (M.1 1) (M.1 2)).2))) := ⟨_, rfl⟩
  rw [← hQ]
  refine G.sl [(.aload_n 0, 1, 0, 0, 0, 0)] [] (pc2 := 1) (ls2 := [some (.ref 1), some (.ref 1001), none, none]) (st2 := [.ref 1]) (M2 := M) (Ps := []) (by decide +kernel) rfl rfl trivial ?_
  obtain ⟨k1, hk⟩ := hk
  rcases g2 : t_next (M.1 1) (M.1 2) with ⟨v3, r4⟩
  try simp only [g2] at hk
  have t5 : GM z mX6_next (d + 4) [.ref 1] M (fun rs => rs = .inl (some (.int v3), mrow M 1 r4)) := by
    have q9 := c_t_next_1 z (d + 4) M k1
    try simp only [mput, mrow_same, mrow_hit, mrow_miss, mrow_sw, idr_eq, ne_eq, Nat.reduceEqDiff, not_false_eq_true, Nat.reduceLT, reduceCtorEq, g2] at q9
    exact q9
  refine G.callV (as := []) (rest := []) (a := 1) oX6_next lk_EvenFinders_Tape_43 (by decide +kernel) rfl rfl ⟨rfl, rfl⟩ (Nat.le_of_ble_eq_true rfl) rfl ⟨Nat.le_of_ble_eq_true rfl, Nat.le_of_ble_eq_true rfl⟩ t5 (fun v9 N9 h6 => ?_) (fun E9 N9 h6 => by cases h6)
  cases h6
  show G z mX6_word (d + 5) 0 0 4 [some (.ref 1), some (.ref 1001), none, none] [.int v3] (mrow M 1 r4) Q
  refine G.sl [(.pop, 1, 0, 0, 0, 0), (.aload_n 0, 1, 0, 0, 0, 0), (.getfield 37, 3, 5, 2, 3, 0)] [] (pc2 := 9) (ls2 := [some (.ref 1), some (.ref 1001), none, none]) (st2 := [.int (r4 2)]) (M2 := mrow M 1 r4) (Ps := []) (by decide +kernel) rfl rfl trivial ?_
  refine G.if_eq (off := (5)) (tgt := 14) (by decide +kernel) rfl (fun c7 => ?_) (fun c7 => ?_)
  · skip
    rw [if_pos c7] at hk
    refine G.sl [(.aload_n 0, 1, 0, 0, 0, 0), (.getfield 34, 3, 5, 6, 13, 0), (.istore_n 2, 1, 2, 0, 0, 0)] [] (pc2 := 19) (ls2 := [some (.ref 1), some (.ref 1001), some (.int (r4 6)), none]) (st2 := []) (M2 := mrow M 1 r4) (Ps := []) (by decide +kernel) rfl rfl trivial ?_
    obtain ⟨k13, hk⟩ := hk
    refine lp_t_word_s1_1_19 z d (mrow M 1 r4) Q FU (r4 6) (by first | (simp only [mput, mrow_same, mrow_hit, mrow_miss, mrow_sw, idr_eq, ne_eq, Nat.reduceEqDiff, not_false_eq_true, Nat.reduceLT, reduceCtorEq]; exact k13) | exact k13) ?_
    try simp only [mput, mrow_same, mrow_hit, mrow_miss, mrow_sw, idr_eq, ne_eq, Nat.reduceEqDiff, not_false_eq_true, Nat.reduceLT, reduceCtorEq]
    show G z mX6_word (d + 5) 0 0 55 [some (.ref 1), some (.ref 1001), some (.int (t_word_s1_19 r4 (M.1 2) FU (r4 6))), none] [] (mrow M 1 r4) Q
    refine G.sl [(.aload_n 0, 1, 0, 0, 0, 0), (.aload_n 1, 1, 1, 0, 0, 0), (.iload_n 2, 1, 2, 0, 0, 0)] [] (pc2 := 58) (ls2 := [some (.ref 1), some (.ref 1001), some (.int (t_word_s1_19 r4 (M.1 2) FU (r4 6))), none]) (st2 := [.int (t_word_s1_19 r4 (M.1 2) FU (r4 6)), .ref 1001, .ref 1]) (M2 := mrow M 1 r4) (Ps := []) (by decide +kernel) rfl rfl trivial ?_
    obtain ⟨k14, hk⟩ := hk
    have t15 : GM z mX6_indexIn (d + 4) [.ref 1, .ref 1001, .int (t_word_s1_19 r4 (M.1 2) FU (r4 6))] (mrow M 1 r4) (fun rs => rs = .inl (some (.int (t_indexIn_s1 r4 (M.1 2) (t_word_s1_19 r4 (M.1 2) FU (r4 6)))), mrow M 1 r4)) := by
      have q9 := c_t_indexIn_s1_1 z d (mrow M 1 r4) (t_word_s1_19 r4 (M.1 2) FU (r4 6)) k14
      try simp only [mput, mrow_same, mrow_hit, mrow_miss, mrow_sw, idr_eq, ne_eq, Nat.reduceEqDiff, not_false_eq_true, Nat.reduceLT, reduceCtorEq] at q9
      exact q9
    refine G.callV (as := [.ref 1001, .int (t_word_s1_19 r4 (M.1 2) FU (r4 6))]) (rest := []) (a := 1) oX6_indexIn lk_EvenFinders_Tape_55 (by decide +kernel) rfl rfl ⟨rfl, rfl⟩ (Nat.le_of_ble_eq_true rfl) rfl ⟨Nat.le_of_ble_eq_true rfl, Nat.le_of_ble_eq_true rfl⟩ t15 (fun v9 N9 h16 => ?_) (fun E9 N9 h16 => by cases h16)
    cases h16
    show G z mX6_word (d + 5) 0 0 61 [some (.ref 1), some (.ref 1001), some (.int (t_word_s1_19 r4 (M.1 2) FU (r4 6))), none] [.int (t_indexIn_s1 r4 (M.1 2) (t_word_s1_19 r4 (M.1 2) FU (r4 6)))] (mrow M 1 r4) Q
    refine G.sl [(.istore_n 3, 1, 3, 0, 0, 0), (.iload_n 3, 1, 3, 0, 0, 0), (.iconst (-1), 1, 0, 0, 0, (-1))] [] (pc2 := 64) (ls2 := [some (.ref 1), some (.ref 1001), some (.int (t_word_s1_19 r4 (M.1 2) FU (r4 6))), some (.int (t_indexIn_s1 r4 (M.1 2) (t_word_s1_19 r4 (M.1 2) FU (r4 6))))]) (st2 := [.int ((-1)), .int (t_indexIn_s1 r4 (M.1 2) (t_word_s1_19 r4 (M.1 2) FU (r4 6)))]) (M2 := mrow M 1 r4) (Ps := []) (by decide +kernel) rfl rfl trivial ?_
    refine G.ic_ne (off := (15)) (tgt := 79) (by decide +kernel) rfl (fun c17 => ?_) (fun c17 => ?_)
    · skip
      refine G.sl [(.aload_n 0, 1, 0, 0, 0, 0), (.iload_n 2, 1, 2, 0, 0, 0), (.putfield 34, 3, 5, 6, 13, 0), (.iload_n 3, 1, 3, 0, 0, 0)] [] (pc2 := 85) (ls2 := [some (.ref 1), some (.ref 1001), some (.int (t_word_s1_19 r4 (M.1 2) FU (r4 6))), some (.int (t_indexIn_s1 r4 (M.1 2) (t_word_s1_19 r4 (M.1 2) FU (r4 6))))]) (st2 := [.int (t_indexIn_s1 r4 (M.1 2) (t_word_s1_19 r4 (M.1 2) FU (r4 6)))]) (M2 := mput (mrow M 1 r4) 1 6 (t_word_s1_19 r4 (M.1 2) FU (r4 6))) (Ps := []) (by decide +kernel) rfl rfl trivial ?_
      refine G.mem (M' := mrow M 1 (upd r4 6 (t_word_s1_19 r4 (M.1 2) FU (r4 6)))) (by first | rfl | (simp only [mput, mrow_same, mrow_hit, mrow_miss, mrow_sw, idr_eq, ne_eq, Nat.reduceEqDiff, not_false_eq_true, Nat.reduceLT, reduceCtorEq]; done)) ?_
      exact G.reti (by decide +kernel) rfl rfl (Nat.le_of_ble_eq_true rfl) (Nat.le_of_ble_eq_true rfl) ((by rw [hQ]; simp only [t_word_s1, g2, if_pos c7, if_neg c17, mrow_self]))
    · skip
      refine G.sl [(.aload_n 0, 1, 0, 0, 0, 0), (.iconst 1, 1, 0, 0, 0, nI 1), (.aload_n 0, 1, 0, 0, 0, 0), (.getfield 40, 3, 5, 4, 7, 0)] [] (pc2 := 73) (ls2 := [some (.ref 1), some (.ref 1001), some (.int (t_word_s1_19 r4 (M.1 2) FU (r4 6))), some (.int (t_indexIn_s1 r4 (M.1 2) (t_word_s1_19 r4 (M.1 2) FU (r4 6))))]) (st2 := [.int (r4 4), .int (nI 1), .ref 1]) (M2 := mrow M 1 r4) (Ps := []) (by decide +kernel) rfl rfl trivial ?_
      rcases g19 : t_fail r4 (nI 1) (r4 4) with ⟨u20, r21⟩
      have t22 : GM z mX6_fail (d + 4) [.ref 1, .int (nI 1), .int (r4 4)] (mrow M 1 r4) (fun rs => rs = .inl (none, mrow M 1 r21)) := by
        have q9 := c_t_fail_1 z (d + 4) (mrow M 1 r4) (nI 1) (r4 4)
        try simp only [mput, mrow_same, mrow_hit, mrow_miss, mrow_sw, idr_eq, ne_eq, Nat.reduceEqDiff, not_false_eq_true, Nat.reduceLT, reduceCtorEq, g19] at q9
        exact q9
      refine G.callV (as := [.int (nI 1), .int (r4 4)]) (rest := []) (a := 1) oX6_fail lk_EvenFinders_Tape_47 (by decide +kernel) rfl rfl ⟨rfl, rfl⟩ (Nat.le_of_ble_eq_true rfl) rfl ⟨Nat.le_of_ble_eq_true rfl, Nat.le_of_ble_eq_true rfl⟩ t22 (fun v9 N9 h23 => ?_) (fun E9 N9 h23 => by cases h23)
      cases h23
      show G z mX6_word (d + 5) 0 0 76 [some (.ref 1), some (.ref 1001), some (.int (t_word_s1_19 r4 (M.1 2) FU (r4 6))), some (.int (t_indexIn_s1 r4 (M.1 2) (t_word_s1_19 r4 (M.1 2) FU (r4 6))))] [] (mrow M 1 r21) Q
      refine G.sl [(.goto 8, 3, 84, 0, 0, 0), (.iload_n 3, 1, 3, 0, 0, 0)] [] (pc2 := 85) (ls2 := [some (.ref 1), some (.ref 1001), some (.int (t_word_s1_19 r4 (M.1 2) FU (r4 6))), some (.int (t_indexIn_s1 r4 (M.1 2) (t_word_s1_19 r4 (M.1 2) FU (r4 6))))]) (st2 := [.int (t_indexIn_s1 r4 (M.1 2) (t_word_s1_19 r4 (M.1 2) FU (r4 6)))]) (M2 := mrow M 1 r21) (Ps := []) (by decide +kernel) rfl rfl trivial ?_
      exact G.reti (by decide +kernel) rfl rfl (Nat.le_of_ble_eq_true rfl) (Nat.le_of_ble_eq_true rfl) ((by rw [hQ]; simp only [t_word_s1, g2, if_pos c7, if_pos c17, g19, mrow_self]))
  · skip
    rw [if_neg c7] at hk
    refine G.sl [(.iconst (-1), 1, 0, 0, 0, (-1))] [] (pc2 := 13) (ls2 := [some (.ref 1), some (.ref 1001), none, none]) (st2 := [.int ((-1))]) (M2 := mrow M 1 r4) (Ps := []) (by decide +kernel) rfl rfl trivial ?_
    exact G.reti (by decide +kernel) rfl rfl (Nat.le_of_ble_eq_true rfl) (Nat.le_of_ble_eq_true rfl) ((by rw [hQ]; simp only [t_word_s1, g2, if_neg c7, mrow_self]))
set_option maxHeartbeats 4000000 in
set_option maxRecDepth 3000 in
theorem lp_v_readFrom_12_1_22 (z : Zp) (d : Nat) (M : Mem) (Q : Rs → Prop) (nn : Nat) (hnn : nn = 61) : ∀ (k0 : Nat) (i2 : Nat) (q1 : (Nat → Int32)) (q12 : (Nat → Int32)) (q13 : (Nat → Int32)) (q14 : (Nat → Int32)) (q15 : (Nat → Int32)) (q16 : (Nat → Int32)) (q17 : (Nat → Int32)) (q18 : (Nat → Int32)) (q19 : (Nat → Int32)), i2 + k0 = nn → v_readFrom_22_ok (M.1 2) k0 i2 q1 q12 q13 q14 q15 q16 q17 q18 q19 → (match v_readFrom_22 (M.1 2) k0 i2 q1 q12 q13 q14 q15 q16 q17 q18 q19 with | (q1', q12', q13', q14', q15', q16', q17', q18', q19') => G z mX7_readFrom (d + 6) 0 0 89 [none, none, none, none] [] (mrow (mrow (mrow (mrow (mrow (mrow (mrow (mrow (mrow M 1 (q1')) 12 (q12')) 13 (q13')) 14 (q14')) 15 (q15')) 16 (q16')) 17 (q17')) 18 (q18')) 19 (q19')) Q) → G z mX7_readFrom (d + 6) 0 0 22 [some (.ref 12), some (.ref 1), some (.int (nI i2)), none] [] (mrow (mrow (mrow (mrow (mrow (mrow (mrow (mrow (mrow M 1 q1) 12 q12) 13 q13) 14 q14) 15 q15) 16 q16) 17 q17) 18 q18) 19 q19) Q := by
  intro k0
  induction k0 with
  | zero =>
      intro i2 q1 q12 q13 q14 q15 q16 q17 q18 q19 hn hk hX
      refine G.sl [(.iload_n 2, 1, 2, 0, 0, 0), (.bipush 60, 2, 0, 0, 0, nI 60)] [] (pc2 := 25) (ls2 := [some (.ref 12), some (.ref 1), some (.int (nI i2)), none]) (st2 := [.int (nI 60), .int (nI i2)]) (M2 := mrow (mrow (mrow (mrow (mrow (mrow (mrow (mrow (mrow M 1 q1) 12 q12) 13 q13) 14 q14) 15 q15) 16 q16) 17 q17) 18 q18) 19 q19) (Ps := []) (by decide +kernel) rfl rfl trivial ?_
      refine G.ic_gt (off := (64)) (tgt := 89) (by decide +kernel) rfl (fun _ => ?_) (fun h9 => absurd (nI_lt (by omega) (by omega)) h9)
      refine G.loc (ls2 := [none, none, none, none]) (by simp [subL]) ?_
      simp only [v_readFrom_22] at hX
      exact hX
  | succ k0 ih =>
      intro i2 q1 q12 q13 q14 q15 q16 q17 q18 q19 hn hk hX
      simp only [v_readFrom_22_ok] at hk
      refine G.sl [(.iload_n 2, 1, 2, 0, 0, 0), (.bipush 60, 2, 0, 0, 0, nI 60)] [] (pc2 := 25) (ls2 := [some (.ref 12), some (.ref 1), some (.int (nI i2)), none]) (st2 := [.int (nI 60), .int (nI i2)]) (M2 := mrow (mrow (mrow (mrow (mrow (mrow (mrow (mrow (mrow M 1 q1) 12 q12) 13 q13) 14 q14) 15 q15) 16 q16) 17 q17) 18 q18) 19 q19) (Ps := []) (by decide +kernel) rfl rfl trivial ?_
      refine G.ic_gt (off := (64)) (tgt := 89) (by decide +kernel) rfl (fun h9 => absurd h9 (nI_nlt (by omega) (by omega))) (fun _ => ?_)
      refine G.sl [(.aload_n 1, 1, 1, 0, 0, 0)] [] (pc2 := 29) (ls2 := [some (.ref 12), some (.ref 1), some (.int (nI i2)), none]) (st2 := [.ref 1]) (M2 := mrow (mrow (mrow (mrow (mrow (mrow (mrow (mrow (mrow M 1 q1) 12 q12) 13 q13) 14 q14) 15 q15) 16 q16) 17 q17) 18 q18) 19 q19) (Ps := []) (by decide +kernel) rfl rfl trivial ?_
      obtain ⟨k1, hk⟩ := hk
      rcases g2 : t_next q1 (M.1 2) with ⟨v3, r4⟩
      try simp only [g2] at hk
      have t5 : GM z mX6_next (d + 5) [.ref 1] (mrow (mrow (mrow (mrow (mrow (mrow (mrow (mrow (mrow M 1 q1) 12 q12) 13 q13) 14 q14) 15 q15) 16 q16) 17 q17) 18 q18) 19 q19) (fun rs => rs = .inl (some (.int v3), mrow (mrow (mrow (mrow (mrow (mrow (mrow (mrow (mrow M 1 r4) 12 q12) 13 q13) 14 q14) 15 q15) 16 q16) 17 q17) 18 q18) 19 q19)) := by
        have q9 := c_t_next_1 z (d + 5) (mrow (mrow (mrow (mrow (mrow (mrow (mrow (mrow (mrow M 1 q1) 12 q12) 13 q13) 14 q14) 15 q15) 16 q16) 17 q17) 18 q18) 19 q19) k1
        try simp only [mput, mrow_same, mrow_hit, mrow_miss, mrow_sw, idr_eq, ne_eq, Nat.reduceEqDiff, not_false_eq_true, Nat.reduceLT, reduceCtorEq, g2] at q9
        exact q9
      refine G.callV (as := []) (rest := []) (a := 1) oX6_next lk_EvenFinders_Town_58 (by decide +kernel) rfl rfl ⟨rfl, rfl⟩ (Nat.le_of_ble_eq_true rfl) rfl ⟨Nat.le_of_ble_eq_true rfl, Nat.le_of_ble_eq_true rfl⟩ t5 (fun v9 N9 h6 => ?_) (fun E9 N9 h6 => by cases h6)
      cases h6
      show G z mX7_readFrom (d + 6) 0 0 32 [some (.ref 12), some (.ref 1), some (.int (nI i2)), none] [.int v3] (mrow (mrow (mrow (mrow (mrow (mrow (mrow (mrow (mrow M 1 r4) 12 q12) 13 q13) 14 q14) 15 q15) 16 q16) 17 q17) 18 q18) 19 q19) Q
      refine G.sl [(.iconst (-1), 1, 0, 0, 0, (-1))] [] (pc2 := 33) (ls2 := [some (.ref 12), some (.ref 1), some (.int (nI i2)), none]) (st2 := [.int ((-1)), .int v3]) (M2 := mrow (mrow (mrow (mrow (mrow (mrow (mrow (mrow (mrow M 1 r4) 12 q12) 13 q13) 14 q14) 15 q15) 16 q16) 17 q17) 18 q18) 19 q19) (Ps := []) (by decide +kernel) rfl rfl trivial ?_
      refine G.ic_eq (off := (56)) (tgt := 89) (by decide +kernel) rfl (fun c7 => ?_) (fun c7 => ?_)
      · skip
        rw [if_pos c7] at hk
        refine G.loc (ls2 := [none, none, none, none]) (by simp [subL]) ?_
        simp only [v_readFrom_22, g2, if_pos c7] at hX
        exact hX
      · skip
        rw [if_neg c7] at hk
        refine G.sl [(.aload_n 1, 1, 1, 0, 0, 0), (.ldc 64, 2, 1, 1, 0, 0)] [] (pc2 := 39) (ls2 := [some (.ref 12), some (.ref 1), some (.int (nI i2)), none]) (st2 := [.ref 1001, .ref 1]) (M2 := mrow (mrow (mrow (mrow (mrow (mrow (mrow (mrow (mrow M 1 r4) 12 q12) 13 q13) 14 q14) 15 q15) 16 q16) 17 q17) 18 q18) 19 q19) (Ps := []) (by decide +kernel) rfl rfl trivial ?_
        obtain ⟨k8, hk⟩ := hk
        rcases g9 : t_word_s1 r4 (M.1 2) with ⟨v10, r11⟩
        try simp only [g9] at hk
        have t12 : GM z mX6_word (d + 5) [.ref 1, .ref 1001] (mrow (mrow (mrow (mrow (mrow (mrow (mrow (mrow (mrow M 1 r4) 12 q12) 13 q13) 14 q14) 15 q15) 16 q16) 17 q17) 18 q18) 19 q19) (fun rs => rs = .inl (some (.int v10), mrow (mrow (mrow (mrow (mrow (mrow (mrow (mrow (mrow M 1 r11) 12 q12) 13 q13) 14 q14) 15 q15) 16 q16) 17 q17) 18 q18) 19 q19)) := by
          have q9 := c_t_word_s1_1 z d (mrow (mrow (mrow (mrow (mrow (mrow (mrow (mrow (mrow M 1 r4) 12 q12) 13 q13) 14 q14) 15 q15) 16 q16) 17 q17) 18 q18) 19 q19) k8
          try simp only [mput, mrow_same, mrow_hit, mrow_miss, mrow_sw, idr_eq, ne_eq, Nat.reduceEqDiff, not_false_eq_true, Nat.reduceLT, reduceCtorEq, g9] at q9
          exact q9
        refine G.callV (as := [.ref 1001]) (rest := []) (a := 1) oX6_word lk_EvenFinders_Town_66 (by decide +kernel) rfl rfl ⟨rfl, rfl⟩ (Nat.le_of_ble_eq_true rfl) rfl ⟨Nat.le_of_ble_eq_true rfl, Nat.le_of_ble_eq_true rfl⟩ t12 (fun v9 N9 h13 => ?_) (fun E9 N9 h13 => by cases h13)
        cases h13
        show G z mX7_readFrom (d + 6) 0 0 42 [some (.ref 12), some (.ref 1), some (.int (nI i2)), none] [.int v10] (mrow (mrow (mrow (mrow (mrow (mrow (mrow (mrow (mrow M 1 r11) 12 q12) 13 q13) 14 q14) 15 q15) 16 q16) 17 q17) 18 q18) 19 q19) Q
        refine G.sl [(.istore_n 3, 1, 3, 0, 0, 0), (.iload_n 3, 1, 3, 0, 0, 0), (.iconst (-1), 1, 0, 0, 0, (-1))] [] (pc2 := 45) (ls2 := [some (.ref 12), some (.ref 1), some (.int (nI i2)), some (.int v10)]) (st2 := [.int ((-1)), .int v10]) (M2 := mrow (mrow (mrow (mrow (mrow (mrow (mrow (mrow (mrow M 1 r11) 12 q12) 13 q13) 14 q14) 15 q15) 16 q16) 17 q17) 18 q18) 19 q19) (Ps := []) (by decide +kernel) rfl rfl trivial ?_
        refine G.ic_eq (off := (26)) (tgt := 71) (by decide +kernel) rfl (fun c14 => ?_) (fun c14 => ?_)
        · skip
          rw [if_pos c14] at hk
          refine G.sl [(.aload_n 0, 1, 0, 0, 0, 0), (.aload_n 1, 1, 1, 0, 0, 0), (.iload_n 3, 1, 3, 0, 0, 0)] [] (pc2 := 74) (ls2 := [some (.ref 12), some (.ref 1), some (.int (nI i2)), some (.int v10)]) (st2 := [.int v10, .ref 1, .ref 12]) (M2 := mrow (mrow (mrow (mrow (mrow (mrow (mrow (mrow (mrow M 1 r11) 12 q12) 13 q13) 14 q14) 15 q15) 16 q16) 17 q17) 18 q18) 19 q19) (Ps := []) (by decide +kernel) rfl rfl trivial ?_
          obtain ⟨k15, hk⟩ := hk
          rcases g16 : v_readClause r11 (M.1 2) q12 q13 q14 q15 q16 q17 q18 q19 v10 with ⟨u17, r18, r19, r20, r21, r22, r23, r24, r25, r26⟩
          try simp only [g16] at hk
          have t27 : GM z mX7_readClause (d + 5) [.ref 12, .ref 1, .int v10] (mrow (mrow (mrow (mrow (mrow (mrow (mrow (mrow (mrow M 1 r11) 12 q12) 13 q13) 14 q14) 15 q15) 16 q16) 17 q17) 18 q18) 19 q19) (fun rs => rs = .inl (none, mrow (mrow (mrow (mrow (mrow (mrow (mrow (mrow (mrow M 1 r18) 12 r19) 13 r20) 14 r21) 15 r22) 16 r23) 17 r24) 18 r25) 19 r26)) := by
            have q9 := c_v_readClause_12_1 z (d + 2) (mrow (mrow (mrow (mrow (mrow (mrow (mrow (mrow (mrow M 1 r11) 12 q12) 13 q13) 14 q14) 15 q15) 16 q16) 17 q17) 18 q18) 19 q19) v10 k15
            try simp only [mput, mrow_same, mrow_hit, mrow_miss, mrow_sw, idr_eq, ne_eq, Nat.reduceEqDiff, not_false_eq_true, Nat.reduceLT, reduceCtorEq, g16] at q9
            exact q9
          refine G.callV (as := [.ref 1, .int v10]) (rest := []) (a := 12) oX7_readClause lk_EvenFinders_Town_81 (by decide +kernel) rfl rfl ⟨rfl, rfl⟩ (Nat.le_of_ble_eq_true rfl) rfl ⟨Nat.le_of_ble_eq_true rfl, Nat.le_of_ble_eq_true rfl⟩ t27 (fun v9 N9 h28 => ?_) (fun E9 N9 h28 => by cases h28)
          cases h28
          show G z mX7_readFrom (d + 6) 0 0 77 [some (.ref 12), some (.ref 1), some (.int (nI i2)), some (.int v10)] [] (mrow (mrow (mrow (mrow (mrow (mrow (mrow (mrow (mrow M 1 r18) 12 r19) 13 r20) 14 r21) 15 r22) 16 r23) 17 r24) 18 r25) 19 r26) Q
          refine G.sl [(.aload_n 1, 1, 1, 0, 0, 0), (.bipush 59, 2, 0, 0, 0, nI 59)] [] (pc2 := 80) (ls2 := [some (.ref 12), some (.ref 1), some (.int (nI i2)), some (.int v10)]) (st2 := [.int (nI 59), .ref 1]) (M2 := mrow (mrow (mrow (mrow (mrow (mrow (mrow (mrow (mrow M 1 r18) 12 r19) 13 r20) 14 r21) 15 r22) 16 r23) 17 r24) 18 r25) 19 r26) (Ps := []) (by decide +kernel) rfl rfl trivial ?_
          obtain ⟨k29, hk⟩ := hk
          rcases g30 : t_needSign r18 (M.1 2) (nI 59) with ⟨u31, r32⟩
          try simp only [g30] at hk
          have t33 : GM z mX6_needSign (d + 5) [.ref 1, .int (nI 59)] (mrow (mrow (mrow (mrow (mrow (mrow (mrow (mrow (mrow M 1 r18) 12 r19) 13 r20) 14 r21) 15 r22) 16 r23) 17 r24) 18 r25) 19 r26) (fun rs => rs = .inl (none, mrow (mrow (mrow (mrow (mrow (mrow (mrow (mrow (mrow M 1 r32) 12 r19) 13 r20) 14 r21) 15 r22) 16 r23) 17 r24) 18 r25) 19 r26)) := by
            have q9 := c_t_needSign_1 z (d + 4) (mrow (mrow (mrow (mrow (mrow (mrow (mrow (mrow (mrow M 1 r18) 12 r19) 13 r20) 14 r21) 15 r22) 16 r23) 17 r24) 18 r25) 19 r26) (nI 59) k29
            try simp only [mput, mrow_same, mrow_hit, mrow_miss, mrow_sw, idr_eq, ne_eq, Nat.reduceEqDiff, not_false_eq_true, Nat.reduceLT, reduceCtorEq, g30] at q9
            exact q9
          refine G.callV (as := [.int (nI 59)]) (rest := []) (a := 1) oX6_needSign lk_EvenFinders_Town_85 (by decide +kernel) rfl rfl ⟨rfl, rfl⟩ (Nat.le_of_ble_eq_true rfl) rfl ⟨Nat.le_of_ble_eq_true rfl, Nat.le_of_ble_eq_true rfl⟩ t33 (fun v9 N9 h34 => ?_) (fun E9 N9 h34 => by cases h34)
          cases h34
          show G z mX7_readFrom (d + 6) 0 0 83 [some (.ref 12), some (.ref 1), some (.int (nI i2)), some (.int v10)] [] (mrow (mrow (mrow (mrow (mrow (mrow (mrow (mrow (mrow M 1 r32) 12 r19) 13 r20) 14 r21) 15 r22) 16 r23) 17 r24) 18 r25) 19 r26) Q
          refine G.sl [(.iinc 2 1, 3, 2, 0, 0, nI 1), (.goto (-64), 3, 22, 0, 0, 0)] [] (pc2 := 22) (ls2 := [some (.ref 12), some (.ref 1), some (.int ((nI i2) + nI 1)), some (.int v10)]) (st2 := []) (M2 := mrow (mrow (mrow (mrow (mrow (mrow (mrow (mrow (mrow M 1 r32) 12 r19) 13 r20) 14 r21) 15 r22) 16 r23) 17 r24) 18 r25) 19 r26) (Ps := []) (by decide +kernel) rfl rfl trivial ?_
          refine G.loc (ls2 := [some (.ref 12), some (.ref 1), some (.int ((nI i2) + nI 1)), none]) (by simp [subL]) ?_
          rw [nI_add i2 1]
          simp only [v_readFrom_22, g2, if_neg c7, g9, if_pos c14, g16, g30] at hX
          exact ih (i2 + 1) r32 r19 r20 r21 r22 r23 r24 r25 r26 (by omega) hk hX
        · skip
          rw [if_neg c14] at hk
          refine G.sl [(.iload_n 2, 1, 2, 0, 0, 0), (.bipush 60, 2, 0, 0, 0, nI 60)] [] (pc2 := 51) (ls2 := [some (.ref 12), some (.ref 1), some (.int (nI i2)), some (.int v10)]) (st2 := [.int (nI 60), .int (nI i2)]) (M2 := mrow (mrow (mrow (mrow (mrow (mrow (mrow (mrow (mrow M 1 r11) 12 q12) 13 q13) 14 q14) 15 q15) 16 q16) 17 q17) 18 q18) 19 q19) (Ps := []) (by decide +kernel) rfl rfl trivial ?_
          refine G.ic_eq (off := (11)) (tgt := 62) (by decide +kernel) rfl (fun c35 => ?_) (fun c35 => ?_)
          · skip
            rw [if_pos c35] at hk
            refine G.sl [(.aload_n 1, 1, 1, 0, 0, 0), (.iconst 3, 1, 0, 0, 0, nI 3), (.aload_n 1, 1, 1, 0, 0, 0), (.getfield 74, 3, 5, 4, 8, 0)] [] (pc2 := 68) (ls2 := [some (.ref 12), some (.ref 1), some (.int (nI i2)), some (.int v10)]) (st2 := [.int (r11 4), .int (nI 3), .ref 1]) (M2 := mrow (mrow (mrow (mrow (mrow (mrow (mrow (mrow (mrow M 1 r11) 12 q12) 13 q13) 14 q14) 15 q15) 16 q16) 17 q17) 18 q18) 19 q19) (Ps := []) (by decide +kernel) rfl rfl trivial ?_
            obtain ⟨k36, hk⟩ := hk
            rcases g37 : t_fail r11 (nI 3) (r11 4) with ⟨u38, r39⟩
            try simp only [g37] at hk
            have t40 : GM z mX6_fail (d + 5) [.ref 1, .int (nI 3), .int (r11 4)] (mrow (mrow (mrow (mrow (mrow (mrow (mrow (mrow (mrow M 1 r11) 12 q12) 13 q13) 14 q14) 15 q15) 16 q16) 17 q17) 18 q18) 19 q19) (fun rs => rs = .inl (none, mrow (mrow (mrow (mrow (mrow (mrow (mrow (mrow (mrow M 1 r39) 12 q12) 13 q13) 14 q14) 15 q15) 16 q16) 17 q17) 18 q18) 19 q19)) := by
              have q9 := c_t_fail_1 z (d + 5) (mrow (mrow (mrow (mrow (mrow (mrow (mrow (mrow (mrow M 1 r11) 12 q12) 13 q13) 14 q14) 15 q15) 16 q16) 17 q17) 18 q18) 19 q19) (nI 3) (r11 4)
              try simp only [mput, mrow_same, mrow_hit, mrow_miss, mrow_sw, idr_eq, ne_eq, Nat.reduceEqDiff, not_false_eq_true, Nat.reduceLT, reduceCtorEq, g37] at q9
              exact q9
            refine G.callV (as := [.int (nI 3), .int (r11 4)]) (rest := []) (a := 1) oX6_fail lk_EvenFinders_Town_77 (by decide +kernel) rfl rfl ⟨rfl, rfl⟩ (Nat.le_of_ble_eq_true rfl) rfl ⟨Nat.le_of_ble_eq_true rfl, Nat.le_of_ble_eq_true rfl⟩ t40 (fun v9 N9 h41 => ?_) (fun E9 N9 h41 => by cases h41)
            cases h41
            show G z mX7_readFrom (d + 6) 0 0 71 [some (.ref 12), some (.ref 1), some (.int (nI i2)), some (.int v10)] [] (mrow (mrow (mrow (mrow (mrow (mrow (mrow (mrow (mrow M 1 r39) 12 q12) 13 q13) 14 q14) 15 q15) 16 q16) 17 q17) 18 q18) 19 q19) Q
            refine G.sl [(.aload_n 0, 1, 0, 0, 0, 0), (.aload_n 1, 1, 1, 0, 0, 0), (.iload_n 3, 1, 3, 0, 0, 0)] [] (pc2 := 74) (ls2 := [some (.ref 12), some (.ref 1), some (.int (nI i2)), some (.int v10)]) (st2 := [.int v10, .ref 1, .ref 12]) (M2 := mrow (mrow (mrow (mrow (mrow (mrow (mrow (mrow (mrow M 1 r39) 12 q12) 13 q13) 14 q14) 15 q15) 16 q16) 17 q17) 18 q18) 19 q19) (Ps := []) (by decide +kernel) rfl rfl trivial ?_
            obtain ⟨k42, hk⟩ := hk
            rcases g43 : v_readClause r39 (M.1 2) q12 q13 q14 q15 q16 q17 q18 q19 v10 with ⟨u44, r45, r46, r47, r48, r49, r50, r51, r52, r53⟩
            try simp only [g43] at hk
            have t54 : GM z mX7_readClause (d + 5) [.ref 12, .ref 1, .int v10] (mrow (mrow (mrow (mrow (mrow (mrow (mrow (mrow (mrow M 1 r39) 12 q12) 13 q13) 14 q14) 15 q15) 16 q16) 17 q17) 18 q18) 19 q19) (fun rs => rs = .inl (none, mrow (mrow (mrow (mrow (mrow (mrow (mrow (mrow (mrow M 1 r45) 12 r46) 13 r47) 14 r48) 15 r49) 16 r50) 17 r51) 18 r52) 19 r53)) := by
              have q9 := c_v_readClause_12_1 z (d + 2) (mrow (mrow (mrow (mrow (mrow (mrow (mrow (mrow (mrow M 1 r39) 12 q12) 13 q13) 14 q14) 15 q15) 16 q16) 17 q17) 18 q18) 19 q19) v10 k42
              try simp only [mput, mrow_same, mrow_hit, mrow_miss, mrow_sw, idr_eq, ne_eq, Nat.reduceEqDiff, not_false_eq_true, Nat.reduceLT, reduceCtorEq, g43] at q9
              exact q9
            refine G.callV (as := [.ref 1, .int v10]) (rest := []) (a := 12) oX7_readClause lk_EvenFinders_Town_81 (by decide +kernel) rfl rfl ⟨rfl, rfl⟩ (Nat.le_of_ble_eq_true rfl) rfl ⟨Nat.le_of_ble_eq_true rfl, Nat.le_of_ble_eq_true rfl⟩ t54 (fun v9 N9 h55 => ?_) (fun E9 N9 h55 => by cases h55)
            cases h55
            show G z mX7_readFrom (d + 6) 0 0 77 [some (.ref 12), some (.ref 1), some (.int (nI i2)), some (.int v10)] [] (mrow (mrow (mrow (mrow (mrow (mrow (mrow (mrow (mrow M 1 r45) 12 r46) 13 r47) 14 r48) 15 r49) 16 r50) 17 r51) 18 r52) 19 r53) Q
            refine G.sl [(.aload_n 1, 1, 1, 0, 0, 0), (.bipush 59, 2, 0, 0, 0, nI 59)] [] (pc2 := 80) (ls2 := [some (.ref 12), some (.ref 1), some (.int (nI i2)), some (.int v10)]) (st2 := [.int (nI 59), .ref 1]) (M2 := mrow (mrow (mrow (mrow (mrow (mrow (mrow (mrow (mrow M 1 r45) 12 r46) 13 r47) 14 r48) 15 r49) 16 r50) 17 r51) 18 r52) 19 r53) (Ps := []) (by decide +kernel) rfl rfl trivial ?_
            obtain ⟨k56, hk⟩ := hk
            rcases g57 : t_needSign r45 (M.1 2) (nI 59) with ⟨u58, r59⟩
            try simp only [g57] at hk
            have t60 : GM z mX6_needSign (d + 5) [.ref 1, .int (nI 59)] (mrow (mrow (mrow (mrow (mrow (mrow (mrow (mrow (mrow M 1 r45) 12 r46) 13 r47) 14 r48) 15 r49) 16 r50) 17 r51) 18 r52) 19 r53) (fun rs => rs = .inl (none, mrow (mrow (mrow (mrow (mrow (mrow (mrow (mrow (mrow M 1 r59) 12 r46) 13 r47) 14 r48) 15 r49) 16 r50) 17 r51) 18 r52) 19 r53)) := by
              have q9 := c_t_needSign_1 z (d + 4) (mrow (mrow (mrow (mrow (mrow (mrow (mrow (mrow (mrow M 1 r45) 12 r46) 13 r47) 14 r48) 15 r49) 16 r50) 17 r51) 18 r52) 19 r53) (nI 59) k56
              try simp only [mput, mrow_same, mrow_hit, mrow_miss, mrow_sw, idr_eq, ne_eq, Nat.reduceEqDiff, not_false_eq_true, Nat.reduceLT, reduceCtorEq, g57] at q9
              exact q9
            refine G.callV (as := [.int (nI 59)]) (rest := []) (a := 1) oX6_needSign lk_EvenFinders_Town_85 (by decide +kernel) rfl rfl ⟨rfl, rfl⟩ (Nat.le_of_ble_eq_true rfl) rfl ⟨Nat.le_of_ble_eq_true rfl, Nat.le_of_ble_eq_true rfl⟩ t60 (fun v9 N9 h61 => ?_) (fun E9 N9 h61 => by cases h61)
            cases h61
            show G z mX7_readFrom (d + 6) 0 0 83 [some (.ref 12), some (.ref 1), some (.int (nI i2)), some (.int v10)] [] (mrow (mrow (mrow (mrow (mrow (mrow (mrow (mrow (mrow M 1 r59) 12 r46) 13 r47) 14 r48) 15 r49) 16 r50) 17 r51) 18 r52) 19 r53) Q
            refine G.sl [(.iinc 2 1, 3, 2, 0, 0, nI 1), (.goto (-64), 3, 22, 0, 0, 0)] [] (pc2 := 22) (ls2 := [some (.ref 12), some (.ref 1), some (.int ((nI i2) + nI 1)), some (.int v10)]) (st2 := []) (M2 := mrow (mrow (mrow (mrow (mrow (mrow (mrow (mrow (mrow M 1 r59) 12 r46) 13 r47) 14 r48) 15 r49) 16 r50) 17 r51) 18 r52) 19 r53) (Ps := []) (by decide +kernel) rfl rfl trivial ?_
            refine G.loc (ls2 := [some (.ref 12), some (.ref 1), some (.int ((nI i2) + nI 1)), none]) (by simp [subL]) ?_
            rw [nI_add i2 1]
            simp only [v_readFrom_22, g2, if_neg c7, g9, if_neg c14, if_pos c35, g37, g43, g57] at hX
            exact ih (i2 + 1) r59 r46 r47 r48 r49 r50 r51 r52 r53 (by omega) hk hX
          · skip
            rw [if_neg c35] at hk
            refine G.sl [(.aload_n 0, 1, 0, 0, 0, 0), (.iload_n 3, 1, 3, 0, 0, 0)] [] (pc2 := 56) (ls2 := [some (.ref 12), some (.ref 1), some (.int (nI i2)), some (.int v10)]) (st2 := [.int v10, .ref 12]) (M2 := mrow (mrow (mrow (mrow (mrow (mrow (mrow (mrow (mrow M 1 r11) 12 q12) 13 q13) 14 q14) 15 q15) 16 q16) 17 q17) 18 q18) 19 q19) (Ps := []) (by decide +kernel) rfl rfl trivial ?_
            obtain ⟨k62, hk⟩ := hk
            have t63 : GM z mX7_isFull (d + 5) [.ref 12, .int v10] (mrow (mrow (mrow (mrow (mrow (mrow (mrow (mrow (mrow M 1 r11) 12 q12) 13 q13) 14 q14) 15 q15) 16 q16) 17 q17) 18 q18) 19 q19) (fun rs => rs = .inl (some (.int (v_isFull q12 v10)), mrow (mrow (mrow (mrow (mrow (mrow (mrow (mrow (mrow M 1 r11) 12 q12) 13 q13) 14 q14) 15 q15) 16 q16) 17 q17) 18 q18) 19 q19)) := by
              have q9 := c_v_isFull_12 z (d + 5) (mrow (mrow (mrow (mrow (mrow (mrow (mrow (mrow (mrow M 1 r11) 12 q12) 13 q13) 14 q14) 15 q15) 16 q16) 17 q17) 18 q18) 19 q19) v10
              try simp only [mput, mrow_same, mrow_hit, mrow_miss, mrow_sw, idr_eq, ne_eq, Nat.reduceEqDiff, not_false_eq_true, Nat.reduceLT, reduceCtorEq] at q9
              exact q9
            refine G.callV (as := [.int v10]) (rest := []) (a := 12) oX7_isFull lk_EvenFinders_Town_70 (by decide +kernel) rfl rfl ⟨rfl, rfl⟩ (Nat.le_of_ble_eq_true rfl) rfl ⟨Nat.le_of_ble_eq_true rfl, Nat.le_of_ble_eq_true rfl⟩ t63 (fun v9 N9 h64 => ?_) (fun E9 N9 h64 => by cases h64)
            cases h64
            show G z mX7_readFrom (d + 6) 0 0 59 [some (.ref 12), some (.ref 1), some (.int (nI i2)), some (.int v10)] [.int (v_isFull q12 v10)] (mrow (mrow (mrow (mrow (mrow (mrow (mrow (mrow (mrow M 1 r11) 12 q12) 13 q13) 14 q14) 15 q15) 16 q16) 17 q17) 18 q18) 19 q19) Q
            refine G.if_eq (off := (12)) (tgt := 71) (by decide +kernel) rfl (fun c65 => ?_) (fun c65 => ?_)
            · skip
              rw [if_pos c65] at hk
              refine G.sl [(.aload_n 0, 1, 0, 0, 0, 0), (.aload_n 1, 1, 1, 0, 0, 0), (.iload_n 3, 1, 3, 0, 0, 0)] [] (pc2 := 74) (ls2 := [some (.ref 12), some (.ref 1), some (.int (nI i2)), some (.int v10)]) (st2 := [.int v10, .ref 1, .ref 12]) (M2 := mrow (mrow (mrow (mrow (mrow (mrow (mrow (mrow (mrow M 1 r11) 12 q12) 13 q13) 14 q14) 15 q15) 16 q16) 17 q17) 18 q18) 19 q19) (Ps := []) (by decide +kernel) rfl rfl trivial ?_
              obtain ⟨k66, hk⟩ := hk
              rcases g67 : v_readClause r11 (M.1 2) q12 q13 q14 q15 q16 q17 q18 q19 v10 with ⟨u68, r69, r70, r71, r72, r73, r74, r75, r76, r77⟩
              try simp only [g67] at hk
              have t78 : GM z mX7_readClause (d + 5) [.ref 12, .ref 1, .int v10] (mrow (mrow (mrow (mrow (mrow (mrow (mrow (mrow (mrow M 1 r11) 12 q12) 13 q13) 14 q14) 15 q15) 16 q16) 17 q17) 18 q18) 19 q19) (fun rs => rs = .inl (none, mrow (mrow (mrow (mrow (mrow (mrow (mrow (mrow (mrow M 1 r69) 12 r70) 13 r71) 14 r72) 15 r73) 16 r74) 17 r75) 18 r76) 19 r77)) := by
                have q9 := c_v_readClause_12_1 z (d + 2) (mrow (mrow (mrow (mrow (mrow (mrow (mrow (mrow (mrow M 1 r11) 12 q12) 13 q13) 14 q14) 15 q15) 16 q16) 17 q17) 18 q18) 19 q19) v10 k66
                try simp only [mput, mrow_same, mrow_hit, mrow_miss, mrow_sw, idr_eq, ne_eq, Nat.reduceEqDiff, not_false_eq_true, Nat.reduceLT, reduceCtorEq, g67] at q9
                exact q9
              refine G.callV (as := [.ref 1, .int v10]) (rest := []) (a := 12) oX7_readClause lk_EvenFinders_Town_81 (by decide +kernel) rfl rfl ⟨rfl, rfl⟩ (Nat.le_of_ble_eq_true rfl) rfl ⟨Nat.le_of_ble_eq_true rfl, Nat.le_of_ble_eq_true rfl⟩ t78 (fun v9 N9 h79 => ?_) (fun E9 N9 h79 => by cases h79)
              cases h79
              show G z mX7_readFrom (d + 6) 0 0 77 [some (.ref 12), some (.ref 1), some (.int (nI i2)), some (.int v10)] [] (mrow (mrow (mrow (mrow (mrow (mrow (mrow (mrow (mrow M 1 r69) 12 r70) 13 r71) 14 r72) 15 r73) 16 r74) 17 r75) 18 r76) 19 r77) Q
              refine G.sl [(.aload_n 1, 1, 1, 0, 0, 0), (.bipush 59, 2, 0, 0, 0, nI 59)] [] (pc2 := 80) (ls2 := [some (.ref 12), some (.ref 1), some (.int (nI i2)), some (.int v10)]) (st2 := [.int (nI 59), .ref 1]) (M2 := mrow (mrow (mrow (mrow (mrow (mrow (mrow (mrow (mrow M 1 r69) 12 r70) 13 r71) 14 r72) 15 r73) 16 r74) 17 r75) 18 r76) 19 r77) (Ps := []) (by decide +kernel) rfl rfl trivial ?_
              obtain ⟨k80, hk⟩ := hk
              rcases g81 : t_needSign r69 (M.1 2) (nI 59) with ⟨u82, r83⟩
              try simp only [g81] at hk
              have t84 : GM z mX6_needSign (d + 5) [.ref 1, .int (nI 59)] (mrow (mrow (mrow (mrow (mrow (mrow (mrow (mrow (mrow M 1 r69) 12 r70) 13 r71) 14 r72) 15 r73) 16 r74) 17 r75) 18 r76) 19 r77) (fun rs => rs = .inl (none, mrow (mrow (mrow (mrow (mrow (mrow (mrow (mrow (mrow M 1 r83) 12 r70) 13 r71) 14 r72) 15 r73) 16 r74) 17 r75) 18 r76) 19 r77)) := by
                have q9 := c_t_needSign_1 z (d + 4) (mrow (mrow (mrow (mrow (mrow (mrow (mrow (mrow (mrow M 1 r69) 12 r70) 13 r71) 14 r72) 15 r73) 16 r74) 17 r75) 18 r76) 19 r77) (nI 59) k80
                try simp only [mput, mrow_same, mrow_hit, mrow_miss, mrow_sw, idr_eq, ne_eq, Nat.reduceEqDiff, not_false_eq_true, Nat.reduceLT, reduceCtorEq, g81] at q9
                exact q9
              refine G.callV (as := [.int (nI 59)]) (rest := []) (a := 1) oX6_needSign lk_EvenFinders_Town_85 (by decide +kernel) rfl rfl ⟨rfl, rfl⟩ (Nat.le_of_ble_eq_true rfl) rfl ⟨Nat.le_of_ble_eq_true rfl, Nat.le_of_ble_eq_true rfl⟩ t84 (fun v9 N9 h85 => ?_) (fun E9 N9 h85 => by cases h85)
              cases h85
              show G z mX7_readFrom (d + 6) 0 0 83 [some (.ref 12), some (.ref 1), some (.int (nI i2)), some (.int v10)] [] (mrow (mrow (mrow (mrow (mrow (mrow (mrow (mrow (mrow M 1 r83) 12 r70) 13 r71) 14 r72) 15 r73) 16 r74) 17 r75) 18 r76) 19 r77) Q
              refine G.sl [(.iinc 2 1, 3, 2, 0, 0, nI 1), (.goto (-64), 3, 22, 0, 0, 0)] [] (pc2 := 22) (ls2 := [some (.ref 12), some (.ref 1), some (.int ((nI i2) + nI 1)), some (.int v10)]) (st2 := []) (M2 := mrow (mrow (mrow (mrow (mrow (mrow (mrow (mrow (mrow M 1 r83) 12 r70) 13 r71) 14 r72) 15 r73) 16 r74) 17 r75) 18 r76) 19 r77) (Ps := []) (by decide +kernel) rfl rfl trivial ?_
              refine G.loc (ls2 := [some (.ref 12), some (.ref 1), some (.int ((nI i2) + nI 1)), none]) (by simp [subL]) ?_
              rw [nI_add i2 1]
              simp only [v_readFrom_22, g2, if_neg c7, g9, if_neg c14, if_neg c35, if_pos c65, g67, g81] at hX
              exact ih (i2 + 1) r83 r70 r71 r72 r73 r74 r75 r76 r77 (by omega) hk hX
            · skip
              rw [if_neg c65] at hk
              refine G.sl [(.aload_n 1, 1, 1, 0, 0, 0), (.iconst 3, 1, 0, 0, 0, nI 3), (.aload_n 1, 1, 1, 0, 0, 0), (.getfield 74, 3, 5, 4, 8, 0)] [] (pc2 := 68) (ls2 := [some (.ref 12), some (.ref 1), some (.int (nI i2)), some (.int v10)]) (st2 := [.int (r11 4), .int (nI 3), .ref 1]) (M2 := mrow (mrow (mrow (mrow (mrow (mrow (mrow (mrow (mrow M 1 r11) 12 q12) 13 q13) 14 q14) 15 q15) 16 q16) 17 q17) 18 q18) 19 q19) (Ps := []) (by decide +kernel) rfl rfl trivial ?_
              obtain ⟨k86, hk⟩ := hk
              rcases g87 : t_fail r11 (nI 3) (r11 4) with ⟨u88, r89⟩
              try simp only [g87] at hk
              have t90 : GM z mX6_fail (d + 5) [.ref 1, .int (nI 3), .int (r11 4)] (mrow (mrow (mrow (mrow (mrow (mrow (mrow (mrow (mrow M 1 r11) 12 q12) 13 q13) 14 q14) 15 q15) 16 q16) 17 q17) 18 q18) 19 q19) (fun rs => rs = .inl (none, mrow (mrow (mrow (mrow (mrow (mrow (mrow (mrow (mrow M 1 r89) 12 q12) 13 q13) 14 q14) 15 q15) 16 q16) 17 q17) 18 q18) 19 q19)) := by
                have q9 := c_t_fail_1 z (d + 5) (mrow (mrow (mrow (mrow (mrow (mrow (mrow (mrow (mrow M 1 r11) 12 q12) 13 q13) 14 q14) 15 q15) 16 q16) 17 q17) 18 q18) 19 q19) (nI 3) (r11 4)
                try simp only [mput, mrow_same, mrow_hit, mrow_miss, mrow_sw, idr_eq, ne_eq, Nat.reduceEqDiff, not_false_eq_true, Nat.reduceLT, reduceCtorEq, g87] at q9
                exact q9
              refine G.callV (as := [.int (nI 3), .int (r11 4)]) (rest := []) (a := 1) oX6_fail lk_EvenFinders_Town_77 (by decide +kernel) rfl rfl ⟨rfl, rfl⟩ (Nat.le_of_ble_eq_true rfl) rfl ⟨Nat.le_of_ble_eq_true rfl, Nat.le_of_ble_eq_true rfl⟩ t90 (fun v9 N9 h91 => ?_) (fun E9 N9 h91 => by cases h91)
              cases h91
              show G z mX7_readFrom (d + 6) 0 0 71 [some (.ref 12), some (.ref 1), some (.int (nI i2)), some (.int v10)] [] (mrow (mrow (mrow (mrow (mrow (mrow (mrow (mrow (mrow M 1 r89) 12 q12) 13 q13) 14 q14) 15 q15) 16 q16) 17 q17) 18 q18) 19 q19) Q
              refine G.sl [(.aload_n 0, 1, 0, 0, 0, 0), (.aload_n 1, 1, 1, 0, 0, 0), (.iload_n 3, 1, 3, 0, 0, 0)] [] (pc2 := 74) (ls2 := [some (.ref 12), some (.ref 1), some (.int (nI i2)), some (.int v10)]) (st2 := [.int v10, .ref 1, .ref 12]) (M2 := mrow (mrow (mrow (mrow (mrow (mrow (mrow (mrow (mrow M 1 r89) 12 q12) 13 q13) 14 q14) 15 q15) 16 q16) 17 q17) 18 q18) 19 q19) (Ps := []) (by decide +kernel) rfl rfl trivial ?_
              obtain ⟨k92, hk⟩ := hk
              rcases g93 : v_readClause r89 (M.1 2) q12 q13 q14 q15 q16 q17 q18 q19 v10 with ⟨u94, r95, r96, r97, r98, r99, r100, r101, r102, r103⟩
              try simp only [g93] at hk
              have t104 : GM z mX7_readClause (d + 5) [.ref 12, .ref 1, .int v10] (mrow (mrow (mrow (mrow (mrow (mrow (mrow (mrow (mrow M 1 r89) 12 q12) 13 q13) 14 q14) 15 q15) 16 q16) 17 q17) 18 q18) 19 q19) (fun rs => rs = .inl (none, mrow (mrow (mrow (mrow (mrow (mrow (mrow (mrow (mrow M 1 r95) 12 r96) 13 r97) 14 r98) 15 r99) 16 r100) 17 r101) 18 r102) 19 r103)) := by
                have q9 := c_v_readClause_12_1 z (d + 2) (mrow (mrow (mrow (mrow (mrow (mrow (mrow (mrow (mrow M 1 r89) 12 q12) 13 q13) 14 q14) 15 q15) 16 q16) 17 q17) 18 q18) 19 q19) v10 k92
                try simp only [mput, mrow_same, mrow_hit, mrow_miss, mrow_sw, idr_eq, ne_eq, Nat.reduceEqDiff, not_false_eq_true, Nat.reduceLT, reduceCtorEq, g93] at q9
                exact q9
              refine G.callV (as := [.ref 1, .int v10]) (rest := []) (a := 12) oX7_readClause lk_EvenFinders_Town_81 (by decide +kernel) rfl rfl ⟨rfl, rfl⟩ (Nat.le_of_ble_eq_true rfl) rfl ⟨Nat.le_of_ble_eq_true rfl, Nat.le_of_ble_eq_true rfl⟩ t104 (fun v9 N9 h105 => ?_) (fun E9 N9 h105 => by cases h105)
              cases h105
              show G z mX7_readFrom (d + 6) 0 0 77 [some (.ref 12), some (.ref 1), some (.int (nI i2)), some (.int v10)] [] (mrow (mrow (mrow (mrow (mrow (mrow (mrow (mrow (mrow M 1 r95) 12 r96) 13 r97) 14 r98) 15 r99) 16 r100) 17 r101) 18 r102) 19 r103) Q
              refine G.sl [(.aload_n 1, 1, 1, 0, 0, 0), (.bipush 59, 2, 0, 0, 0, nI 59)] [] (pc2 := 80) (ls2 := [some (.ref 12), some (.ref 1), some (.int (nI i2)), some (.int v10)]) (st2 := [.int (nI 59), .ref 1]) (M2 := mrow (mrow (mrow (mrow (mrow (mrow (mrow (mrow (mrow M 1 r95) 12 r96) 13 r97) 14 r98) 15 r99) 16 r100) 17 r101) 18 r102) 19 r103) (Ps := []) (by decide +kernel) rfl rfl trivial ?_
              obtain ⟨k106, hk⟩ := hk
              rcases g107 : t_needSign r95 (M.1 2) (nI 59) with ⟨u108, r109⟩
              try simp only [g107] at hk
              have t110 : GM z mX6_needSign (d + 5) [.ref 1, .int (nI 59)] (mrow (mrow (mrow (mrow (mrow (mrow (mrow (mrow (mrow M 1 r95) 12 r96) 13 r97) 14 r98) 15 r99) 16 r100) 17 r101) 18 r102) 19 r103) (fun rs => rs = .inl (none, mrow (mrow (mrow (mrow (mrow (mrow (mrow (mrow (mrow M 1 r109) 12 r96) 13 r97) 14 r98) 15 r99) 16 r100) 17 r101) 18 r102) 19 r103)) := by
                have q9 := c_t_needSign_1 z (d + 4) (mrow (mrow (mrow (mrow (mrow (mrow (mrow (mrow (mrow M 1 r95) 12 r96) 13 r97) 14 r98) 15 r99) 16 r100) 17 r101) 18 r102) 19 r103) (nI 59) k106
                try simp only [mput, mrow_same, mrow_hit, mrow_miss, mrow_sw, idr_eq, ne_eq, Nat.reduceEqDiff, not_false_eq_true, Nat.reduceLT, reduceCtorEq, g107] at q9
                exact q9
              refine G.callV (as := [.int (nI 59)]) (rest := []) (a := 1) oX6_needSign lk_EvenFinders_Town_85 (by decide +kernel) rfl rfl ⟨rfl, rfl⟩ (Nat.le_of_ble_eq_true rfl) rfl ⟨Nat.le_of_ble_eq_true rfl, Nat.le_of_ble_eq_true rfl⟩ t110 (fun v9 N9 h111 => ?_) (fun E9 N9 h111 => by cases h111)
              cases h111
              show G z mX7_readFrom (d + 6) 0 0 83 [some (.ref 12), some (.ref 1), some (.int (nI i2)), some (.int v10)] [] (mrow (mrow (mrow (mrow (mrow (mrow (mrow (mrow (mrow M 1 r109) 12 r96) 13 r97) 14 r98) 15 r99) 16 r100) 17 r101) 18 r102) 19 r103) Q
              refine G.sl [(.iinc 2 1, 3, 2, 0, 0, nI 1), (.goto (-64), 3, 22, 0, 0, 0)] [] (pc2 := 22) (ls2 := [some (.ref 12), some (.ref 1), some (.int ((nI i2) + nI 1)), some (.int v10)]) (st2 := []) (M2 := mrow (mrow (mrow (mrow (mrow (mrow (mrow (mrow (mrow M 1 r109) 12 r96) 13 r97) 14 r98) 15 r99) 16 r100) 17 r101) 18 r102) 19 r103) (Ps := []) (by decide +kernel) rfl rfl trivial ?_
              refine G.loc (ls2 := [some (.ref 12), some (.ref 1), some (.int ((nI i2) + nI 1)), none]) (by simp [subL]) ?_
              rw [nI_add i2 1]
              simp only [v_readFrom_22, g2, if_neg c7, g9, if_neg c14, if_neg c35, if_neg c65, g87, g93, g107] at hX
              exact ih (i2 + 1) r109 r96 r97 r98 r99 r100 r101 r102 r103 (by omega) hk hX
