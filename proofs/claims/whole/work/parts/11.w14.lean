noncomputable def k_keepsRow_1_L51_3 (Ra2 Rimage : Nat → Int32) (n1 : Nat) (n3 : Nat) : Nat → (Nat → Int32) × (Nat → Int32)
  | 0 => (Ra2, Rimage)
  | i5 + 1 => match k_keepsRow_1_L51_3 Ra2 Rimage n1 n3 i5 with | (q71, q79) => (q71, upd q79 (n1 + i5) (q71 i5))
noncomputable def k_keepsRow_1_L51_3_ok (Ra2 Rimage : Nat → Int32) (n1 : Nat) (n3 : Nat) (i5 : Nat) : Prop := match k_keepsRow_1_L51_3 Ra2 Rimage n1 n3 i5 with | (q71, q79) => ((i5 < 51) ∧ (n1 + i5 < 2604) ∧ True)
set_option maxHeartbeats 4000000 in
set_option maxRecDepth 3000 in
theorem lp_k_keepsRow_1_L51_54_71_3 (z : Zp) (d : Nat) (M : Mem) (Q : Rs → Prop) (n1 : Nat) (n3 : Nat) (b1 : n1 < 3000) (b3 : n3 < 3000) (hk : ∀ i5, i5 < n3 → k_keepsRow_1_L51_3_ok (M.1 71) (M.1 79) n1 n3 i5) (hX : G z mX12_keepsRow (d) 0 0 49 [none, some (.int (nI n1)), none, some (.int (nI n3)), none, none] [] (mrow (mrow M 71 ((k_keepsRow_1_L51_3 (M.1 71) (M.1 79) n1 n3 n3).1)) 79 ((k_keepsRow_1_L51_3 (M.1 71) (M.1 79) n1 n3 n3).2)) Q) : G z mX12_keepsRow (d) 0 0 3 [some (.ref 54), some (.int (nI n1)), some (.ref 71), some (.int (nI n3)), some (.int (nI 1)), some (.int (nI 0))] [] M Q := by
  refine G.mem (M' := mrow (mrow M 71 (M.1 71)) 79 (M.1 79)) (by simp only [mrow_self]) ?_
  refine down (n := n3) (P := fun i5 => G z mX12_keepsRow (d) 0 0 3 [some (.ref 54), some (.int (nI n1)), some (.ref 71), some (.int (nI n3)), some (.int (nI 1)), some (.int (nI i5))] [] (mrow (mrow M 71 ((k_keepsRow_1_L51_3 (M.1 71) (M.1 79) n1 n3 i5).1)) 79 ((k_keepsRow_1_L51_3 (M.1 71) (M.1 79) n1 n3 i5).2)) Q) ?_ ?_ 0 (Nat.zero_le _)
  · skip
    refine G.sl [(.iload 5, 2, 5, 0, 0, 0), (.iload_n 3, 1, 3, 0, 0, 0)] [] (pc2 := 6) (ls2 := [some (.ref 54), some (.int (nI n1)), some (.ref 71), some (.int (nI n3)), some (.int (nI 1)), some (.int (nI n3))]) (st2 := [.int (nI n3), .int (nI n3)]) (M2 := mrow (mrow M 71 ((k_keepsRow_1_L51_3 (M.1 71) (M.1 79) n1 n3 n3).1)) 79 ((k_keepsRow_1_L51_3 (M.1 71) (M.1 79) n1 n3 n3).2)) (Ps := []) (by decide +kernel) rfl rfl trivial ?_
    refine G.ic_ge (off := (43)) (tgt := 49) (by decide +kernel) rfl (fun _ => ?_) (fun h9 => absurd (nI_le (by omega) (by omega)) h9)
    refine G.loc (ls2 := [none, some (.int (nI n1)), none, some (.int (nI n3)), none, none]) (by simp [subL]) ?_
    exact hX
  · skip
    intro i5 hi ih
    have hk := hk i5 hi
    simp only [k_keepsRow_1_L51_3_ok] at hk
    rcases g1 : k_keepsRow_1_L51_3 (M.1 71) (M.1 79) n1 n3 i5 with ⟨q71, q79⟩
    try simp only [g1] at hk
    try simp only [g1]
    show G z mX12_keepsRow (d) 0 0 3 [some (.ref 54), some (.int (nI n1)), some (.ref 71), some (.int (nI n3)), some (.int (nI 1)), some (.int (nI i5))] [] (mrow (mrow M 71 q71) 79 q79) Q
    refine G.sl [(.iload 5, 2, 5, 0, 0, 0), (.iload_n 3, 1, 3, 0, 0, 0)] [] (pc2 := 6) (ls2 := [some (.ref 54), some (.int (nI n1)), some (.ref 71), some (.int (nI n3)), some (.int (nI 1)), some (.int (nI i5))]) (st2 := [.int (nI n3), .int (nI i5)]) (M2 := mrow (mrow M 71 q71) 79 q79) (Ps := []) (by decide +kernel) rfl rfl trivial ?_
    refine G.ic_ge (off := (43)) (tgt := 49) (by decide +kernel) rfl (fun h9 => absurd h9 (nI_ge (by omega) (by omega))) (fun _ => ?_)
    refine G.sl [(.iload 4, 2, 4, 0, 0, 0)] [] (pc2 := 11) (ls2 := [some (.ref 54), some (.int (nI n1)), some (.ref 71), some (.int (nI n3)), some (.int (nI 1)), some (.int (nI i5))]) (st2 := [.int (nI 1)]) (M2 := mrow (mrow M 71 q71) 79 q79) (Ps := []) (by decide +kernel) rfl rfl trivial ?_
    refine G.if_eq (off := (19)) (tgt := 30) (by decide +kernel) rfl (fun h9 => absurd h9 (by decide)) (fun _ => ?_)
    obtain ⟨k2, k3, hk⟩ := hk
    refine G.sl [(.aload_n 0, 1, 0, 0, 0, 0), (.getfield 89, 3, 11, 50, 173, 0), (.iload_n 1, 1, 1, 0, 0, 0), (.iload 5, 2, 5, 0, 0, 0), (.iadd, 1, 0, 0, 0, 0), (.aload_n 2, 1, 2, 0, 0, 0), (.iload 5, 2, 5, 0, 0, 0), (.iaload, 1, 0, 0, 0, 0), (.iastore, 1, 0, 0, 0, 0), (.goto 16, 3, 43, 0, 0, 0), (.iinc 5 1, 3, 5, 0, 0, nI 1), (.goto (-43), 3, 3, 0, 0, 0)] [i5, n1 + i5] (pc2 := 3) (ls2 := [some (.ref 54), some (.int (nI n1)), some (.ref 71), some (.int (nI n3)), some (.int (nI 1)), some (.int ((nI i5) + nI 1))]) (st2 := []) (M2 := mput (mrow (mrow M 71 q71) 79 q79) 79 (n1 + i5) (q71 i5)) (Ps := [(nI i5) = nI i5 ∧ i5 < 51, ((nI n1) + (nI i5)) = nI (n1 + i5) ∧ (n1 + i5) < 2604]) (by decide +kernel) rfl rfl ⟨⟨rfl, k2⟩, ⟨(nI_add _ _), k3⟩, trivial⟩ ?_
    refine G.mem (M' := mrow (mrow M 71 q71) 79 (upd q79 (n1 + i5) (q71 i5))) (by first | rfl | (simp only [mput, mrow_same, mrow_hit, mrow_miss, mrow_sw, idr_eq, ne_eq, Nat.reduceEqDiff, not_false_eq_true, Nat.reduceLT, reduceCtorEq]; done)) ?_
    rw [nI_add i5 1]
    simp only [k_keepsRow_1_L51_3, g1] at ih
    exact ih
noncomputable def k_keepsRow_1_L51 (Ra2 Rimage : Nat → Int32) (n1 : Nat) (n3 : Nat) : Int32 × (Nat → Int32) × (Nat → Int32) := (match k_keepsRow_1_L51_3 (Ra2) (Rimage) n1 n3 n3 with | (r6, r7) => ((nI n1) + (nI n3), r6, r7))
noncomputable def k_keepsRow_1_L51_ok (Ra2 Rimage : Nat → Int32) (n1 : Nat) (n3 : Nat) : Prop := ((∀ i5, i5 < n3 → k_keepsRow_1_L51_3_ok (Ra2) (Rimage) n1 n3 i5) ∧ True)
set_option maxHeartbeats 4000000 in
set_option maxRecDepth 3000 in
theorem c_k_keepsRow_1_L51_54_71 (z : Zp) (d : Nat) (M : Mem) (n1 : Nat) (n3 : Nat) (b1 : n1 < 3000) (b3 : n3 < 3000) (hk : k_keepsRow_1_L51_ok (M.1 71) (M.1 79) n1 n3) : GM z mX12_keepsRow (d) [.ref 54, .int (nI n1), .ref 71, .int (nI n3), .int (nI 1)] M (fun rs => rs = .inl (some (.int ((k_keepsRow_1_L51 (M.1 71) (M.1 79) n1 n3).1)), mrow (mrow M 71 ((k_keepsRow_1_L51 (M.1 71) (M.1 79) n1 n3).2.1)) 79 ((k_keepsRow_1_L51 (M.1 71) (M.1 79) n1 n3).2.2))) := by
  simp only [k_keepsRow_1_L51_ok] at hk
  refine GM.of oX12_keepsRow.1 (Nat.le_of_ble_eq_true rfl) ?_
  show G z mX12_keepsRow (d) 0 0 0 [some (.ref 54), some (.int (nI n1)), some (.ref 71), some (.int (nI n3)), some (.int (nI 1)), none] [] M _
  obtain ⟨Q, hQ⟩ : ∃ Q : Rs → Prop, Q = (fun rs => rs = .inl (some (.int ((k_keepsRow_1_L51 (M.1 71) (M.1 79) n1 n3).1)), mrow (mrow M 71 ((k_keepsRow_1_L51 (M.1 71) (M.1 79) n1 n3).2.1)) 79 ((k_keepsRow_1_L51 (M.1 71) (M.1 79) n1 n3).2.2))) := ⟨_, rfl⟩
  rw [← hQ]
  refine G.sl [(.iconst 0, 1, 0, 0, 0, nI 0), (.istore 5, 2, 5, 0, 0, 0)] [] (pc2 := 3) (ls2 := [some (.ref 54), some (.int (nI n1)), some (.ref 71), some (.int (nI n3)), some (.int (nI 1)), some (.int (nI 0))]) (st2 := []) (M2 := M) (Ps := []) (by decide +kernel) rfl rfl trivial ?_
  obtain ⟨k4, hk⟩ := hk
  refine lp_k_keepsRow_1_L51_54_71_3 z d M Q n1 n3 (by omega) (by omega) (by first | (simp only [mput, mrow_same, mrow_hit, mrow_miss, mrow_sw, idr_eq, ne_eq, Nat.reduceEqDiff, not_false_eq_true, Nat.reduceLT, reduceCtorEq]; exact k4) | exact k4) ?_
  try simp only [mput, mrow_same, mrow_hit, mrow_miss, mrow_sw, idr_eq, ne_eq, Nat.reduceEqDiff, not_false_eq_true, Nat.reduceLT, reduceCtorEq]
  rcases g5 : k_keepsRow_1_L51_3 (M.1 71) (M.1 79) n1 n3 n3 with ⟨r6, r7⟩
  show G z mX12_keepsRow (d) 0 0 49 [none, some (.int (nI n1)), none, some (.int (nI n3)), none, none] [] (mrow (mrow M 71 r6) 79 r7) Q
  refine G.sl [(.iload_n 1, 1, 1, 0, 0, 0), (.iload_n 3, 1, 3, 0, 0, 0), (.iadd, 1, 0, 0, 0, 0)] [] (pc2 := 52) (ls2 := [none, some (.int (nI n1)), none, some (.int (nI n3)), none, none]) (st2 := [.int ((nI n1) + (nI n3))]) (M2 := mrow (mrow M 71 r6) 79 r7) (Ps := []) (by decide +kernel) rfl rfl trivial ?_
  exact G.reti (by decide +kernel) rfl rfl (Nat.le_of_ble_eq_true rfl) (Nat.le_of_ble_eq_true rfl) ((by rw [hQ]; simp only [k_keepsRow_1_L51, g5, mrow_self]))
noncomputable def k_keepsRow_1_L816_3 (Ra2 Rimage : Nat → Int32) (n1 : Nat) (n3 : Nat) : Nat → (Nat → Int32) × (Nat → Int32)
  | 0 => (Ra2, Rimage)
  | i5 + 1 => match k_keepsRow_1_L816_3 Ra2 Rimage n1 n3 i5 with | (q73, q79) => (q73, upd q79 (n1 + i5) (q73 i5))
noncomputable def k_keepsRow_1_L816_3_ok (Ra2 Rimage : Nat → Int32) (n1 : Nat) (n3 : Nat) (i5 : Nat) : Prop := match k_keepsRow_1_L816_3 Ra2 Rimage n1 n3 i5 with | (q73, q79) => ((i5 < 816) ∧ (n1 + i5 < 2604) ∧ True)
set_option maxHeartbeats 4000000 in
set_option maxRecDepth 3000 in
theorem lp_k_keepsRow_1_L816_54_73_3 (z : Zp) (d : Nat) (M : Mem) (Q : Rs → Prop) (n1 : Nat) (n3 : Nat) (b1 : n1 < 3000) (b3 : n3 < 3000) (hk : ∀ i5, i5 < n3 → k_keepsRow_1_L816_3_ok (M.1 73) (M.1 79) n1 n3 i5) (hX : G z mX12_keepsRow (d) 0 0 49 [none, some (.int (nI n1)), none, some (.int (nI n3)), none, none] [] (mrow (mrow M 73 ((k_keepsRow_1_L816_3 (M.1 73) (M.1 79) n1 n3 n3).1)) 79 ((k_keepsRow_1_L816_3 (M.1 73) (M.1 79) n1 n3 n3).2)) Q) : G z mX12_keepsRow (d) 0 0 3 [some (.ref 54), some (.int (nI n1)), some (.ref 73), some (.int (nI n3)), some (.int (nI 1)), some (.int (nI 0))] [] M Q := by
  refine G.mem (M' := mrow (mrow M 73 (M.1 73)) 79 (M.1 79)) (by simp only [mrow_self]) ?_
  refine down (n := n3) (P := fun i5 => G z mX12_keepsRow (d) 0 0 3 [some (.ref 54), some (.int (nI n1)), some (.ref 73), some (.int (nI n3)), some (.int (nI 1)), some (.int (nI i5))] [] (mrow (mrow M 73 ((k_keepsRow_1_L816_3 (M.1 73) (M.1 79) n1 n3 i5).1)) 79 ((k_keepsRow_1_L816_3 (M.1 73) (M.1 79) n1 n3 i5).2)) Q) ?_ ?_ 0 (Nat.zero_le _)
  · skip
    refine G.sl [(.iload 5, 2, 5, 0, 0, 0), (.iload_n 3, 1, 3, 0, 0, 0)] [] (pc2 := 6) (ls2 := [some (.ref 54), some (.int (nI n1)), some (.ref 73), some (.int (nI n3)), some (.int (nI 1)), some (.int (nI n3))]) (st2 := [.int (nI n3), .int (nI n3)]) (M2 := mrow (mrow M 73 ((k_keepsRow_1_L816_3 (M.1 73) (M.1 79) n1 n3 n3).1)) 79 ((k_keepsRow_1_L816_3 (M.1 73) (M.1 79) n1 n3 n3).2)) (Ps := []) (by decide +kernel) rfl rfl trivial ?_
    refine G.ic_ge (off := (43)) (tgt := 49) (by decide +kernel) rfl (fun _ => ?_) (fun h9 => absurd (nI_le (by omega) (by omega)) h9)
    refine G.loc (ls2 := [none, some (.int (nI n1)), none, some (.int (nI n3)), none, none]) (by simp [subL]) ?_
    exact hX
  · skip
    intro i5 hi ih
    have hk := hk i5 hi
    simp only [k_keepsRow_1_L816_3_ok] at hk
    rcases g1 : k_keepsRow_1_L816_3 (M.1 73) (M.1 79) n1 n3 i5 with ⟨q73, q79⟩
    try simp only [g1] at hk
    try simp only [g1]
    show G z mX12_keepsRow (d) 0 0 3 [some (.ref 54), some (.int (nI n1)), some (.ref 73), some (.int (nI n3)), some (.int (nI 1)), some (.int (nI i5))] [] (mrow (mrow M 73 q73) 79 q79) Q
    refine G.sl [(.iload 5, 2, 5, 0, 0, 0), (.iload_n 3, 1, 3, 0, 0, 0)] [] (pc2 := 6) (ls2 := [some (.ref 54), some (.int (nI n1)), some (.ref 73), some (.int (nI n3)), some (.int (nI 1)), some (.int (nI i5))]) (st2 := [.int (nI n3), .int (nI i5)]) (M2 := mrow (mrow M 73 q73) 79 q79) (Ps := []) (by decide +kernel) rfl rfl trivial ?_
    refine G.ic_ge (off := (43)) (tgt := 49) (by decide +kernel) rfl (fun h9 => absurd h9 (nI_ge (by omega) (by omega))) (fun _ => ?_)
    refine G.sl [(.iload 4, 2, 4, 0, 0, 0)] [] (pc2 := 11) (ls2 := [some (.ref 54), some (.int (nI n1)), some (.ref 73), some (.int (nI n3)), some (.int (nI 1)), some (.int (nI i5))]) (st2 := [.int (nI 1)]) (M2 := mrow (mrow M 73 q73) 79 q79) (Ps := []) (by decide +kernel) rfl rfl trivial ?_
    refine G.if_eq (off := (19)) (tgt := 30) (by decide +kernel) rfl (fun h9 => absurd h9 (by decide)) (fun _ => ?_)
    obtain ⟨k2, k3, hk⟩ := hk
    refine G.sl [(.aload_n 0, 1, 0, 0, 0, 0), (.getfield 89, 3, 11, 50, 173, 0), (.iload_n 1, 1, 1, 0, 0, 0), (.iload 5, 2, 5, 0, 0, 0), (.iadd, 1, 0, 0, 0, 0), (.aload_n 2, 1, 2, 0, 0, 0), (.iload 5, 2, 5, 0, 0, 0), (.iaload, 1, 0, 0, 0, 0), (.iastore, 1, 0, 0, 0, 0), (.goto 16, 3, 43, 0, 0, 0), (.iinc 5 1, 3, 5, 0, 0, nI 1), (.goto (-43), 3, 3, 0, 0, 0)] [i5, n1 + i5] (pc2 := 3) (ls2 := [some (.ref 54), some (.int (nI n1)), some (.ref 73), some (.int (nI n3)), some (.int (nI 1)), some (.int ((nI i5) + nI 1))]) (st2 := []) (M2 := mput (mrow (mrow M 73 q73) 79 q79) 79 (n1 + i5) (q73 i5)) (Ps := [(nI i5) = nI i5 ∧ i5 < 816, ((nI n1) + (nI i5)) = nI (n1 + i5) ∧ (n1 + i5) < 2604]) (by decide +kernel) rfl rfl ⟨⟨rfl, k2⟩, ⟨(nI_add _ _), k3⟩, trivial⟩ ?_
    refine G.mem (M' := mrow (mrow M 73 q73) 79 (upd q79 (n1 + i5) (q73 i5))) (by first | rfl | (simp only [mput, mrow_same, mrow_hit, mrow_miss, mrow_sw, idr_eq, ne_eq, Nat.reduceEqDiff, not_false_eq_true, Nat.reduceLT, reduceCtorEq]; done)) ?_
    rw [nI_add i5 1]
    simp only [k_keepsRow_1_L816_3, g1] at ih
    exact ih
noncomputable def k_keepsRow_1_L816 (Ra2 Rimage : Nat → Int32) (n1 : Nat) (n3 : Nat) : Int32 × (Nat → Int32) × (Nat → Int32) := (match k_keepsRow_1_L816_3 (Ra2) (Rimage) n1 n3 n3 with | (r6, r7) => ((nI n1) + (nI n3), r6, r7))
noncomputable def k_keepsRow_1_L816_ok (Ra2 Rimage : Nat → Int32) (n1 : Nat) (n3 : Nat) : Prop := ((∀ i5, i5 < n3 → k_keepsRow_1_L816_3_ok (Ra2) (Rimage) n1 n3 i5) ∧ True)
set_option maxHeartbeats 4000000 in
set_option maxRecDepth 3000 in
theorem c_k_keepsRow_1_L816_54_73 (z : Zp) (d : Nat) (M : Mem) (n1 : Nat) (n3 : Nat) (b1 : n1 < 3000) (b3 : n3 < 3000) (hk : k_keepsRow_1_L816_ok (M.1 73) (M.1 79) n1 n3) : GM z mX12_keepsRow (d) [.ref 54, .int (nI n1), .ref 73, .int (nI n3), .int (nI 1)] M (fun rs => rs = .inl (some (.int ((k_keepsRow_1_L816 (M.1 73) (M.1 79) n1 n3).1)), mrow (mrow M 73 ((k_keepsRow_1_L816 (M.1 73) (M.1 79) n1 n3).2.1)) 79 ((k_keepsRow_1_L816 (M.1 73) (M.1 79) n1 n3).2.2))) := by
  simp only [k_keepsRow_1_L816_ok] at hk
  refine GM.of oX12_keepsRow.1 (Nat.le_of_ble_eq_true rfl) ?_
  show G z mX12_keepsRow (d) 0 0 0 [some (.ref 54), some (.int (nI n1)), some (.ref 73), some (.int (nI n3)), some (.int (nI 1)), none] [] M _
  obtain ⟨Q, hQ⟩ : ∃ Q : Rs → Prop, Q = (fun rs => rs = .inl (some (.int ((k_keepsRow_1_L816 (M.1 73) (M.1 79) n1 n3).1)), mrow (mrow M 73 ((k_keepsRow_1_L816 (M.1 73) (M.1 79) n1 n3).2.1)) 79 ((k_keepsRow_1_L816 (M.1 73) (M.1 79) n1 n3).2.2))) := ⟨_, rfl⟩
  rw [← hQ]
  refine G.sl [(.iconst 0, 1, 0, 0, 0, nI 0), (.istore 5, 2, 5, 0, 0, 0)] [] (pc2 := 3) (ls2 := [some (.ref 54), some (.int (nI n1)), some (.ref 73), some (.int (nI n3)), some (.int (nI 1)), some (.int (nI 0))]) (st2 := []) (M2 := M) (Ps := []) (by decide +kernel) rfl rfl trivial ?_
  obtain ⟨k4, hk⟩ := hk
  refine lp_k_keepsRow_1_L816_54_73_3 z d M Q n1 n3 (by omega) (by omega) (by first | (simp only [mput, mrow_same, mrow_hit, mrow_miss, mrow_sw, idr_eq, ne_eq, Nat.reduceEqDiff, not_false_eq_true, Nat.reduceLT, reduceCtorEq]; exact k4) | exact k4) ?_
  try simp only [mput, mrow_same, mrow_hit, mrow_miss, mrow_sw, idr_eq, ne_eq, Nat.reduceEqDiff, not_false_eq_true, Nat.reduceLT, reduceCtorEq]
  rcases g5 : k_keepsRow_1_L816_3 (M.1 73) (M.1 79) n1 n3 n3 with ⟨r6, r7⟩
  show G z mX12_keepsRow (d) 0 0 49 [none, some (.int (nI n1)), none, some (.int (nI n3)), none, none] [] (mrow (mrow M 73 r6) 79 r7) Q
  refine G.sl [(.iload_n 1, 1, 1, 0, 0, 0), (.iload_n 3, 1, 3, 0, 0, 0), (.iadd, 1, 0, 0, 0, 0)] [] (pc2 := 52) (ls2 := [none, some (.int (nI n1)), none, some (.int (nI n3)), none, none]) (st2 := [.int ((nI n1) + (nI n3))]) (M2 := mrow (mrow M 73 r6) 79 r7) (Ps := []) (by decide +kernel) rfl rfl trivial ?_
  exact G.reti (by decide +kernel) rfl rfl (Nat.le_of_ble_eq_true rfl) (Nat.le_of_ble_eq_true rfl) ((by rw [hQ]; simp only [k_keepsRow_1_L816, g5, mrow_self]))
noncomputable def k_keepsAll_1 (Rmd Rnow Rpast Rimage : Nat → Int32) (n1 : Nat) : Int32 × (Nat → Int32) × (Nat → Int32) × (Nat → Int32) × (Nat → Int32) := (match k_keepsRow_1_L51 (Rnow) (Rimage) (868 * n1) 51 with | (v3, r4, r5) => (match k_keepsRow_1_L816 (Rpast) r5 (ix v3) 816 with | (v12, r13, r14) => (0, Rmd, r4, r13, upd r14 (ix v12) (Rmd 35))))
noncomputable def k_keepsAll_1_ok (Rmd Rnow Rpast Rimage : Nat → Int32) (n1 : Nat) : Prop := (k_keepsRow_1_L51_ok (Rnow) (Rimage) (868 * n1) 51 ∧ (match k_keepsRow_1_L51 (Rnow) (Rimage) (868 * n1) 51 with | (v3, r4, r5) => ((isN v3) ∧ (ix v3 < 3000) ∧ (k_keepsRow_1_L816_ok (Rpast) r5 (ix v3) 816 ∧ (match k_keepsRow_1_L816 (Rpast) r5 (ix v3) 816 with | (v12, r13, r14) => ((isN v12) ∧ (ix v12 < 2604) ∧ True))))))
set_option maxHeartbeats 4000000 in
set_option maxRecDepth 3000 in
theorem c_k_keepsAll_1_54 (z : Zp) (d : Nat) (M : Mem) (n1 : Nat) (b1 : n1 < 3) (hk : k_keepsAll_1_ok (M.1 54) (M.1 71) (M.1 73) (M.1 79) n1) : GM z mX12_keepsAll (d + 1) [.ref 54, .int (nI n1), .int (nI 1)] M (fun rs => rs = .inl (none, mrow (mrow (mrow (mrow M 54 ((k_keepsAll_1 (M.1 54) (M.1 71) (M.1 73) (M.1 79) n1).2.1)) 71 ((k_keepsAll_1 (M.1 54) (M.1 71) (M.1 73) (M.1 79) n1).2.2.1)) 73 ((k_keepsAll_1 (M.1 54) (M.1 71) (M.1 73) (M.1 79) n1).2.2.2.1)) 79 ((k_keepsAll_1 (M.1 54) (M.1 71) (M.1 73) (M.1 79) n1).2.2.2.2))) := by
  simp only [k_keepsAll_1_ok] at hk
  refine GM.of oX12_keepsAll.1 (Nat.le_of_ble_eq_true rfl) ?_
  show G z mX12_keepsAll (d + 1) 0 0 0 [some (.ref 54), some (.int (nI n1)), some (.int (nI 1)), none] [] M _
  obtain ⟨Q, hQ⟩ : ∃ Q : Rs → Prop, Q = (fun rs => rs = .inl (none, mrow (mrow (mrow (mrow M 54 ((k_keepsAll_1 (M.1 54) (M.1 71) (M.1 73) (M.1 79) n1).2.1)) 71 ((k_keepsAll_1 (M.1 54) (M.1 71) (M.1 73) (M.1 79) n1).2.2.1)) 73 ((k_keepsAll_1 (M.1 54) (M.1 71) (M.1 73) (M.1 79) n1).2.2.2.1)) 79 ((k_keepsAll_1 (M.1 54) (M.1 71) (M.1 73) (M.1 79) n1).2.2.2.2))) := ⟨_, rfl⟩
  rw [← hQ]
  refine G.sl [(.aload_n 0, 1, 0, 0, 0, 0), (.sipush 868, 3, 0, 0, 0, nI 868), (.iload_n 1, 1, 1, 0, 0, 0), (.imul, 1, 0, 0, 0, 0), (.aload_n 0, 1, 0, 0, 0, 0), (.getfield 65, 3, 11, 40, 163, 0), (.bipush 51, 2, 0, 0, 0, nI 51), (.iload_n 2, 1, 2, 0, 0, 0)] [] (pc2 := 13) (ls2 := [some (.ref 54), some (.int (nI n1)), some (.int (nI 1)), none]) (st2 := [.int (nI 1), .int (nI 51), .ref 71, .int ((nI 868) * (nI n1)), .ref 54]) (M2 := M) (Ps := []) (by decide +kernel) rfl rfl trivial ?_
  obtain ⟨k1, hk⟩ := hk
  refine G.eq (st' := [.int (nI 1), .int (nI 51), .ref 71, .int (nI (868 * n1)), .ref 54]) ?_ rfl (by rw [← (show (nI 868) * (nI n1) = nI (868 * n1) from (pk_mul _ _))]) rfl
  rcases g2 : k_keepsRow_1_L51 (M.1 71) (M.1 79) (868 * n1) 51 with ⟨v3, r4, r5⟩
  try simp only [g2] at hk
  have t6 : GM z mX12_keepsRow (d) [.ref 54, .int (nI (868 * n1)), .ref 71, .int (nI 51), .int (nI 1)] M (fun rs => rs = .inl (some (.int v3), mrow (mrow M 71 r4) 79 r5)) := by
    have q9 := c_k_keepsRow_1_L51_54_71 z d M (868 * n1) 51 (by omega) (by omega) k1
    try simp only [mput, mrow_same, mrow_hit, mrow_miss, mrow_sw, idr_eq, ne_eq, Nat.reduceEqDiff, not_false_eq_true, Nat.reduceLT, reduceCtorEq, g2] at q9
    exact q9
  refine G.callV (as := [.int (nI (868 * n1)), .ref 71, .int (nI 51), .int (nI 1)]) (rest := []) (a := 54) oX12_keepsRow lk_EvenFindersModel_448 (by decide +kernel) rfl rfl ⟨rfl, rfl⟩ (Nat.le_of_ble_eq_true rfl) rfl ⟨Nat.le_of_ble_eq_true rfl, Nat.le_of_ble_eq_true rfl⟩ t6 (fun v9 N9 h7 => ?_) (fun E9 N9 h7 => by cases h7)
  cases h7
  show G z mX12_keepsAll (d + 1) 0 0 16 [some (.ref 54), some (.int (nI n1)), some (.int (nI 1)), none] [.int v3] (mrow (mrow M 71 r4) 79 r5) Q
  refine G.sl [(.istore_n 3, 1, 3, 0, 0, 0), (.aload_n 0, 1, 0, 0, 0, 0), (.iload_n 3, 1, 3, 0, 0, 0), (.aload_n 0, 1, 0, 0, 0, 0), (.getfield 71, 3, 11, 42, 165, 0), (.sipush 816, 3, 0, 0, 0, nI 816), (.iload_n 2, 1, 2, 0, 0, 0)] [] (pc2 := 27) (ls2 := [some (.ref 54), some (.int (nI n1)), some (.int (nI 1)), some (.int v3)]) (st2 := [.int (nI 1), .int (nI 816), .ref 73, .int v3, .ref 54]) (M2 := mrow (mrow M 71 r4) 79 r5) (Ps := []) (by decide +kernel) rfl rfl trivial ?_
  obtain ⟨k8, k9, hk⟩ := hk
  obtain ⟨k10, hk⟩ := hk
  refine G.eq (st' := [.int (nI 1), .int (nI 816), .ref 73, .int (nI (ix v3)), .ref 54]) ?_ rfl (by rw [← (show v3 = nI (ix v3) from (ixE k8))]) rfl
  rcases g11 : k_keepsRow_1_L816 (M.1 73) r5 (ix v3) 816 with ⟨v12, r13, r14⟩
  try simp only [g11] at hk
  have t15 : GM z mX12_keepsRow (d) [.ref 54, .int (nI (ix v3)), .ref 73, .int (nI 816), .int (nI 1)] (mrow (mrow M 71 r4) 79 r5) (fun rs => rs = .inl (some (.int v12), mrow (mrow (mrow M 71 r4) 73 r13) 79 r14)) := by
    have q9 := c_k_keepsRow_1_L816_54_73 z d (mrow (mrow M 71 r4) 79 r5) (ix v3) 816 k9 (by omega) k10
    try simp only [mput, mrow_same, mrow_hit, mrow_miss, mrow_sw, idr_eq, ne_eq, Nat.reduceEqDiff, not_false_eq_true, Nat.reduceLT, reduceCtorEq, g11] at q9
    exact q9
  refine G.callV (as := [.int (nI (ix v3)), .ref 73, .int (nI 816), .int (nI 1)]) (rest := []) (a := 54) oX12_keepsRow lk_EvenFindersModel_448 (by decide +kernel) rfl rfl ⟨rfl, rfl⟩ (Nat.le_of_ble_eq_true rfl) rfl ⟨Nat.le_of_ble_eq_true rfl, Nat.le_of_ble_eq_true rfl⟩ t15 (fun v9 N9 h16 => ?_) (fun E9 N9 h16 => by cases h16)
  cases h16
  show G z mX12_keepsAll (d + 1) 0 0 30 [some (.ref 54), some (.int (nI n1)), some (.int (nI 1)), some (.int v3)] [.int v12] (mrow (mrow (mrow M 71 r4) 73 r13) 79 r14) Q
  refine G.sl [(.istore_n 3, 1, 3, 0, 0, 0), (.iload_n 2, 1, 2, 0, 0, 0)] [] (pc2 := 32) (ls2 := [some (.ref 54), some (.int (nI n1)), some (.int (nI 1)), some (.int v12)]) (st2 := [.int (nI 1)]) (M2 := mrow (mrow (mrow M 71 r4) 73 r13) 79 r14) (Ps := []) (by decide +kernel) rfl rfl trivial ?_
  refine G.if_eq (off := (16)) (tgt := 48) (by decide +kernel) rfl (fun h9 => absurd h9 (by decide)) (fun _ => ?_)
  obtain ⟨k17, k18, hk⟩ := hk
  refine G.sl [(.aload_n 0, 1, 0, 0, 0, 0), (.getfield 89, 3, 11, 50, 173, 0), (.iload_n 3, 1, 3, 0, 0, 0), (.aload_n 0, 1, 0, 0, 0, 0), (.getfield 178, 3, 11, 35, 158, 0), (.iastore, 1, 0, 0, 0, 0), (.goto 13, 3, 58, 0, 0, 0)] [ix v12] (pc2 := 58) (ls2 := [some (.ref 54), some (.int (nI n1)), some (.int (nI 1)), some (.int v12)]) (st2 := []) (M2 := mput (mrow (mrow (mrow M 71 r4) 73 r13) 79 r14) 79 (ix v12) (M.1 54 35)) (Ps := [v12 = nI (ix v12) ∧ (ix v12) < 2604]) (by decide +kernel) rfl rfl ⟨⟨(ixE k17), k18⟩, trivial⟩ ?_
  refine G.mem (M' := mrow (mrow (mrow M 71 r4) 73 r13) 79 (upd r14 (ix v12) (M.1 54 35))) (by first | rfl | (simp only [mput, mrow_same, mrow_hit, mrow_miss, mrow_sw, idr_eq, ne_eq, Nat.reduceEqDiff, not_false_eq_true, Nat.reduceLT, reduceCtorEq]; done)) ?_
  refine G.mem (M' := mrow (mrow (mrow (mrow M 54 (M.1 54)) 71 r4) 73 r13) 79 (upd r14 (ix v12) (M.1 54 35))) (((mrow_id (N := mrow (mrow (mrow M 71 r4) 73 r13) 79 (upd r14 (ix v12) (M.1 54 35))) (c := 54) (f := M.1 54) (by first | rfl | (simp only [mput, mrow_same, mrow_hit, mrow_miss, mrow_sw, idr_eq, ne_eq, Nat.reduceEqDiff, not_false_eq_true, Nat.reduceLT, reduceCtorEq]; done))).symm).trans (by first | rfl | (simp only [mput, mrow_same, mrow_hit, mrow_miss, mrow_sw, idr_eq, ne_eq, Nat.reduceEqDiff, not_false_eq_true, Nat.reduceLT, reduceCtorEq]; done))) ?_
  exact G.retv (by decide +kernel) rfl (Nat.le_of_ble_eq_true rfl) (Nat.le_of_ble_eq_true rfl) ((by rw [hQ]; simp only [k_keepsAll_1, g2, g11, mrow_self]))
noncomputable def k_image (Rmd Rnow Rpast Rimage : Nat → Int32) : Int32 × (Nat → Int32) × (Nat → Int32) × (Nat → Int32) × (Nat → Int32) := (if (Rmd 51) = (nI 3) then ((-1), upd (Rmd) 0 (nI 0), Rnow, Rpast, Rimage) else (match k_keepsAll_1 (upd (Rmd) 0 (nI 0)) (Rnow) (Rpast) (Rimage) (ix (Rmd 51)) with | (u6, r7, r8, r9, r10) => ((r7 51) + (nI 1), upd r7 51 ((r7 51) + (nI 1)), r8, r9, r10)))
noncomputable def k_image_ok (Rmd Rnow Rpast Rimage : Nat → Int32) : Prop := (if (Rmd 51) = (nI 3) then True else ((isN (Rmd 51)) ∧ (ix (Rmd 51) < 3) ∧ (k_keepsAll_1_ok (upd (Rmd) 0 (nI 0)) (Rnow) (Rpast) (Rimage) (ix (Rmd 51)) ∧ True)))
set_option maxHeartbeats 4000000 in
set_option maxRecDepth 3000 in
theorem c_k_image_54 (z : Zp) (d : Nat) (M : Mem) (hk : k_image_ok (M.1 54) (M.1 71) (M.1 73) (M.1 79)) : GM z mX12_image (d + 2) [.ref 54] M (fun rs => rs = .inl (some (.int ((k_image (M.1 54) (M.1 71) (M.1 73) (M.1 79)).1)), mrow (mrow (mrow (mrow M 54 ((k_image (M.1 54) (M.1 71) (M.1 73) (M.1 79)).2.1)) 71 ((k_image (M.1 54) (M.1 71) (M.1 73) (M.1 79)).2.2.1)) 73 ((k_image (M.1 54) (M.1 71) (M.1 73) (M.1 79)).2.2.2.1)) 79 ((k_image (M.1 54) (M.1 71) (M.1 73) (M.1 79)).2.2.2.2))) := by
  simp only [k_image_ok] at hk
  refine GM.of oX12_image.1 (Nat.le_of_ble_eq_true rfl) ?_
  show G z mX12_image (d + 2) 0 0 0 [some (.ref 54)] [] M _
  obtain ⟨Q, hQ⟩ : ∃ Q : Rs → Prop, Q = (fun rs => rs = .inl (some (.int ((k_image (M.1 54) (M.1 71) (M.1 73) (M.1 79)).1)), mrow (mrow (mrow (mrow M 54 ((k_image (M.1 54) (M.1 71) (M.1 73) (M.1 79)).2.1)) 71 ((k_image (M.1 54) (M.1 71) (M.1 73) (M.1 79)).2.2.1)) 73 ((k_image (M.1 54) (M.1 71) (M.1 73) (M.1 79)).2.2.2.1)) 79 ((k_image (M.1 54) (M.1 71) (M.1 73) (M.1 79)).2.2.2.2))) := ⟨_, rfl⟩
  rw [← hQ]
  refine G.sl [(.aload_n 0, 1, 0, 0, 0, 0), (.iconst 0, 1, 0, 0, 0, nI 0), (.putfield 3, 3, 11, 0, 123, 0), (.aload_n 0, 1, 0, 0, 0, 0), (.getfield 181, 3, 11, 51, 174, 0), (.iconst 3, 1, 0, 0, 0, nI 3)] [] (pc2 := 10) (ls2 := [some (.ref 54)]) (st2 := [.int (nI 3), .int (M.1 54 51)]) (M2 := mput M 54 0 (nI 0)) (Ps := []) (by decide +kernel) rfl rfl trivial ?_
  refine G.mem (M' := mrow M 54 (upd (M.1 54) 0 (nI 0))) (by first | rfl | (simp only [mput, mrow_same, mrow_hit, mrow_miss, mrow_sw, idr_eq, ne_eq, Nat.reduceEqDiff, not_false_eq_true, Nat.reduceLT, reduceCtorEq]; done)) ?_
  refine G.ic_ne (off := (5)) (tgt := 15) (by decide +kernel) rfl (fun c1 => ?_) (fun c1 => ?_)
  · skip
    rw [if_neg c1] at hk
    refine G.sl [(.aload_n 0, 1, 0, 0, 0, 0), (.aload_n 0, 1, 0, 0, 0, 0), (.getfield 181, 3, 11, 51, 174, 0), (.iconst 1, 1, 0, 0, 0, nI 1)] [] (pc2 := 21) (ls2 := [some (.ref 54)]) (st2 := [.int (nI 1), .int (M.1 54 51), .ref 54]) (M2 := mrow M 54 (upd (M.1 54) 0 (nI 0))) (Ps := []) (by decide +kernel) rfl rfl trivial ?_
    obtain ⟨k2, k3, hk⟩ := hk
    obtain ⟨k4, hk⟩ := hk
    refine G.eq (st' := [.int (nI 1), .int (nI (ix (M.1 54 51))), .ref 54]) ?_ rfl (by rw [← (show M.1 54 51 = nI (ix (M.1 54 51)) from (ixE k2))]) rfl
    rcases g5 : k_keepsAll_1 (upd (M.1 54) 0 (nI 0)) (M.1 71) (M.1 73) (M.1 79) (ix (M.1 54 51)) with ⟨u6, r7, r8, r9, r10⟩
    have t11 : GM z mX12_keepsAll (d + 1) [.ref 54, .int (nI (ix (M.1 54 51))), .int (nI 1)] (mrow M 54 (upd (M.1 54) 0 (nI 0))) (fun rs => rs = .inl (none, mrow (mrow (mrow (mrow M 54 r7) 71 r8) 73 r9) 79 r10)) := by
      have q9 := c_k_keepsAll_1_54 z d (mrow M 54 (upd (M.1 54) 0 (nI 0))) (ix (M.1 54 51)) k3 k4
      try simp only [mput, mrow_same, mrow_hit, mrow_miss, mrow_sw, idr_eq, ne_eq, Nat.reduceEqDiff, not_false_eq_true, Nat.reduceLT, reduceCtorEq, g5] at q9
      exact q9
    refine G.callV (as := [.int (nI (ix (M.1 54 51))), .int (nI 1)]) (rest := []) (a := 54) oX12_keepsAll lk_EvenFindersModel_452 (by decide +kernel) rfl rfl ⟨rfl, rfl⟩ (Nat.le_of_ble_eq_true rfl) rfl ⟨Nat.le_of_ble_eq_true rfl, Nat.le_of_ble_eq_true rfl⟩ t11 (fun v9 N9 h12 => ?_) (fun E9 N9 h12 => by cases h12)
    cases h12
    show G z mX12_image (d + 2) 0 0 24 [some (.ref 54)] [] (mrow (mrow (mrow (mrow M 54 r7) 71 r8) 73 r9) 79 r10) Q
    refine G.sl [(.aload_n 0, 1, 0, 0, 0, 0), (.dup, 1, 0, 0, 0, 0), (.getfield 181, 3, 11, 51, 174, 0), (.iconst 1, 1, 0, 0, 0, nI 1), (.iadd, 1, 0, 0, 0, 0), (.putfield 181, 3, 11, 51, 174, 0), (.aload_n 0, 1, 0, 0, 0, 0), (.getfield 181, 3, 11, 51, 174, 0)] [] (pc2 := 38) (ls2 := [some (.ref 54)]) (st2 := [.int ((r7 51) + (nI 1))]) (M2 := mput (mrow (mrow (mrow (mrow M 54 r7) 71 r8) 73 r9) 79 r10) 54 51 ((r7 51) + (nI 1))) (Ps := []) (by decide +kernel) rfl rfl trivial ?_
    refine G.mem (M' := mrow (mrow (mrow (mrow M 54 (upd r7 51 ((r7 51) + (nI 1)))) 71 r8) 73 r9) 79 r10) (by first | rfl | (simp only [mput, mrow_same, mrow_hit, mrow_miss, mrow_sw, idr_eq, ne_eq, Nat.reduceEqDiff, not_false_eq_true, Nat.reduceLT, reduceCtorEq]; done)) ?_
    exact G.reti (by decide +kernel) rfl rfl (Nat.le_of_ble_eq_true rfl) (Nat.le_of_ble_eq_true rfl) ((by rw [hQ]; simp only [k_image, if_neg c1, g5, mrow_self]))
  · skip
    rw [if_pos c1] at hk
    refine G.sl [(.iconst (-1), 1, 0, 0, 0, (-1))] [] (pc2 := 14) (ls2 := [some (.ref 54)]) (st2 := [.int ((-1))]) (M2 := mrow M 54 (upd (M.1 54) 0 (nI 0))) (Ps := []) (by decide +kernel) rfl rfl trivial ?_
    refine G.mem (M' := mrow (mrow (mrow (mrow M 54 (upd (M.1 54) 0 (nI 0))) 71 (M.1 71)) 73 (M.1 73)) 79 (M.1 79)) (((((mrow_id (N := mrow M 54 (upd (M.1 54) 0 (nI 0))) (c := 71) (f := M.1 71) (by first | rfl | (simp only [mput, mrow_same, mrow_hit, mrow_miss, mrow_sw, idr_eq, ne_eq, Nat.reduceEqDiff, not_false_eq_true, Nat.reduceLT, reduceCtorEq]; done))).symm).trans (mrow_id (N := mrow (mrow M 54 (upd (M.1 54) 0 (nI 0))) 71 (M.1 71)) (c := 73) (f := M.1 73) (by first | rfl | (simp only [mput, mrow_same, mrow_hit, mrow_miss, mrow_sw, idr_eq, ne_eq, Nat.reduceEqDiff, not_false_eq_true, Nat.reduceLT, reduceCtorEq]; done))).symm).trans (mrow_id (N := mrow (mrow (mrow M 54 (upd (M.1 54) 0 (nI 0))) 71 (M.1 71)) 73 (M.1 73)) (c := 79) (f := M.1 79) (by first | rfl | (simp only [mput, mrow_same, mrow_hit, mrow_miss, mrow_sw, idr_eq, ne_eq, Nat.reduceEqDiff, not_false_eq_true, Nat.reduceLT, reduceCtorEq]; done))).symm).trans (by first | rfl | (simp only [mput, mrow_same, mrow_hit, mrow_miss, mrow_sw, idr_eq, ne_eq, Nat.reduceEqDiff, not_false_eq_true, Nat.reduceLT, reduceCtorEq]; done))) ?_
    exact G.reti (by decide +kernel) rfl rfl (Nat.le_of_ble_eq_true rfl) (Nat.le_of_ble_eq_true rfl) ((by rw [hQ]; simp only [k_image, if_pos c1, mrow_self]))
noncomputable def k_keepsRow_0_L51_3 (Ra2 Rimage : Nat → Int32) (n1 : Nat) (n3 : Nat) : Nat → (Nat → Int32) × (Nat → Int32)
  | 0 => (Ra2, Rimage)
  | i5 + 1 => match k_keepsRow_0_L51_3 Ra2 Rimage n1 n3 i5 with | (q71, q79) => (upd q71 i5 (q79 (n1 + i5)), q79)
noncomputable def k_keepsRow_0_L51_3_ok (Ra2 Rimage : Nat → Int32) (n1 : Nat) (n3 : Nat) (i5 : Nat) : Prop := match k_keepsRow_0_L51_3 Ra2 Rimage n1 n3 i5 with | (q71, q79) => ((n1 + i5 < 2604) ∧ (i5 < 51) ∧ True)
set_option maxHeartbeats 4000000 in
set_option maxRecDepth 3000 in
theorem lp_k_keepsRow_0_L51_54_71_3 (z : Zp) (d : Nat) (M : Mem) (Q : Rs → Prop) (n1 : Nat) (n3 : Nat) (b1 : n1 < 3000) (b3 : n3 < 3000) (hk : ∀ i5, i5 < n3 → k_keepsRow_0_L51_3_ok (M.1 71) (M.1 79) n1 n3 i5) (hX : G z mX12_keepsRow (d) 0 0 49 [none, some (.int (nI n1)), none, some (.int (nI n3)), none, none] [] (mrow (mrow M 71 ((k_keepsRow_0_L51_3 (M.1 71) (M.1 79) n1 n3 n3).1)) 79 ((k_keepsRow_0_L51_3 (M.1 71) (M.1 79) n1 n3 n3).2)) Q) : G z mX12_keepsRow (d) 0 0 3 [some (.ref 54), some (.int (nI n1)), some (.ref 71), some (.int (nI n3)), some (.int (nI 0)), some (.int (nI 0))] [] M Q := by
  refine G.mem (M' := mrow (mrow M 71 (M.1 71)) 79 (M.1 79)) (by simp only [mrow_self]) ?_
  refine down (n := n3) (P := fun i5 => G z mX12_keepsRow (d) 0 0 3 [some (.ref 54), some (.int (nI n1)), some (.ref 71), some (.int (nI n3)), some (.int (nI 0)), some (.int (nI i5))] [] (mrow (mrow M 71 ((k_keepsRow_0_L51_3 (M.1 71) (M.1 79) n1 n3 i5).1)) 79 ((k_keepsRow_0_L51_3 (M.1 71) (M.1 79) n1 n3 i5).2)) Q) ?_ ?_ 0 (Nat.zero_le _)
  · skip
    refine G.sl [(.iload 5, 2, 5, 0, 0, 0), (.iload_n 3, 1, 3, 0, 0, 0)] [] (pc2 := 6) (ls2 := [some (.ref 54), some (.int (nI n1)), some (.ref 71), some (.int (nI n3)), some (.int (nI 0)), some (.int (nI n3))]) (st2 := [.int (nI n3), .int (nI n3)]) (M2 := mrow (mrow M 71 ((k_keepsRow_0_L51_3 (M.1 71) (M.1 79) n1 n3 n3).1)) 79 ((k_keepsRow_0_L51_3 (M.1 71) (M.1 79) n1 n3 n3).2)) (Ps := []) (by decide +kernel) rfl rfl trivial ?_
    refine G.ic_ge (off := (43)) (tgt := 49) (by decide +kernel) rfl (fun _ => ?_) (fun h9 => absurd (nI_le (by omega) (by omega)) h9)
    refine G.loc (ls2 := [none, some (.int (nI n1)), none, some (.int (nI n3)), none, none]) (by simp [subL]) ?_
    exact hX
  · skip
    intro i5 hi ih
    have hk := hk i5 hi
    simp only [k_keepsRow_0_L51_3_ok] at hk
    rcases g1 : k_keepsRow_0_L51_3 (M.1 71) (M.1 79) n1 n3 i5 with ⟨q71, q79⟩
    try simp only [g1] at hk
    try simp only [g1]
    show G z mX12_keepsRow (d) 0 0 3 [some (.ref 54), some (.int (nI n1)), some (.ref 71), some (.int (nI n3)), some (.int (nI 0)), some (.int (nI i5))] [] (mrow (mrow M 71 q71) 79 q79) Q
    refine G.sl [(.iload 5, 2, 5, 0, 0, 0), (.iload_n 3, 1, 3, 0, 0, 0)] [] (pc2 := 6) (ls2 := [some (.ref 54), some (.int (nI n1)), some (.ref 71), some (.int (nI n3)), some (.int (nI 0)), some (.int (nI i5))]) (st2 := [.int (nI n3), .int (nI i5)]) (M2 := mrow (mrow M 71 q71) 79 q79) (Ps := []) (by decide +kernel) rfl rfl trivial ?_
    refine G.ic_ge (off := (43)) (tgt := 49) (by decide +kernel) rfl (fun h9 => absurd h9 (nI_ge (by omega) (by omega))) (fun _ => ?_)
    refine G.sl [(.iload 4, 2, 4, 0, 0, 0)] [] (pc2 := 11) (ls2 := [some (.ref 54), some (.int (nI n1)), some (.ref 71), some (.int (nI n3)), some (.int (nI 0)), some (.int (nI i5))]) (st2 := [.int (nI 0)]) (M2 := mrow (mrow M 71 q71) 79 q79) (Ps := []) (by decide +kernel) rfl rfl trivial ?_
    refine G.if_eq (off := (19)) (tgt := 30) (by decide +kernel) rfl (fun _ => ?_) (fun h9 => absurd (by decide) h9)
    obtain ⟨k2, k3, hk⟩ := hk
    refine G.sl [(.aload_n 2, 1, 2, 0, 0, 0), (.iload 5, 2, 5, 0, 0, 0), (.aload_n 0, 1, 0, 0, 0, 0), (.getfield 89, 3, 11, 50, 173, 0), (.iload_n 1, 1, 1, 0, 0, 0), (.iload 5, 2, 5, 0, 0, 0), (.iadd, 1, 0, 0, 0, 0), (.iaload, 1, 0, 0, 0, 0), (.iastore, 1, 0, 0, 0, 0), (.iinc 5 1, 3, 5, 0, 0, nI 1), (.goto (-43), 3, 3, 0, 0, 0)] [n1 + i5, i5] (pc2 := 3) (ls2 := [some (.ref 54), some (.int (nI n1)), some (.ref 71), some (.int (nI n3)), some (.int (nI 0)), some (.int ((nI i5) + nI 1))]) (st2 := []) (M2 := mput (mrow (mrow M 71 q71) 79 q79) 71 i5 (q79 (n1 + i5))) (Ps := [((nI n1) + (nI i5)) = nI (n1 + i5) ∧ (n1 + i5) < 2604, (nI i5) = nI i5 ∧ i5 < 51]) (by decide +kernel) rfl rfl ⟨⟨(nI_add _ _), k2⟩, ⟨rfl, k3⟩, trivial⟩ ?_
    refine G.mem (M' := mrow (mrow M 71 (upd q71 i5 (q79 (n1 + i5)))) 79 q79) (by first | rfl | (simp only [mput, mrow_same, mrow_hit, mrow_miss, mrow_sw, idr_eq, ne_eq, Nat.reduceEqDiff, not_false_eq_true, Nat.reduceLT, reduceCtorEq]; done)) ?_
    rw [nI_add i5 1]
    simp only [k_keepsRow_0_L51_3, g1] at ih
    exact ih
noncomputable def k_keepsRow_0_L51 (Ra2 Rimage : Nat → Int32) (n1 : Nat) (n3 : Nat) : Int32 × (Nat → Int32) × (Nat → Int32) := (match k_keepsRow_0_L51_3 (Ra2) (Rimage) n1 n3 n3 with | (r6, r7) => ((nI n1) + (nI n3), r6, r7))
noncomputable def k_keepsRow_0_L51_ok (Ra2 Rimage : Nat → Int32) (n1 : Nat) (n3 : Nat) : Prop := ((∀ i5, i5 < n3 → k_keepsRow_0_L51_3_ok (Ra2) (Rimage) n1 n3 i5) ∧ True)
set_option maxHeartbeats 4000000 in
set_option maxRecDepth 3000 in
theorem c_k_keepsRow_0_L51_54_71 (z : Zp) (d : Nat) (M : Mem) (n1 : Nat) (n3 : Nat) (b1 : n1 < 3000) (b3 : n3 < 3000) (hk : k_keepsRow_0_L51_ok (M.1 71) (M.1 79) n1 n3) : GM z mX12_keepsRow (d) [.ref 54, .int (nI n1), .ref 71, .int (nI n3), .int (nI 0)] M (fun rs => rs = .inl (some (.int ((k_keepsRow_0_L51 (M.1 71) (M.1 79) n1 n3).1)), mrow (mrow M 71 ((k_keepsRow_0_L51 (M.1 71) (M.1 79) n1 n3).2.1)) 79 ((k_keepsRow_0_L51 (M.1 71) (M.1 79) n1 n3).2.2))) := by
  simp only [k_keepsRow_0_L51_ok] at hk
  refine GM.of oX12_keepsRow.1 (Nat.le_of_ble_eq_true rfl) ?_
  show G z mX12_keepsRow (d) 0 0 0 [some (.ref 54), some (.int (nI n1)), some (.ref 71), some (.int (nI n3)), some (.int (nI 0)), none] [] M _
  obtain ⟨Q, hQ⟩ : ∃ Q : Rs → Prop, Q = (fun rs => rs = .inl (some (.int ((k_keepsRow_0_L51 (M.1 71) (M.1 79) n1 n3).1)), mrow (mrow M 71 ((k_keepsRow_0_L51 (M.1 71) (M.1 79) n1 n3).2.1)) 79 ((k_keepsRow_0_L51 (M.1 71) (M.1 79) n1 n3).2.2))) := ⟨_, rfl⟩
  rw [← hQ]
  refine G.sl [(.iconst 0, 1, 0, 0, 0, nI 0), (.istore 5, 2, 5, 0, 0, 0)] [] (pc2 := 3) (ls2 := [some (.ref 54), some (.int (nI n1)), some (.ref 71), some (.int (nI n3)), some (.int (nI 0)), some (.int (nI 0))]) (st2 := []) (M2 := M) (Ps := []) (by decide +kernel) rfl rfl trivial ?_
  obtain ⟨k4, hk⟩ := hk
  refine lp_k_keepsRow_0_L51_54_71_3 z d M Q n1 n3 (by omega) (by omega) (by first | (simp only [mput, mrow_same, mrow_hit, mrow_miss, mrow_sw, idr_eq, ne_eq, Nat.reduceEqDiff, not_false_eq_true, Nat.reduceLT, reduceCtorEq]; exact k4) | exact k4) ?_
  try simp only [mput, mrow_same, mrow_hit, mrow_miss, mrow_sw, idr_eq, ne_eq, Nat.reduceEqDiff, not_false_eq_true, Nat.reduceLT, reduceCtorEq]
  rcases g5 : k_keepsRow_0_L51_3 (M.1 71) (M.1 79) n1 n3 n3 with ⟨r6, r7⟩
  show G z mX12_keepsRow (d) 0 0 49 [none, some (.int (nI n1)), none, some (.int (nI n3)), none, none] [] (mrow (mrow M 71 r6) 79 r7) Q
  refine G.sl [(.iload_n 1, 1, 1, 0, 0, 0), (.iload_n 3, 1, 3, 0, 0, 0), (.iadd, 1, 0, 0, 0, 0)] [] (pc2 := 52) (ls2 := [none, some (.int (nI n1)), none, some (.int (nI n3)), none, none]) (st2 := [.int ((nI n1) + (nI n3))]) (M2 := mrow (mrow M 71 r6) 79 r7) (Ps := []) (by decide +kernel) rfl rfl trivial ?_
  exact G.reti (by decide +kernel) rfl rfl (Nat.le_of_ble_eq_true rfl) (Nat.le_of_ble_eq_true rfl) ((by rw [hQ]; simp only [k_keepsRow_0_L51, g5, mrow_self]))
noncomputable def k_keepsRow_0_L816_3 (Ra2 Rimage : Nat → Int32) (n1 : Nat) (n3 : Nat) : Nat → (Nat → Int32) × (Nat → Int32)
  | 0 => (Ra2, Rimage)
  | i5 + 1 => match k_keepsRow_0_L816_3 Ra2 Rimage n1 n3 i5 with | (q73, q79) => (upd q73 i5 (q79 (n1 + i5)), q79)
noncomputable def k_keepsRow_0_L816_3_ok (Ra2 Rimage : Nat → Int32) (n1 : Nat) (n3 : Nat) (i5 : Nat) : Prop := match k_keepsRow_0_L816_3 Ra2 Rimage n1 n3 i5 with | (q73, q79) => ((n1 + i5 < 2604) ∧ (i5 < 816) ∧ True)
set_option maxHeartbeats 4000000 in
set_option maxRecDepth 3000 in
theorem lp_k_keepsRow_0_L816_54_73_3 (z : Zp) (d : Nat) (M : Mem) (Q : Rs → Prop) (n1 : Nat) (n3 : Nat) (b1 : n1 < 3000) (b3 : n3 < 3000) (hk : ∀ i5, i5 < n3 → k_keepsRow_0_L816_3_ok (M.1 73) (M.1 79) n1 n3 i5) (hX : G z mX12_keepsRow (d) 0 0 49 [none, some (.int (nI n1)), none, some (.int (nI n3)), none, none] [] (mrow (mrow M 73 ((k_keepsRow_0_L816_3 (M.1 73) (M.1 79) n1 n3 n3).1)) 79 ((k_keepsRow_0_L816_3 (M.1 73) (M.1 79) n1 n3 n3).2)) Q) : G z mX12_keepsRow (d) 0 0 3 [some (.ref 54), some (.int (nI n1)), some (.ref 73), some (.int (nI n3)), some (.int (nI 0)), some (.int (nI 0))] [] M Q := by
  refine G.mem (M' := mrow (mrow M 73 (M.1 73)) 79 (M.1 79)) (by simp only [mrow_self]) ?_
  refine down (n := n3) (P := fun i5 => G z mX12_keepsRow (d) 0 0 3 [some (.ref 54), some (.int (nI n1)), some (.ref 73), some (.int (nI n3)), some (.int (nI 0)), some (.int (nI i5))] [] (mrow (mrow M 73 ((k_keepsRow_0_L816_3 (M.1 73) (M.1 79) n1 n3 i5).1)) 79 ((k_keepsRow_0_L816_3 (M.1 73) (M.1 79) n1 n3 i5).2)) Q) ?_ ?_ 0 (Nat.zero_le _)
  · skip
    refine G.sl [(.iload 5, 2, 5, 0, 0, 0), (.iload_n 3, 1, 3, 0, 0, 0)] [] (pc2 := 6) (ls2 := [some (.ref 54), some (.int (nI n1)), some (.ref 73), some (.int (nI n3)), some (.int (nI 0)), some (.int (nI n3))]) (st2 := [.int (nI n3), .int (nI n3)]) (M2 := mrow (mrow M 73 ((k_keepsRow_0_L816_3 (M.1 73) (M.1 79) n1 n3 n3).1)) 79 ((k_keepsRow_0_L816_3 (M.1 73) (M.1 79) n1 n3 n3).2)) (Ps := []) (by decide +kernel) rfl rfl trivial ?_
    refine G.ic_ge (off := (43)) (tgt := 49) (by decide +kernel) rfl (fun _ => ?_) (fun h9 => absurd (nI_le (by omega) (by omega)) h9)
    refine G.loc (ls2 := [none, some (.int (nI n1)), none, some (.int (nI n3)), none, none]) (by simp [subL]) ?_
    exact hX
  · skip
    intro i5 hi ih
    have hk := hk i5 hi
    simp only [k_keepsRow_0_L816_3_ok] at hk
    rcases g1 : k_keepsRow_0_L816_3 (M.1 73) (M.1 79) n1 n3 i5 with ⟨q73, q79⟩
    try simp only [g1] at hk
    try simp only [g1]
    show G z mX12_keepsRow (d) 0 0 3 [some (.ref 54), some (.int (nI n1)), some (.ref 73), some (.int (nI n3)), some (.int (nI 0)), some (.int (nI i5))] [] (mrow (mrow M 73 q73) 79 q79) Q
    refine G.sl [(.iload 5, 2, 5, 0, 0, 0), (.iload_n 3, 1, 3, 0, 0, 0)] [] (pc2 := 6) (ls2 := [some (.ref 54), some (.int (nI n1)), some (.ref 73), some (.int (nI n3)), some (.int (nI 0)), some (.int (nI i5))]) (st2 := [.int (nI n3), .int (nI i5)]) (M2 := mrow (mrow M 73 q73) 79 q79) (Ps := []) (by decide +kernel) rfl rfl trivial ?_
    refine G.ic_ge (off := (43)) (tgt := 49) (by decide +kernel) rfl (fun h9 => absurd h9 (nI_ge (by omega) (by omega))) (fun _ => ?_)
    refine G.sl [(.iload 4, 2, 4, 0, 0, 0)] [] (pc2 := 11) (ls2 := [some (.ref 54), some (.int (nI n1)), some (.ref 73), some (.int (nI n3)), some (.int (nI 0)), some (.int (nI i5))]) (st2 := [.int (nI 0)]) (M2 := mrow (mrow M 73 q73) 79 q79) (Ps := []) (by decide +kernel) rfl rfl trivial ?_
    refine G.if_eq (off := (19)) (tgt := 30) (by decide +kernel) rfl (fun _ => ?_) (fun h9 => absurd (by decide) h9)
    obtain ⟨k2, k3, hk⟩ := hk
    refine G.sl [(.aload_n 2, 1, 2, 0, 0, 0), (.iload 5, 2, 5, 0, 0, 0), (.aload_n 0, 1, 0, 0, 0, 0), (.getfield 89, 3, 11, 50, 173, 0), (.iload_n 1, 1, 1, 0, 0, 0), (.iload 5, 2, 5, 0, 0, 0), (.iadd, 1, 0, 0, 0, 0), (.iaload, 1, 0, 0, 0, 0), (.iastore, 1, 0, 0, 0, 0), (.iinc 5 1, 3, 5, 0, 0, nI 1), (.goto (-43), 3, 3, 0, 0, 0)] [n1 + i5, i5] (pc2 := 3) (ls2 := [some (.ref 54), some (.int (nI n1)), some (.ref 73), some (.int (nI n3)), some (.int (nI 0)), some (.int ((nI i5) + nI 1))]) (st2 := []) (M2 := mput (mrow (mrow M 73 q73) 79 q79) 73 i5 (q79 (n1 + i5))) (Ps := [((nI n1) + (nI i5)) = nI (n1 + i5) ∧ (n1 + i5) < 2604, (nI i5) = nI i5 ∧ i5 < 816]) (by decide +kernel) rfl rfl ⟨⟨(nI_add _ _), k2⟩, ⟨rfl, k3⟩, trivial⟩ ?_
    refine G.mem (M' := mrow (mrow M 73 (upd q73 i5 (q79 (n1 + i5)))) 79 q79) (by first | rfl | (simp only [mput, mrow_same, mrow_hit, mrow_miss, mrow_sw, idr_eq, ne_eq, Nat.reduceEqDiff, not_false_eq_true, Nat.reduceLT, reduceCtorEq]; done)) ?_
    rw [nI_add i5 1]
    simp only [k_keepsRow_0_L816_3, g1] at ih
    exact ih
noncomputable def k_keepsRow_0_L816 (Ra2 Rimage : Nat → Int32) (n1 : Nat) (n3 : Nat) : Int32 × (Nat → Int32) × (Nat → Int32) := (match k_keepsRow_0_L816_3 (Ra2) (Rimage) n1 n3 n3 with | (r6, r7) => ((nI n1) + (nI n3), r6, r7))
noncomputable def k_keepsRow_0_L816_ok (Ra2 Rimage : Nat → Int32) (n1 : Nat) (n3 : Nat) : Prop := ((∀ i5, i5 < n3 → k_keepsRow_0_L816_3_ok (Ra2) (Rimage) n1 n3 i5) ∧ True)
set_option maxHeartbeats 4000000 in
set_option maxRecDepth 3000 in
theorem c_k_keepsRow_0_L816_54_73 (z : Zp) (d : Nat) (M : Mem) (n1 : Nat) (n3 : Nat) (b1 : n1 < 3000) (b3 : n3 < 3000) (hk : k_keepsRow_0_L816_ok (M.1 73) (M.1 79) n1 n3) : GM z mX12_keepsRow (d) [.ref 54, .int (nI n1), .ref 73, .int (nI n3), .int (nI 0)] M (fun rs => rs = .inl (some (.int ((k_keepsRow_0_L816 (M.1 73) (M.1 79) n1 n3).1)), mrow (mrow M 73 ((k_keepsRow_0_L816 (M.1 73) (M.1 79) n1 n3).2.1)) 79 ((k_keepsRow_0_L816 (M.1 73) (M.1 79) n1 n3).2.2))) := by
  simp only [k_keepsRow_0_L816_ok] at hk
  refine GM.of oX12_keepsRow.1 (Nat.le_of_ble_eq_true rfl) ?_
  show G z mX12_keepsRow (d) 0 0 0 [some (.ref 54), some (.int (nI n1)), some (.ref 73), some (.int (nI n3)), some (.int (nI 0)), none] [] M _
  obtain ⟨Q, hQ⟩ : ∃ Q : Rs → Prop, Q = (fun rs => rs = .inl (some (.int ((k_keepsRow_0_L816 (M.1 73) (M.1 79) n1 n3).1)), mrow (mrow M 73 ((k_keepsRow_0_L816 (M.1 73) (M.1 79) n1 n3).2.1)) 79 ((k_keepsRow_0_L816 (M.1 73) (M.1 79) n1 n3).2.2))) := ⟨_, rfl⟩
  rw [← hQ]
  refine G.sl [(.iconst 0, 1, 0, 0, 0, nI 0), (.istore 5, 2, 5, 0, 0, 0)] [] (pc2 := 3) (ls2 := [some (.ref 54), some (.int (nI n1)), some (.ref 73), some (.int (nI n3)), some (.int (nI 0)), some (.int (nI 0))]) (st2 := []) (M2 := M) (Ps := []) (by decide +kernel) rfl rfl trivial ?_
  obtain ⟨k4, hk⟩ := hk
  refine lp_k_keepsRow_0_L816_54_73_3 z d M Q n1 n3 (by omega) (by omega) (by first | (simp only [mput, mrow_same, mrow_hit, mrow_miss, mrow_sw, idr_eq, ne_eq, Nat.reduceEqDiff, not_false_eq_true, Nat.reduceLT, reduceCtorEq]; exact k4) | exact k4) ?_
  try simp only [mput, mrow_same, mrow_hit, mrow_miss, mrow_sw, idr_eq, ne_eq, Nat.reduceEqDiff, not_false_eq_true, Nat.reduceLT, reduceCtorEq]
  rcases g5 : k_keepsRow_0_L816_3 (M.1 73) (M.1 79) n1 n3 n3 with ⟨r6, r7⟩
  show G z mX12_keepsRow (d) 0 0 49 [none, some (.int (nI n1)), none, some (.int (nI n3)), none, none] [] (mrow (mrow M 73 r6) 79 r7) Q
  refine G.sl [(.iload_n 1, 1, 1, 0, 0, 0), (.iload_n 3, 1, 3, 0, 0, 0), (.iadd, 1, 0, 0, 0, 0)] [] (pc2 := 52) (ls2 := [none, some (.int (nI n1)), none, some (.int (nI n3)), none, none]) (st2 := [.int ((nI n1) + (nI n3))]) (M2 := mrow (mrow M 73 r6) 79 r7) (Ps := []) (by decide +kernel) rfl rfl trivial ?_
  exact G.reti (by decide +kernel) rfl rfl (Nat.le_of_ble_eq_true rfl) (Nat.le_of_ble_eq_true rfl) ((by rw [hQ]; simp only [k_keepsRow_0_L816, g5, mrow_self]))
noncomputable def k_keepsAll_0 (Rmd Rnow Rpast Rimage : Nat → Int32) (n1 : Nat) : Int32 × (Nat → Int32) × (Nat → Int32) × (Nat → Int32) × (Nat → Int32) := (match k_keepsRow_0_L51 (Rnow) (Rimage) (868 * n1) 51 with | (v3, r4, r5) => (match k_keepsRow_0_L816 (Rpast) r5 (ix v3) 816 with | (v12, r13, r14) => (0, upd (Rmd) 35 (r14 (ix v12)), r4, r13, r14)))
noncomputable def k_keepsAll_0_ok (Rmd Rnow Rpast Rimage : Nat → Int32) (n1 : Nat) : Prop := (k_keepsRow_0_L51_ok (Rnow) (Rimage) (868 * n1) 51 ∧ (match k_keepsRow_0_L51 (Rnow) (Rimage) (868 * n1) 51 with | (v3, r4, r5) => ((isN v3) ∧ (ix v3 < 3000) ∧ (k_keepsRow_0_L816_ok (Rpast) r5 (ix v3) 816 ∧ (match k_keepsRow_0_L816 (Rpast) r5 (ix v3) 816 with | (v12, r13, r14) => ((isN v12) ∧ (ix v12 < 2604) ∧ True))))))
set_option maxHeartbeats 4000000 in
set_option maxRecDepth 3000 in
theorem c_k_keepsAll_0_54 (z : Zp) (d : Nat) (M : Mem) (n1 : Nat) (b1 : n1 < 3) (hk : k_keepsAll_0_ok (M.1 54) (M.1 71) (M.1 73) (M.1 79) n1) : GM z mX12_keepsAll (d + 1) [.ref 54, .int (nI n1), .int (nI 0)] M (fun rs => rs = .inl (none, mrow (mrow (mrow (mrow M 54 ((k_keepsAll_0 (M.1 54) (M.1 71) (M.1 73) (M.1 79) n1).2.1)) 71 ((k_keepsAll_0 (M.1 54) (M.1 71) (M.1 73) (M.1 79) n1).2.2.1)) 73 ((k_keepsAll_0 (M.1 54) (M.1 71) (M.1 73) (M.1 79) n1).2.2.2.1)) 79 ((k_keepsAll_0 (M.1 54) (M.1 71) (M.1 73) (M.1 79) n1).2.2.2.2))) := by
  simp only [k_keepsAll_0_ok] at hk
  refine GM.of oX12_keepsAll.1 (Nat.le_of_ble_eq_true rfl) ?_
  show G z mX12_keepsAll (d + 1) 0 0 0 [some (.ref 54), some (.int (nI n1)), some (.int (nI 0)), none] [] M _
  obtain ⟨Q, hQ⟩ : ∃ Q : Rs → Prop, Q = (fun rs => rs = .inl (none, mrow (mrow (mrow (mrow M 54 ((k_keepsAll_0 (M.1 54) (M.1 71) (M.1 73) (M.1 79) n1).2.1)) 71 ((k_keepsAll_0 (M.1 54) (M.1 71) (M.1 73) (M.1 79) n1).2.2.1)) 73 ((k_keepsAll_0 (M.1 54) (M.1 71) (M.1 73) (M.1 79) n1).2.2.2.1)) 79 ((k_keepsAll_0 (M.1 54) (M.1 71) (M.1 73) (M.1 79) n1).2.2.2.2))) := ⟨_, rfl⟩
  rw [← hQ]
  refine G.sl [(.aload_n 0, 1, 0, 0, 0, 0), (.sipush 868, 3, 0, 0, 0, nI 868), (.iload_n 1, 1, 1, 0, 0, 0), (.imul, 1, 0, 0, 0, 0), (.aload_n 0, 1, 0, 0, 0, 0), (.getfield 65, 3, 11, 40, 163, 0), (.bipush 51, 2, 0, 0, 0, nI 51), (.iload_n 2, 1, 2, 0, 0, 0)] [] (pc2 := 13) (ls2 := [some (.ref 54), some (.int (nI n1)), some (.int (nI 0)), none]) (st2 := [.int (nI 0), .int (nI 51), .ref 71, .int ((nI 868) * (nI n1)), .ref 54]) (M2 := M) (Ps := []) (by decide +kernel) rfl rfl trivial ?_
  obtain ⟨k1, hk⟩ := hk
  refine G.eq (st' := [.int (nI 0), .int (nI 51), .ref 71, .int (nI (868 * n1)), .ref 54]) ?_ rfl (by rw [← (show (nI 868) * (nI n1) = nI (868 * n1) from (pk_mul _ _))]) rfl
  rcases g2 : k_keepsRow_0_L51 (M.1 71) (M.1 79) (868 * n1) 51 with ⟨v3, r4, r5⟩
  try simp only [g2] at hk
  have t6 : GM z mX12_keepsRow (d) [.ref 54, .int (nI (868 * n1)), .ref 71, .int (nI 51), .int (nI 0)] M (fun rs => rs = .inl (some (.int v3), mrow (mrow M 71 r4) 79 r5)) := by
    have q9 := c_k_keepsRow_0_L51_54_71 z d M (868 * n1) 51 (by omega) (by omega) k1
    try simp only [mput, mrow_same, mrow_hit, mrow_miss, mrow_sw, idr_eq, ne_eq, Nat.reduceEqDiff, not_false_eq_true, Nat.reduceLT, reduceCtorEq, g2] at q9
    exact q9
  refine G.callV (as := [.int (nI (868 * n1)), .ref 71, .int (nI 51), .int (nI 0)]) (rest := []) (a := 54) oX12_keepsRow lk_EvenFindersModel_448 (by decide +kernel) rfl rfl ⟨rfl, rfl⟩ (Nat.le_of_ble_eq_true rfl) rfl ⟨Nat.le_of_ble_eq_true rfl, Nat.le_of_ble_eq_true rfl⟩ t6 (fun v9 N9 h7 => ?_) (fun E9 N9 h7 => by cases h7)
  cases h7
  show G z mX12_keepsAll (d + 1) 0 0 16 [some (.ref 54), some (.int (nI n1)), some (.int (nI 0)), none] [.int v3] (mrow (mrow M 71 r4) 79 r5) Q
  refine G.sl [(.istore_n 3, 1, 3, 0, 0, 0), (.aload_n 0, 1, 0, 0, 0, 0), (.iload_n 3, 1, 3, 0, 0, 0), (.aload_n 0, 1, 0, 0, 0, 0), (.getfield 71, 3, 11, 42, 165, 0), (.sipush 816, 3, 0, 0, 0, nI 816), (.iload_n 2, 1, 2, 0, 0, 0)] [] (pc2 := 27) (ls2 := [some (.ref 54), some (.int (nI n1)), some (.int (nI 0)), some (.int v3)]) (st2 := [.int (nI 0), .int (nI 816), .ref 73, .int v3, .ref 54]) (M2 := mrow (mrow M 71 r4) 79 r5) (Ps := []) (by decide +kernel) rfl rfl trivial ?_
  obtain ⟨k8, k9, hk⟩ := hk
  obtain ⟨k10, hk⟩ := hk
  refine G.eq (st' := [.int (nI 0), .int (nI 816), .ref 73, .int (nI (ix v3)), .ref 54]) ?_ rfl (by rw [← (show v3 = nI (ix v3) from (ixE k8))]) rfl
  rcases g11 : k_keepsRow_0_L816 (M.1 73) r5 (ix v3) 816 with ⟨v12, r13, r14⟩
  try simp only [g11] at hk
  have t15 : GM z mX12_keepsRow (d) [.ref 54, .int (nI (ix v3)), .ref 73, .int (nI 816), .int (nI 0)] (mrow (mrow M 71 r4) 79 r5) (fun rs => rs = .inl (some (.int v12), mrow (mrow (mrow M 71 r4) 73 r13) 79 r14)) := by
    have q9 := c_k_keepsRow_0_L816_54_73 z d (mrow (mrow M 71 r4) 79 r5) (ix v3) 816 k9 (by omega) k10
    try simp only [mput, mrow_same, mrow_hit, mrow_miss, mrow_sw, idr_eq, ne_eq, Nat.reduceEqDiff, not_false_eq_true, Nat.reduceLT, reduceCtorEq, g11] at q9
    exact q9
  refine G.callV (as := [.int (nI (ix v3)), .ref 73, .int (nI 816), .int (nI 0)]) (rest := []) (a := 54) oX12_keepsRow lk_EvenFindersModel_448 (by decide +kernel) rfl rfl ⟨rfl, rfl⟩ (Nat.le_of_ble_eq_true rfl) rfl ⟨Nat.le_of_ble_eq_true rfl, Nat.le_of_ble_eq_true rfl⟩ t15 (fun v9 N9 h16 => ?_) (fun E9 N9 h16 => by cases h16)
  cases h16
  show G z mX12_keepsAll (d + 1) 0 0 30 [some (.ref 54), some (.int (nI n1)), some (.int (nI 0)), some (.int v3)] [.int v12] (mrow (mrow (mrow M 71 r4) 73 r13) 79 r14) Q
  refine G.sl [(.istore_n 3, 1, 3, 0, 0, 0), (.iload_n 2, 1, 2, 0, 0, 0)] [] (pc2 := 32) (ls2 := [some (.ref 54), some (.int (nI n1)), some (.int (nI 0)), some (.int v12)]) (st2 := [.int (nI 0)]) (M2 := mrow (mrow (mrow M 71 r4) 73 r13) 79 r14) (Ps := []) (by decide +kernel) rfl rfl trivial ?_
  refine G.if_eq (off := (16)) (tgt := 48) (by decide +kernel) rfl (fun _ => ?_) (fun h9 => absurd (by decide) h9)
  obtain ⟨k17, k18, hk⟩ := hk
  refine G.sl [(.aload_n 0, 1, 0, 0, 0, 0), (.aload_n 0, 1, 0, 0, 0, 0), (.getfield 89, 3, 11, 50, 173, 0), (.iload_n 3, 1, 3, 0, 0, 0), (.iaload, 1, 0, 0, 0, 0), (.putfield 178, 3, 11, 35, 158, 0)] [ix v12] (pc2 := 58) (ls2 := [some (.ref 54), some (.int (nI n1)), some (.int (nI 0)), some (.int v12)]) (st2 := []) (M2 := mput (mrow (mrow (mrow M 71 r4) 73 r13) 79 r14) 54 35 (r14 (ix v12))) (Ps := [v12 = nI (ix v12) ∧ (ix v12) < 2604]) (by decide +kernel) rfl rfl ⟨⟨(ixE k17), k18⟩, trivial⟩ ?_
  refine G.mem (M' := mrow (mrow (mrow (mrow M 54 (upd (M.1 54) 35 (r14 (ix v12)))) 71 r4) 73 r13) 79 r14) (by first | rfl | (simp only [mput, mrow_same, mrow_hit, mrow_miss, mrow_sw, idr_eq, ne_eq, Nat.reduceEqDiff, not_false_eq_true, Nat.reduceLT, reduceCtorEq]; done)) ?_
  exact G.retv (by decide +kernel) rfl (Nat.le_of_ble_eq_true rfl) (Nat.le_of_ble_eq_true rfl) ((by rw [hQ]; simp only [k_keepsAll_0, g2, g11, mrow_self]))
noncomputable def k_restore (Rmd Rnow Rpast Rimage : Nat → Int32) : Int32 × (Nat → Int32) × (Nat → Int32) × (Nat → Int32) × (Nat → Int32) := (if (Rmd 51) = 0 then ((-1), upd (Rmd) 0 (nI 0), Rnow, Rpast, Rimage) else (match k_keepsAll_0 (upd (upd (Rmd) 0 (nI 0)) 51 ((Rmd 51) - (nI 1))) (Rnow) (Rpast) (Rimage) (ix ((Rmd 51) - (nI 1))) with | (u6, r7, r8, r9, r10) => (r7 51, upd r7 36 (nI 0), r8, r9, r10)))
noncomputable def k_restore_ok (Rmd Rnow Rpast Rimage : Nat → Int32) : Prop := (if (Rmd 51) = 0 then True else ((isN ((Rmd 51) - (nI 1))) ∧ (ix ((Rmd 51) - (nI 1)) < 3) ∧ (k_keepsAll_0_ok (upd (upd (Rmd) 0 (nI 0)) 51 ((Rmd 51) - (nI 1))) (Rnow) (Rpast) (Rimage) (ix ((Rmd 51) - (nI 1))) ∧ True)))
set_option maxHeartbeats 4000000 in
set_option maxRecDepth 3000 in
theorem c_k_restore_54 (z : Zp) (d : Nat) (M : Mem) (hk : k_restore_ok (M.1 54) (M.1 71) (M.1 73) (M.1 79)) : GM z mX12_restore (d + 2) [.ref 54] M (fun rs => rs = .inl (some (.int ((k_restore (M.1 54) (M.1 71) (M.1 73) (M.1 79)).1)), mrow (mrow (mrow (mrow M 54 ((k_restore (M.1 54) (M.1 71) (M.1 73) (M.1 79)).2.1)) 71 ((k_restore (M.1 54) (M.1 71) (M.1 73) (M.1 79)).2.2.1)) 73 ((k_restore (M.1 54) (M.1 71) (M.1 73) (M.1 79)).2.2.2.1)) 79 ((k_restore (M.1 54) (M.1 71) (M.1 73) (M.1 79)).2.2.2.2))) := by
  simp only [k_restore_ok] at hk
  refine GM.of oX12_restore.1 (Nat.le_of_ble_eq_true rfl) ?_
  show G z mX12_restore (d + 2) 0 0 0 [some (.ref 54)] [] M _
  obtain ⟨Q, hQ⟩ : ∃ Q : Rs → Prop, Q = (fun rs => rs = .inl (some (.int ((k_restore (M.1 54) (M.1 71) (M.1 73) (M.1 79)).1)), mrow (mrow (mrow (mrow M 54 ((k_restore (M.1 54) (M.1 71) (M.1 73) (M.1 79)).2.1)) 71 ((k_restore (M.1 54) (M.1 71) (M.1 73) (M.1 79)).2.2.1)) 73 ((k_restore (M.1 54) (M.1 71) (M.1 73) (M.1 79)).2.2.2.1)) 79 ((k_restore (M.1 54) (M.1 71) (M.1 73) (M.1 79)).2.2.2.2))) := ⟨_, rfl⟩
  rw [← hQ]
  refine G.sl [(.aload_n 0, 1, 0, 0, 0, 0), (.iconst 0, 1, 0, 0, 0, nI 0), (.putfield 3, 3, 11, 0, 123, 0), (.aload_n 0, 1, 0, 0, 0, 0), (.getfield 181, 3, 11, 51, 174, 0)] [] (pc2 := 9) (ls2 := [some (.ref 54)]) (st2 := [.int (M.1 54 51)]) (M2 := mput M 54 0 (nI 0)) (Ps := []) (by decide +kernel) rfl rfl trivial ?_
  refine G.mem (M' := mrow M 54 (upd (M.1 54) 0 (nI 0))) (by first | rfl | (simp only [mput, mrow_same, mrow_hit, mrow_miss, mrow_sw, idr_eq, ne_eq, Nat.reduceEqDiff, not_false_eq_true, Nat.reduceLT, reduceCtorEq]; done)) ?_
  refine G.if_ne (off := (5)) (tgt := 14) (by decide +kernel) rfl (fun c1 => ?_) (fun c1 => ?_)
  · skip
    rw [if_neg c1] at hk
    refine G.sl [(.aload_n 0, 1, 0, 0, 0, 0), (.dup, 1, 0, 0, 0, 0), (.getfield 181, 3, 11, 51, 174, 0), (.iconst 1, 1, 0, 0, 0, nI 1), (.isub, 1, 0, 0, 0, 0), (.putfield 181, 3, 11, 51, 174, 0), (.aload_n 0, 1, 0, 0, 0, 0), (.aload_n 0, 1, 0, 0, 0, 0), (.getfield 181, 3, 11, 51, 174, 0), (.iconst 0, 1, 0, 0, 0, nI 0)] [] (pc2 := 30) (ls2 := [some (.ref 54)]) (st2 := [.int (nI 0), .int ((M.1 54 51) - (nI 1)), .ref 54]) (M2 := mput (mrow M 54 (upd (M.1 54) 0 (nI 0))) 54 51 ((M.1 54 51) - (nI 1))) (Ps := []) (by decide +kernel) rfl rfl trivial ?_
    refine G.mem (M' := mrow M 54 (upd (upd (M.1 54) 0 (nI 0)) 51 ((M.1 54 51) - (nI 1)))) (by first | rfl | (simp only [mput, mrow_same, mrow_hit, mrow_miss, mrow_sw, idr_eq, ne_eq, Nat.reduceEqDiff, not_false_eq_true, Nat.reduceLT, reduceCtorEq]; done)) ?_
    obtain ⟨k2, k3, hk⟩ := hk
    obtain ⟨k4, hk⟩ := hk
    refine G.eq (st' := [.int (nI 0), .int (nI (ix ((M.1 54 51) - (nI 1)))), .ref 54]) ?_ rfl (by rw [← (show (M.1 54 51) - (nI 1) = nI (ix ((M.1 54 51) - (nI 1))) from (ixE k2))]) rfl
    rcases g5 : k_keepsAll_0 (upd (upd (M.1 54) 0 (nI 0)) 51 ((M.1 54 51) - (nI 1))) (M.1 71) (M.1 73) (M.1 79) (ix ((M.1 54 51) - (nI 1))) with ⟨u6, r7, r8, r9, r10⟩
    have t11 : GM z mX12_keepsAll (d + 1) [.ref 54, .int (nI (ix ((M.1 54 51) - (nI 1)))), .int (nI 0)] (mrow M 54 (upd (upd (M.1 54) 0 (nI 0)) 51 ((M.1 54 51) - (nI 1)))) (fun rs => rs = .inl (none, mrow (mrow (mrow (mrow M 54 r7) 71 r8) 73 r9) 79 r10)) := by
      have q9 := c_k_keepsAll_0_54 z d (mrow M 54 (upd (upd (M.1 54) 0 (nI 0)) 51 ((M.1 54 51) - (nI 1)))) (ix ((M.1 54 51) - (nI 1))) k3 k4
      try simp only [mput, mrow_same, mrow_hit, mrow_miss, mrow_sw, idr_eq, ne_eq, Nat.reduceEqDiff, not_false_eq_true, Nat.reduceLT, reduceCtorEq, g5] at q9
      exact q9
    refine G.callV (as := [.int (nI (ix ((M.1 54 51) - (nI 1)))), .int (nI 0)]) (rest := []) (a := 54) oX12_keepsAll lk_EvenFindersModel_452 (by decide +kernel) rfl rfl ⟨rfl, rfl⟩ (Nat.le_of_ble_eq_true rfl) rfl ⟨Nat.le_of_ble_eq_true rfl, Nat.le_of_ble_eq_true rfl⟩ t11 (fun v9 N9 h12 => ?_) (fun E9 N9 h12 => by cases h12)
    cases h12
    show G z mX12_restore (d + 2) 0 0 33 [some (.ref 54)] [] (mrow (mrow (mrow (mrow M 54 r7) 71 r8) 73 r9) 79 r10) Q
    refine G.sl [(.aload_n 0, 1, 0, 0, 0, 0), (.iconst 0, 1, 0, 0, 0, nI 0), (.putfield 184, 3, 11, 36, 159, 0), (.aload_n 0, 1, 0, 0, 0, 0), (.getfield 181, 3, 11, 51, 174, 0)] [] (pc2 := 42) (ls2 := [some (.ref 54)]) (st2 := [.int (r7 51)]) (M2 := mput (mrow (mrow (mrow (mrow M 54 r7) 71 r8) 73 r9) 79 r10) 54 36 (nI 0)) (Ps := []) (by decide +kernel) rfl rfl trivial ?_
    refine G.mem (M' := mrow (mrow (mrow (mrow M 54 (upd r7 36 (nI 0))) 71 r8) 73 r9) 79 r10) (by first | rfl | (simp only [mput, mrow_same, mrow_hit, mrow_miss, mrow_sw, idr_eq, ne_eq, Nat.reduceEqDiff, not_false_eq_true, Nat.reduceLT, reduceCtorEq]; done)) ?_
    exact G.reti (by decide +kernel) rfl rfl (Nat.le_of_ble_eq_true rfl) (Nat.le_of_ble_eq_true rfl) ((by rw [hQ]; simp only [k_restore, if_neg c1, g5, mrow_self]))
  · skip
    rw [if_pos c1] at hk
    refine G.sl [(.iconst (-1), 1, 0, 0, 0, (-1))] [] (pc2 := 13) (ls2 := [some (.ref 54)]) (st2 := [.int ((-1))]) (M2 := mrow M 54 (upd (M.1 54) 0 (nI 0))) (Ps := []) (by decide +kernel) rfl rfl trivial ?_
    refine G.mem (M' := mrow (mrow (mrow (mrow M 54 (upd (M.1 54) 0 (nI 0))) 71 (M.1 71)) 73 (M.1 73)) 79 (M.1 79)) (((((mrow_id (N := mrow M 54 (upd (M.1 54) 0 (nI 0))) (c := 71) (f := M.1 71) (by first | rfl | (simp only [mput, mrow_same, mrow_hit, mrow_miss, mrow_sw, idr_eq, ne_eq, Nat.reduceEqDiff, not_false_eq_true, Nat.reduceLT, reduceCtorEq]; done))).symm).trans (mrow_id (N := mrow (mrow M 54 (upd (M.1 54) 0 (nI 0))) 71 (M.1 71)) (c := 73) (f := M.1 73) (by first | rfl | (simp only [mput, mrow_same, mrow_hit, mrow_miss, mrow_sw, idr_eq, ne_eq, Nat.reduceEqDiff, not_false_eq_true, Nat.reduceLT, reduceCtorEq]; done))).symm).trans (mrow_id (N := mrow (mrow (mrow M 54 (upd (M.1 54) 0 (nI 0))) 71 (M.1 71)) 73 (M.1 73)) (c := 79) (f := M.1 79) (by first | rfl | (simp only [mput, mrow_same, mrow_hit, mrow_miss, mrow_sw, idr_eq, ne_eq, Nat.reduceEqDiff, not_false_eq_true, Nat.reduceLT, reduceCtorEq]; done))).symm).trans (by first | rfl | (simp only [mput, mrow_same, mrow_hit, mrow_miss, mrow_sw, idr_eq, ne_eq, Nat.reduceEqDiff, not_false_eq_true, Nat.reduceLT, reduceCtorEq]; done))) ?_
    exact G.reti (by decide +kernel) rfl rfl (Nat.le_of_ble_eq_true rfl) (Nat.le_of_ble_eq_true rfl) ((by rw [hQ]; simp only [k_restore, if_pos c1, mrow_self]))
noncomputable def k_status (Rmd Rrefused : Nat → Int32) (x1 : Int32) : Int32 × (Nat → Int32) := (if (k_within x1 (nI 0) (nI 1)) = 0 then ((-1), upd (Rmd) 0 (nI 0)) else (Rrefused (ix x1), upd (Rmd) 0 (nI 0)))
noncomputable def k_status_ok (Rmd Rrefused : Nat → Int32) (x1 : Int32) : Prop := (True ∧ (if (k_within x1 (nI 0) (nI 1)) = 0 then True else ((isN x1) ∧ (ix x1 < 2) ∧ True)))
set_option maxHeartbeats 4000000 in
set_option maxRecDepth 3000 in
theorem c_k_status_54 (z : Zp) (d : Nat) (M : Mem) (x1 : Int32) (hk : k_status_ok (M.1 54) (M.1 55) x1) : GM z mX12_status (d + 1) [.ref 54, .int x1] M (fun rs => rs = .inl (some (.int ((k_status (M.1 54) (M.1 55) x1).1)), mrow M 54 ((k_status (M.1 54) (M.1 55) x1).2))) := by
  simp only [k_status_ok] at hk
  refine GM.of oX12_status.1 (Nat.le_of_ble_eq_true rfl) ?_
  show G z mX12_status (d + 1) 0 0 0 [some (.ref 54), some (.int x1)] [] M _
  obtain ⟨Q, hQ⟩ : ∃ Q : Rs → Prop, Q = (fun rs => rs = .inl (some (.int ((k_status (M.1 54) (M.1 55) x1).1)), mrow M 54 ((k_status (M.1 54) (M.1 55) x1).2))) := ⟨_, rfl⟩
  rw [← hQ]
  refine G.sl [(.aload_n 0, 1, 0, 0, 0, 0), (.iconst 0, 1, 0, 0, 0, nI 0), (.putfield 3, 3, 11, 0, 123, 0), (.iload_n 1, 1, 1, 0, 0, 0), (.iconst 0, 1, 0, 0, 0, nI 0), (.iconst 1, 1, 0, 0, 0, nI 1)] [] (pc2 := 8) (ls2 := [some (.ref 54), some (.int x1)]) (st2 := [.int (nI 1), .int (nI 0), .int x1]) (M2 := mput M 54 0 (nI 0)) (Ps := []) (by decide +kernel) rfl rfl trivial ?_
  refine G.mem (M' := mrow M 54 (upd (M.1 54) 0 (nI 0))) (by first | rfl | (simp only [mput, mrow_same, mrow_hit, mrow_miss, mrow_sw, idr_eq, ne_eq, Nat.reduceEqDiff, not_false_eq_true, Nat.reduceLT, reduceCtorEq]; done)) ?_
  obtain ⟨k1, hk⟩ := hk
  have t2 : GM z mX12_within (d) [.int x1, .int (nI 0), .int (nI 1)] (mrow M 54 (upd (M.1 54) 0 (nI 0))) (fun rs => rs = .inl (some (.int (k_within x1 (nI 0) (nI 1))), mrow M 54 (upd (M.1 54) 0 (nI 0)))) := by
    have q9 := c_k_within z d (mrow M 54 (upd (M.1 54) 0 (nI 0))) x1 (nI 0) (nI 1)
    try simp only [mput, mrow_same, mrow_hit, mrow_miss, mrow_sw, idr_eq, ne_eq, Nat.reduceEqDiff, not_false_eq_true, Nat.reduceLT, reduceCtorEq] at q9
    exact q9
  refine G.callS (as := [.int x1, .int (nI 0), .int (nI 1)]) (rest := []) oX12_within lk_EvenFindersModel_379 (by decide +kernel) rfl (Nat.le_of_ble_eq_true rfl) rfl ⟨Nat.le_of_ble_eq_true rfl, Nat.le_of_ble_eq_true rfl⟩ t2 (fun v9 N9 h3 => ?_) (fun E9 N9 h3 => by cases h3)
  cases h3
  show G z mX12_status (d + 1) 0 0 11 [some (.ref 54), some (.int x1)] [.int (k_within x1 (nI 0) (nI 1))] (mrow M 54 (upd (M.1 54) 0 (nI 0))) Q
  refine G.if_eq (off := (12)) (tgt := 23) (by decide +kernel) rfl (fun c4 => ?_) (fun c4 => ?_)
  · skip
    rw [if_pos c4] at hk
    refine G.sl [(.iconst (-1), 1, 0, 0, 0, (-1))] [] (pc2 := 24) (ls2 := [some (.ref 54), some (.int x1)]) (st2 := [.int ((-1))]) (M2 := mrow M 54 (upd (M.1 54) 0 (nI 0))) (Ps := []) (by decide +kernel) rfl rfl trivial ?_
    exact G.reti (by decide +kernel) rfl rfl (Nat.le_of_ble_eq_true rfl) (Nat.le_of_ble_eq_true rfl) ((by rw [hQ]; simp only [k_status, if_pos c4, mrow_self]))
  · skip
    rw [if_neg c4] at hk
    obtain ⟨k5, k6, hk⟩ := hk
    refine G.sl [(.aload_n 0, 1, 0, 0, 0, 0), (.getfield 7, 3, 11, 1, 124, 0), (.iload_n 1, 1, 1, 0, 0, 0), (.iaload, 1, 0, 0, 0, 0), (.goto 4, 3, 24, 0, 0, 0)] [ix x1] (pc2 := 24) (ls2 := [some (.ref 54), some (.int x1)]) (st2 := [.int (M.1 55 (ix x1))]) (M2 := mrow M 54 (upd (M.1 54) 0 (nI 0))) (Ps := [x1 = nI (ix x1) ∧ (ix x1) < 2]) (by decide +kernel) rfl rfl ⟨⟨(ixE k5), k6⟩, trivial⟩ ?_
    exact G.reti (by decide +kernel) rfl rfl (Nat.le_of_ble_eq_true rfl) (Nat.le_of_ble_eq_true rfl) ((by rw [hQ]; simp only [k_status, if_neg c4, mrow_self]))
noncomputable def k_count (Rmd : Nat → Int32) (x1 : Int32) : Int32 × (Nat → Int32) := (if x1 = 0 then (Rmd 51, upd (Rmd) 0 (nI 0)) else (if x1 = (nI 1) then (Rmd 2, upd (Rmd) 0 (nI 0)) else (if x1 = (nI 2) then (Rmd 35, upd (Rmd) 0 (nI 0)) else ((-1), upd (Rmd) 0 (nI 0)))))
set_option maxHeartbeats 4000000 in
set_option maxRecDepth 3000 in
theorem c_k_count_54 (z : Zp) (d : Nat) (M : Mem) (x1 : Int32) : GM z mX12_count (d) [.ref 54, .int x1] M (fun rs => rs = .inl (some (.int ((k_count (M.1 54) x1).1)), mrow M 54 ((k_count (M.1 54) x1).2))) := by
  refine GM.of oX12_count.1 (Nat.le_of_ble_eq_true rfl) ?_
  show G z mX12_count (d) 0 0 0 [some (.ref 54), some (.int x1)] [] M _
  obtain ⟨Q, hQ⟩ : ∃ Q : Rs → Prop, Q = (fun rs => rs = .inl (some (.int ((k_count (M.1 54) x1).1)), mrow M 54 ((k_count (M.1 54) x1).2))) := ⟨_, rfl⟩
  rw [← hQ]
  refine G.sl [(.aload_n 0, 1, 0, 0, 0, 0), (.iconst 0, 1, 0, 0, 0, nI 0), (.putfield 3, 3, 11, 0, 123, 0), (.iload_n 1, 1, 1, 0, 0, 0)] [] (pc2 := 6) (ls2 := [some (.ref 54), some (.int x1)]) (st2 := [.int x1]) (M2 := mput M 54 0 (nI 0)) (Ps := []) (by decide +kernel) rfl rfl trivial ?_
  refine G.mem (M' := mrow M 54 (upd (M.1 54) 0 (nI 0))) (by first | rfl | (simp only [mput, mrow_same, mrow_hit, mrow_miss, mrow_sw, idr_eq, ne_eq, Nat.reduceEqDiff, not_false_eq_true, Nat.reduceLT, reduceCtorEq]; done)) ?_
  refine G.if_ne (off := (10)) (tgt := 16) (by decide +kernel) rfl (fun c1 => ?_) (fun c1 => ?_)
  · skip
    refine G.sl [(.iload_n 1, 1, 1, 0, 0, 0), (.iconst 1, 1, 0, 0, 0, nI 1)] [] (pc2 := 18) (ls2 := [some (.ref 54), some (.int x1)]) (st2 := [.int (nI 1), .int x1]) (M2 := mrow M 54 (upd (M.1 54) 0 (nI 0))) (Ps := []) (by decide +kernel) rfl rfl trivial ?_
    refine G.ic_ne (off := (10)) (tgt := 28) (by decide +kernel) rfl (fun c2 => ?_) (fun c2 => ?_)
    · skip
      refine G.sl [(.iload_n 1, 1, 1, 0, 0, 0), (.iconst 2, 1, 0, 0, 0, nI 2)] [] (pc2 := 30) (ls2 := [some (.ref 54), some (.int x1)]) (st2 := [.int (nI 2), .int x1]) (M2 := mrow M 54 (upd (M.1 54) 0 (nI 0))) (Ps := []) (by decide +kernel) rfl rfl trivial ?_
      refine G.ic_ne (off := (10)) (tgt := 40) (by decide +kernel) rfl (fun c3 => ?_) (fun c3 => ?_)
      · skip
        refine G.sl [(.iconst (-1), 1, 0, 0, 0, (-1))] [] (pc2 := 41) (ls2 := [some (.ref 54), some (.int x1)]) (st2 := [.int ((-1))]) (M2 := mrow M 54 (upd (M.1 54) 0 (nI 0))) (Ps := []) (by decide +kernel) rfl rfl trivial ?_
        exact G.reti (by decide +kernel) rfl rfl (Nat.le_of_ble_eq_true rfl) (Nat.le_of_ble_eq_true rfl) ((by rw [hQ]; simp only [k_count, if_neg c1, if_neg c2, if_neg c3, mrow_self]))
      · skip
        refine G.sl [(.aload_n 0, 1, 0, 0, 0, 0), (.getfield 178, 3, 11, 35, 158, 0), (.goto 4, 3, 41, 0, 0, 0)] [] (pc2 := 41) (ls2 := [some (.ref 54), some (.int x1)]) (st2 := [.int (M.1 54 35)]) (M2 := mrow M 54 (upd (M.1 54) 0 (nI 0))) (Ps := []) (by decide +kernel) rfl rfl trivial ?_
        exact G.reti (by decide +kernel) rfl rfl (Nat.le_of_ble_eq_true rfl) (Nat.le_of_ble_eq_true rfl) ((by rw [hQ]; simp only [k_count, if_neg c1, if_neg c2, if_pos c3, mrow_self]))
    · skip
      refine G.sl [(.aload_n 0, 1, 0, 0, 0, 0), (.getfield 98, 3, 11, 2, 125, 0), (.goto 16, 3, 41, 0, 0, 0)] [] (pc2 := 41) (ls2 := [some (.ref 54), some (.int x1)]) (st2 := [.int (M.1 54 2)]) (M2 := mrow M 54 (upd (M.1 54) 0 (nI 0))) (Ps := []) (by decide +kernel) rfl rfl trivial ?_
      exact G.reti (by decide +kernel) rfl rfl (Nat.le_of_ble_eq_true rfl) (Nat.le_of_ble_eq_true rfl) ((by rw [hQ]; simp only [k_count, if_neg c1, if_pos c2, mrow_self]))
  · skip
    refine G.sl [(.aload_n 0, 1, 0, 0, 0, 0), (.getfield 181, 3, 11, 51, 174, 0), (.goto 28, 3, 41, 0, 0, 0)] [] (pc2 := 41) (ls2 := [some (.ref 54), some (.int x1)]) (st2 := [.int (M.1 54 51)]) (M2 := mrow M 54 (upd (M.1 54) 0 (nI 0))) (Ps := []) (by decide +kernel) rfl rfl trivial ?_
    exact G.reti (by decide +kernel) rfl rfl (Nat.le_of_ble_eq_true rfl) (Nat.le_of_ble_eq_true rfl) ((by rw [hQ]; simp only [k_count, if_pos c1, mrow_self]))
noncomputable def k_thrown (Rmd : Nat → Int32) : Int32 := Rmd 0
set_option maxHeartbeats 4000000 in
set_option maxRecDepth 3000 in
theorem c_k_thrown_54 (z : Zp) (d : Nat) (M : Mem) : GM z mX12_thrown (d) [.ref 54] M (fun rs => rs = .inl (some (.int (k_thrown (M.1 54))), M)) := by
  refine GM.of oX12_thrown.1 (Nat.le_of_ble_eq_true rfl) ?_
  show G z mX12_thrown (d) 0 0 0 [some (.ref 54)] [] M _
  obtain ⟨Q, hQ⟩ : ∃ Q : Rs → Prop, Q = (fun rs => rs = .inl (some (.int (k_thrown (M.1 54))), M)) := ⟨_, rfl⟩
  rw [← hQ]
  refine G.sl [(.aload_n 0, 1, 0, 0, 0, 0), (.getfield 3, 3, 11, 0, 123, 0)] [] (pc2 := 4) (ls2 := [some (.ref 54)]) (st2 := [.int (M.1 54 0)]) (M2 := M) (Ps := []) (by decide +kernel) rfl rfl trivial ?_
  exact G.reti (by decide +kernel) rfl rfl (Nat.le_of_ble_eq_true rfl) (Nat.le_of_ble_eq_true rfl) ((by rw [hQ]; simp only [k_thrown, mrow_self]))
noncomputable def t_word_s1_19 (Rtape Rbytes : Nat → Int32) : Nat → Int32 → Int32
  | 0, s2 => s2
  | k0 + 1, s2 => (if (Rtape 5) ≤ s2 then s2 else (if (Rbytes (ix s2)) < (nI 97) then s2 else (if (nI 122) < (Rbytes (ix s2)) then s2 else t_word_s1_19 Rtape Rbytes k0 (s2 + nI 1))))
noncomputable def t_word_s1_19_ok (Rtape Rbytes : Nat → Int32) : Nat → Int32 → Prop
  | 0, _ => False
  | k0 + 1, s2 => (if (Rtape 5) ≤ s2 then True else ((isN s2) ∧ (ix s2 < 600) ∧ (if (Rbytes (ix s2)) < (nI 97) then True else (if (nI 122) < (Rbytes (ix s2)) then True else t_word_s1_19_ok Rtape Rbytes k0 (s2 + nI 1)))))
set_option maxHeartbeats 4000000 in
set_option maxRecDepth 3000 in
theorem lp_t_word_s1_1_19 (z : Zp) (d : Nat) (M : Mem) (Q : Rs → Prop) : ∀ (k0 : Nat) (s2 : Int32), t_word_s1_19_ok (M.1 1) (M.1 2) k0 s2 → (match t_word_s1_19 (M.1 1) (M.1 2) k0 s2 with | s2' => G z mX6_word (d + 5) 0 0 55 [some (.ref 1), some (.ref 1001), some (.int (s2')), none] [] M Q) → G z mX6_word (d + 5) 0 0 19 [some (.ref 1), some (.ref 1001), some (.int s2), none] [] M Q := by
  intro k0
  induction k0 with
  | zero =>
      intro s2 hk hX
      exact (by simpa only [t_word_s1_19_ok] using hk : False).elim
  | succ k0 ih =>
      intro s2 hk hX
      simp only [t_word_s1_19_ok] at hk
      refine G.sl [(.iload_n 2, 1, 2, 0, 0, 0), (.aload_n 0, 1, 0, 0, 0, 0), (.getfield 31, 3, 5, 5, 12, 0)] [] (pc2 := 24) (ls2 := [some (.ref 1), some (.ref 1001), some (.int s2), none]) (st2 := [.int (M.1 1 5), .int s2]) (M2 := M) (Ps := []) (by decide +kernel) rfl rfl trivial ?_
      refine G.ic_ge (off := (31)) (tgt := 55) (by decide +kernel) rfl (fun c8 => ?_) (fun c8 => ?_)
      · skip
        rw [if_pos c8] at hk
        simp only [t_word_s1_19, if_pos c8] at hX
        exact hX
      · skip
        rw [if_neg c8] at hk
        obtain ⟨k9, k10, hk⟩ := hk
        refine G.sl [(.aload_n 0, 1, 0, 0, 0, 0), (.getfield 9, 3, 5, 0, 0, 0), (.iload_n 2, 1, 2, 0, 0, 0), (.iaload, 1, 0, 0, 0, 0), (.bipush 97, 2, 0, 0, 0, nI 97)] [ix s2] (pc2 := 35) (ls2 := [some (.ref 1), some (.ref 1001), some (.int s2), none]) (st2 := [.int (nI 97), .int (M.1 2 (ix s2))]) (M2 := M) (Ps := [s2 = nI (ix s2) ∧ (ix s2) < 600]) (by decide +kernel) rfl rfl ⟨⟨(ixE k9), k10⟩, trivial⟩ ?_
        refine G.ic_lt (off := (20)) (tgt := 55) (by decide +kernel) rfl (fun c11 => ?_) (fun c11 => ?_)
        · skip
          rw [if_pos c11] at hk
          simp only [t_word_s1_19, if_neg c8, if_pos c11] at hX
          exact hX
        · skip
          rw [if_neg c11] at hk
          refine G.sl [(.aload_n 0, 1, 0, 0, 0, 0), (.getfield 9, 3, 5, 0, 0, 0), (.iload_n 2, 1, 2, 0, 0, 0), (.iaload, 1, 0, 0, 0, 0), (.bipush 122, 2, 0, 0, 0, nI 122)] [ix s2] (pc2 := 46) (ls2 := [some (.ref 1), some (.ref 1001), some (.int s2), none]) (st2 := [.int (nI 122), .int (M.1 2 (ix s2))]) (M2 := M) (Ps := [s2 = nI (ix s2) ∧ (ix s2) < 600]) (by decide +kernel) rfl rfl ⟨⟨(ixE k9), k10⟩, trivial⟩ ?_
          refine G.ic_gt (off := (9)) (tgt := 55) (by decide +kernel) rfl (fun c12 => ?_) (fun c12 => ?_)
          · skip
            rw [if_pos c12] at hk
            simp only [t_word_s1_19, if_neg c8, if_neg c11, if_pos c12] at hX
            exact hX
          · skip
            rw [if_neg c12] at hk
            refine G.sl [(.iinc 2 1, 3, 2, 0, 0, nI 1), (.goto (-33), 3, 19, 0, 0, 0)] [] (pc2 := 19) (ls2 := [some (.ref 1), some (.ref 1001), some (.int (s2 + nI 1)), none]) (st2 := []) (M2 := M) (Ps := []) (by decide +kernel) rfl rfl trivial ?_
            simp only [t_word_s1_19, if_neg c8, if_neg c11, if_neg c12] at hX
            exact ih (s2 + nI 1) hk hX
noncomputable def t_indexIn_s1_14 (Rtape Rbytes : Nat → Int32) (x2 : Int32) : Nat → Nat → Int32 → Int32 → Int32 → (Int32) ⊕ (Int32 × Int32 × Int32)
  | 0, _, s3, s4, s5 => .inr (s3, s4, s5)
  | k0 + 1, i6, s3, s4, s5 => (if (sby 1 i6) = (nI 32) then (if s5 = 0 then t_indexIn_s1_14 Rtape Rbytes x2 k0 (i6 + 1) (s3 + nI 1) (Rtape 6) (nI 1) else (if s4 = x2 then .inl s3 else t_indexIn_s1_14 Rtape Rbytes x2 k0 (i6 + 1) (s3 + nI 1) (Rtape 6) (nI 1))) else (if s5 = 0 then t_indexIn_s1_14 Rtape Rbytes x2 k0 (i6 + 1) s3 (s4 + nI 1) (nI 0) else (if x2 ≤ s4 then t_indexIn_s1_14 Rtape Rbytes x2 k0 (i6 + 1) s3 (s4 + nI 1) (nI 0) else (if (Rbytes (ix s4)) = (sby 1 i6) then t_indexIn_s1_14 Rtape Rbytes x2 k0 (i6 + 1) s3 (s4 + nI 1) (nI 1) else t_indexIn_s1_14 Rtape Rbytes x2 k0 (i6 + 1) s3 (s4 + nI 1) (nI 0)))))
noncomputable def t_indexIn_s1_14_ok (Rtape Rbytes : Nat → Int32) (x2 : Int32) : Nat → Nat → Int32 → Int32 → Int32 → Prop
  | 0, _, _, _, _ => True
  | k0 + 1, i6, s3, s4, s5 => (if (sby 1 i6) = (nI 32) then (if s5 = 0 then t_indexIn_s1_14_ok Rtape Rbytes x2 k0 (i6 + 1) (s3 + nI 1) (Rtape 6) (nI 1) else (if s4 = x2 then True else t_indexIn_s1_14_ok Rtape Rbytes x2 k0 (i6 + 1) (s3 + nI 1) (Rtape 6) (nI 1))) else (if s5 = 0 then t_indexIn_s1_14_ok Rtape Rbytes x2 k0 (i6 + 1) s3 (s4 + nI 1) (nI 0) else (if x2 ≤ s4 then t_indexIn_s1_14_ok Rtape Rbytes x2 k0 (i6 + 1) s3 (s4 + nI 1) (nI 0) else ((isN s4) ∧ (ix s4 < 600) ∧ (if (Rbytes (ix s4)) = (sby 1 i6) then t_indexIn_s1_14_ok Rtape Rbytes x2 k0 (i6 + 1) s3 (s4 + nI 1) (nI 1) else t_indexIn_s1_14_ok Rtape Rbytes x2 k0 (i6 + 1) s3 (s4 + nI 1) (nI 0))))))
set_option maxHeartbeats 4000000 in
set_option maxRecDepth 3000 in
theorem lp_t_indexIn_s1_1_14 (z : Zp) (d : Nat) (M : Mem) (Q : Rs → Prop) (nn : Nat) (x2 : Int32) (hnn : nn = 28) : ∀ (k0 : Nat) (i6 : Nat) (s3 : Int32) (s4 : Int32) (s5 : Int32), i6 + k0 = nn → t_indexIn_s1_14_ok (M.1 1) (M.1 2) x2 k0 i6 s3 s4 s5 → (match t_indexIn_s1_14 (M.1 1) (M.1 2) x2 k0 i6 s3 s4 s5 with | .inl v' => Q (.inl (some (.int v'), M)) | .inr (s3', s4', s5') => G z mX6_indexIn (d + 4) 0 0 105 [none, none, some (.int x2), some (.int (s3')), some (.int (s4')), some (.int (s5')), none, none] [] M Q) → G z mX6_indexIn (d + 4) 0 0 14 [some (.ref 1), some (.ref 1001), some (.int x2), some (.int s3), some (.int s4), some (.int s5), some (.int (nI i6)), none] [] M Q := by
  intro k0
  induction k0 with
  | zero =>
      intro i6 s3 s4 s5 hn hk hX
      refine G.sl [(.iload 6, 2, 6, 0, 0, 0), (.aload_n 1, 1, 1, 0, 0, 0)] [] (pc2 := 17) (ls2 := [some (.ref 1), some (.ref 1001), some (.int x2), some (.int s3), some (.int s4), some (.int s5), some (.int (nI i6)), none]) (st2 := [.ref 1001, .int (nI i6)]) (M2 := M) (Ps := []) (by decide +kernel) rfl rfl trivial ?_
      have t13 : GM z mJ0_length_8abf5 (d + 3) [.ref 1001] M (fun rs => rs = .inl (some (.int (nI 28)), M)) := c_slen z _ _ 1 (by decide)
      refine G.callT (as := []) (rest := [.int (nI i6)]) (i := 1) oJ0_length_8abf5 lk_EvenFinders_Tape_63 (by decide +kernel) rfl (by decide) rfl (Nat.le_of_ble_eq_true rfl) rfl ⟨Nat.le_of_ble_eq_true rfl, Nat.le_of_ble_eq_true rfl⟩ t13 (fun v9 N9 h14 => ?_) (fun E9 N9 h14 => by cases h14)
      cases h14
      show G z mX6_indexIn (d + 4) 0 0 20 [some (.ref 1), some (.ref 1001), some (.int x2), some (.int s3), some (.int s4), some (.int s5), some (.int (nI i6)), none] [.int (nI 28), .int (nI i6)] M Q
      refine G.ic_ge (off := (85)) (tgt := 105) (by decide +kernel) rfl (fun _ => ?_) (fun h9 => absurd (nI_le (by omega) (by omega)) h9)
      refine G.loc (ls2 := [none, none, some (.int x2), some (.int s3), some (.int s4), some (.int s5), none, none]) (by simp [subL]) ?_
      simp only [t_indexIn_s1_14] at hX
      exact hX
  | succ k0 ih =>
      intro i6 s3 s4 s5 hn hk hX
      simp only [t_indexIn_s1_14_ok] at hk
      refine G.sl [(.iload 6, 2, 6, 0, 0, 0), (.aload_n 1, 1, 1, 0, 0, 0)] [] (pc2 := 17) (ls2 := [some (.ref 1), some (.ref 1001), some (.int x2), some (.int s3), some (.int s4), some (.int s5), some (.int (nI i6)), none]) (st2 := [.ref 1001, .int (nI i6)]) (M2 := M) (Ps := []) (by decide +kernel) rfl rfl trivial ?_
      have t1 : GM z mJ0_length_8abf5 (d + 3) [.ref 1001] M (fun rs => rs = .inl (some (.int (nI 28)), M)) := c_slen z _ _ 1 (by decide)
      refine G.callT (as := []) (rest := [.int (nI i6)]) (i := 1) oJ0_length_8abf5 lk_EvenFinders_Tape_63 (by decide +kernel) rfl (by decide) rfl (Nat.le_of_ble_eq_true rfl) rfl ⟨Nat.le_of_ble_eq_true rfl, Nat.le_of_ble_eq_true rfl⟩ t1 (fun v9 N9 h2 => ?_) (fun E9 N9 h2 => by cases h2)
      cases h2
      show G z mX6_indexIn (d + 4) 0 0 20 [some (.ref 1), some (.ref 1001), some (.int x2), some (.int s3), some (.int s4), some (.int s5), some (.int (nI i6)), none] [.int (nI 28), .int (nI i6)] M Q
      refine G.ic_ge (off := (85)) (tgt := 105) (by decide +kernel) rfl (fun h9 => absurd h9 (nI_ge (by omega) (by omega))) (fun _ => ?_)
      refine G.sl [(.aload_n 1, 1, 1, 0, 0, 0), (.iload 6, 2, 6, 0, 0, 0)] [] (pc2 := 26) (ls2 := [some (.ref 1), some (.ref 1001), some (.int x2), some (.int s3), some (.int s4), some (.int s5), some (.int (nI i6)), none]) (st2 := [.int (nI i6), .ref 1001]) (M2 := M) (Ps := []) (by decide +kernel) rfl rfl trivial ?_
      have t3 : GM z mJ0_charAt_5068e (d + 3) [.ref 1001, .int (nI i6)] M (fun rs => rs = .inl (some (.int (sby 1 i6)), M)) := c_charAt z _ _ 1 i6 (by decide) (show i6 < 28 from (by omega))
      refine G.callT (as := [.int (nI i6)]) (rest := []) (i := 1) oJ0_charAt_5068e lk_EvenFinders_Tape_67 (by decide +kernel) rfl (by decide) rfl (Nat.le_of_ble_eq_true rfl) rfl ⟨Nat.le_of_ble_eq_true rfl, Nat.le_of_ble_eq_true rfl⟩ t3 (fun v9 N9 h4 => ?_) (fun E9 N9 h4 => by cases h4)
      cases h4
      show G z mX6_indexIn (d + 4) 0 0 29 [some (.ref 1), some (.ref 1001), some (.int x2), some (.int s3), some (.int s4), some (.int s5), some (.int (nI i6)), none] [.int (sby 1 i6)] M Q
      refine G.sl [(.istore 7, 2, 7, 0, 0, 0), (.iload 7, 2, 7, 0, 0, 0), (.bipush 32, 2, 0, 0, 0, nI 32)] [] (pc2 := 35) (ls2 := [some (.ref 1), some (.ref 1001), some (.int x2), some (.int s3), some (.int s4), some (.int s5), some (.int (nI i6)), some (.int (sby 1 i6))]) (st2 := [.int (nI 32), .int (sby 1 i6)]) (M2 := M) (Ps := []) (by decide +kernel) rfl rfl trivial ?_
      refine G.ic_eq (off := (39)) (tgt := 74) (by decide +kernel) rfl (fun c5 => ?_) (fun c5 => ?_)
      · skip
        rw [if_pos c5] at hk
        refine G.sl [(.iload 5, 2, 5, 0, 0, 0)] [] (pc2 := 76) (ls2 := [some (.ref 1), some (.ref 1001), some (.int x2), some (.int s3), some (.int s4), some (.int s5), some (.int (nI i6)), some (.int (sby 1 i6))]) (st2 := [.int s5]) (M2 := M) (Ps := []) (by decide +kernel) rfl rfl trivial ?_
        refine G.if_eq (off := (11)) (tgt := 87) (by decide +kernel) rfl (fun c6 => ?_) (fun c6 => ?_)
        · skip
          rw [if_pos c6] at hk
          refine G.sl [(.iinc 3 1, 3, 3, 0, 0, nI 1), (.aload_n 0, 1, 0, 0, 0, 0), (.getfield 34, 3, 5, 6, 13, 0), (.istore 4, 2, 4, 0, 0, 0), (.iconst 1, 1, 0, 0, 0, nI 1), (.istore 5, 2, 5, 0, 0, 0), (.iinc 6 1, 3, 6, 0, 0, nI 1), (.goto (-88), 3, 14, 0, 0, 0)] [] (pc2 := 14) (ls2 := [some (.ref 1), some (.ref 1001), some (.int x2), some (.int (s3 + nI 1)), some (.int (M.1 1 6)), some (.int (nI 1)), some (.int ((nI i6) + nI 1)), some (.int (sby 1 i6))]) (st2 := []) (M2 := M) (Ps := []) (by decide +kernel) rfl rfl trivial ?_
          refine G.loc (ls2 := [some (.ref 1), some (.ref 1001), some (.int x2), some (.int (s3 + nI 1)), some (.int (M.1 1 6)), some (.int (nI 1)), some (.int ((nI i6) + nI 1)), none]) (by simp [subL]) ?_
          rw [nI_add i6 1]
          simp only [t_indexIn_s1_14, if_pos c5, if_pos c6] at hX
          exact ih (i6 + 1) (s3 + nI 1) (M.1 1 6) (nI 1) (by omega) hk hX
        · skip
          rw [if_neg c6] at hk
          refine G.sl [(.iload 4, 2, 4, 0, 0, 0), (.iload_n 2, 1, 2, 0, 0, 0)] [] (pc2 := 82) (ls2 := [some (.ref 1), some (.ref 1001), some (.int x2), some (.int s3), some (.int s4), some (.int s5), some (.int (nI i6)), some (.int (sby 1 i6))]) (st2 := [.int x2, .int s4]) (M2 := M) (Ps := []) (by decide +kernel) rfl rfl trivial ?_
          refine G.ic_ne (off := (5)) (tgt := 87) (by decide +kernel) rfl (fun c7 => ?_) (fun c7 => ?_)
          · skip
            rw [if_neg c7] at hk
            refine G.sl [(.iinc 3 1, 3, 3, 0, 0, nI 1), (.aload_n 0, 1, 0, 0, 0, 0), (.getfield 34, 3, 5, 6, 13, 0), (.istore 4, 2, 4, 0, 0, 0), (.iconst 1, 1, 0, 0, 0, nI 1), (.istore 5, 2, 5, 0, 0, 0), (.iinc 6 1, 3, 6, 0, 0, nI 1), (.goto (-88), 3, 14, 0, 0, 0)] [] (pc2 := 14) (ls2 := [some (.ref 1), some (.ref 1001), some (.int x2), some (.int (s3 + nI 1)), some (.int (M.1 1 6)), some (.int (nI 1)), some (.int ((nI i6) + nI 1)), some (.int (sby 1 i6))]) (st2 := []) (M2 := M) (Ps := []) (by decide +kernel) rfl rfl trivial ?_
            refine G.loc (ls2 := [some (.ref 1), some (.ref 1001), some (.int x2), some (.int (s3 + nI 1)), some (.int (M.1 1 6)), some (.int (nI 1)), some (.int ((nI i6) + nI 1)), none]) (by simp [subL]) ?_
            rw [nI_add i6 1]
            simp only [t_indexIn_s1_14, if_pos c5, if_neg c6, if_neg c7] at hX
            exact ih (i6 + 1) (s3 + nI 1) (M.1 1 6) (nI 1) (by omega) hk hX
          · skip
            rw [if_pos c7] at hk
            refine G.sl [(.iload_n 3, 1, 3, 0, 0, 0)] [] (pc2 := 86) (ls2 := [some (.ref 1), some (.ref 1001), some (.int x2), some (.int s3), some (.int s4), some (.int s5), some (.int (nI i6)), some (.int (sby 1 i6))]) (st2 := [.int s3]) (M2 := M) (Ps := []) (by decide +kernel) rfl rfl trivial ?_
            exact G.reti (by decide +kernel) rfl rfl (Nat.le_of_ble_eq_true rfl) (Nat.le_of_ble_eq_true rfl) ((by simp only [t_indexIn_s1_14, if_pos c5, if_neg c6, if_pos c7] at hX; exact hX))
      · skip
        rw [if_neg c5] at hk
        refine G.sl [(.iload 5, 2, 5, 0, 0, 0)] [] (pc2 := 40) (ls2 := [some (.ref 1), some (.ref 1001), some (.int x2), some (.int s3), some (.int s4), some (.int s5), some (.int (nI i6)), some (.int (sby 1 i6))]) (st2 := [.int s5]) (M2 := M) (Ps := []) (by decide +kernel) rfl rfl trivial ?_
        refine G.if_eq (off := (25)) (tgt := 65) (by decide +kernel) rfl (fun c8 => ?_) (fun c8 => ?_)
        · skip
          rw [if_pos c8] at hk
          refine G.sl [(.iconst 0, 1, 0, 0, 0, nI 0), (.istore 5, 2, 5, 0, 0, 0), (.iinc 4 1, 3, 4, 0, 0, nI 1), (.goto 28, 3, 99, 0, 0, 0), (.iinc 6 1, 3, 6, 0, 0, nI 1), (.goto (-88), 3, 14, 0, 0, 0)] [] (pc2 := 14) (ls2 := [some (.ref 1), some (.ref 1001), some (.int x2), some (.int s3), some (.int (s4 + nI 1)), some (.int (nI 0)), some (.int ((nI i6) + nI 1)), some (.int (sby 1 i6))]) (st2 := []) (M2 := M) (Ps := []) (by decide +kernel) rfl rfl trivial ?_
          refine G.loc (ls2 := [some (.ref 1), some (.ref 1001), some (.int x2), some (.int s3), some (.int (s4 + nI 1)), some (.int (nI 0)), some (.int ((nI i6) + nI 1)), none]) (by simp [subL]) ?_
          rw [nI_add i6 1]
          simp only [t_indexIn_s1_14, if_neg c5, if_pos c8] at hX
          exact ih (i6 + 1) s3 (s4 + nI 1) (nI 0) (by omega) hk hX
        · skip
          rw [if_neg c8] at hk
          refine G.sl [(.iload 4, 2, 4, 0, 0, 0), (.iload_n 2, 1, 2, 0, 0, 0)] [] (pc2 := 46) (ls2 := [some (.ref 1), some (.ref 1001), some (.int x2), some (.int s3), some (.int s4), some (.int s5), some (.int (nI i6)), some (.int (sby 1 i6))]) (st2 := [.int x2, .int s4]) (M2 := M) (Ps := []) (by decide +kernel) rfl rfl trivial ?_
          refine G.ic_ge (off := (19)) (tgt := 65) (by decide +kernel) rfl (fun c9 => ?_) (fun c9 => ?_)
          · skip
            rw [if_pos c9] at hk
            refine G.sl [(.iconst 0, 1, 0, 0, 0, nI 0), (.istore 5, 2, 5, 0, 0, 0), (.iinc 4 1, 3, 4, 0, 0, nI 1), (.goto 28, 3, 99, 0, 0, 0), (.iinc 6 1, 3, 6, 0, 0, nI 1), (.goto (-88), 3, 14, 0, 0, 0)] [] (pc2 := 14) (ls2 := [some (.ref 1), some (.ref 1001), some (.int x2), some (.int s3), some (.int (s4 + nI 1)), some (.int (nI 0)), some (.int ((nI i6) + nI 1)), some (.int (sby 1 i6))]) (st2 := []) (M2 := M) (Ps := []) (by decide +kernel) rfl rfl trivial ?_
            refine G.loc (ls2 := [some (.ref 1), some (.ref 1001), some (.int x2), some (.int s3), some (.int (s4 + nI 1)), some (.int (nI 0)), some (.int ((nI i6) + nI 1)), none]) (by simp [subL]) ?_
            rw [nI_add i6 1]
            simp only [t_indexIn_s1_14, if_neg c5, if_neg c8, if_pos c9] at hX
            exact ih (i6 + 1) s3 (s4 + nI 1) (nI 0) (by omega) hk hX
          · skip
            rw [if_neg c9] at hk
            obtain ⟨k10, k11, hk⟩ := hk
            refine G.sl [(.aload_n 0, 1, 0, 0, 0, 0), (.getfield 9, 3, 5, 0, 0, 0), (.iload 4, 2, 4, 0, 0, 0), (.iaload, 1, 0, 0, 0, 0), (.iload 7, 2, 7, 0, 0, 0)] [ix s4] (pc2 := 58) (ls2 := [some (.ref 1), some (.ref 1001), some (.int x2), some (.int s3), some (.int s4), some (.int s5), some (.int (nI i6)), some (.int (sby 1 i6))]) (st2 := [.int (sby 1 i6), .int (M.1 2 (ix s4))]) (M2 := M) (Ps := [s4 = nI (ix s4) ∧ (ix s4) < 600]) (by decide +kernel) rfl rfl ⟨⟨(ixE k10), k11⟩, trivial⟩ ?_
            refine G.ic_ne (off := (7)) (tgt := 65) (by decide +kernel) rfl (fun c12 => ?_) (fun c12 => ?_)
            · skip
              rw [if_neg c12] at hk
              refine G.sl [(.iconst 0, 1, 0, 0, 0, nI 0), (.istore 5, 2, 5, 0, 0, 0), (.iinc 4 1, 3, 4, 0, 0, nI 1), (.goto 28, 3, 99, 0, 0, 0), (.iinc 6 1, 3, 6, 0, 0, nI 1), (.goto (-88), 3, 14, 0, 0, 0)] [] (pc2 := 14) (ls2 := [some (.ref 1), some (.ref 1001), some (.int x2), some (.int s3), some (.int (s4 + nI 1)), some (.int (nI 0)), some (.int ((nI i6) + nI 1)), some (.int (sby 1 i6))]) (st2 := []) (M2 := M) (Ps := []) (by decide +kernel) rfl rfl trivial ?_
              refine G.loc (ls2 := [some (.ref 1), some (.ref 1001), some (.int x2), some (.int s3), some (.int (s4 + nI 1)), some (.int (nI 0)), some (.int ((nI i6) + nI 1)), none]) (by simp [subL]) ?_
              rw [nI_add i6 1]
              simp only [t_indexIn_s1_14, if_neg c5, if_neg c8, if_neg c9, if_neg c12] at hX
              exact ih (i6 + 1) s3 (s4 + nI 1) (nI 0) (by omega) hk hX
            · skip
              rw [if_pos c12] at hk
              refine G.sl [(.iconst 1, 1, 0, 0, 0, nI 1), (.goto 4, 3, 66, 0, 0, 0), (.istore 5, 2, 5, 0, 0, 0), (.iinc 4 1, 3, 4, 0, 0, nI 1), (.goto 28, 3, 99, 0, 0, 0), (.iinc 6 1, 3, 6, 0, 0, nI 1), (.goto (-88), 3, 14, 0, 0, 0)] [] (pc2 := 14) (ls2 := [some (.ref 1), some (.ref 1001), some (.int x2), some (.int s3), some (.int (s4 + nI 1)), some (.int (nI 1)), some (.int ((nI i6) + nI 1)), some (.int (sby 1 i6))]) (st2 := []) (M2 := M) (Ps := []) (by decide +kernel) rfl rfl trivial ?_
              refine G.loc (ls2 := [some (.ref 1), some (.ref 1001), some (.int x2), some (.int s3), some (.int (s4 + nI 1)), some (.int (nI 1)), some (.int ((nI i6) + nI 1)), none]) (by simp [subL]) ?_
              rw [nI_add i6 1]
              simp only [t_indexIn_s1_14, if_neg c5, if_neg c8, if_neg c9, if_pos c12] at hX
              exact ih (i6 + 1) s3 (s4 + nI 1) (nI 1) (by omega) hk hX
noncomputable def t_indexIn_s1 (Rtape Rbytes : Nat → Int32) (x2 : Int32) : Int32 := (match t_indexIn_s1_14 (Rtape) (Rbytes) x2 (cN 28) 0 (nI 0) (Rtape 6) (nI 1) with | .inl v20 => v20 | .inr (v17, v18, v19) => (if v19 = 0 then (-1) else (if v18 = x2 then v17 else (-1))))
noncomputable def t_indexIn_s1_ok (Rtape Rbytes : Nat → Int32) (x2 : Int32) : Prop := (t_indexIn_s1_14_ok (Rtape) (Rbytes) x2 (cN 28) 0 (nI 0) (Rtape 6) (nI 1) ∧ (match t_indexIn_s1_14 (Rtape) (Rbytes) x2 (cN 28) 0 (nI 0) (Rtape 6) (nI 1) with | .inl v20 => True | .inr (v17, v18, v19) => True))
set_option maxHeartbeats 4000000 in
set_option maxRecDepth 3000 in
theorem c_t_indexIn_s1_1 (z : Zp) (d : Nat) (M : Mem) (x2 : Int32) (hk : t_indexIn_s1_ok (M.1 1) (M.1 2) x2) : GM z mX6_indexIn (d + 4) [.ref 1, .ref 1001, .int x2] M (fun rs => rs = .inl (some (.int (t_indexIn_s1 (M.1 1) (M.1 2) x2)), M)) := by
  simp only [t_indexIn_s1_ok] at hk
  refine GM.of oX6_indexIn.1 (Nat.le_of_ble_eq_true rfl) ?_
  show G z mX6_indexIn (d + 4) 0 0 0 [some (.ref 1), some (.ref 1001), some (.int x2), none, none, none, none, none] [] M _
  obtain ⟨Q, hQ⟩ : ∃ Q : Rs → Prop, Q = (fun rs => rs = .inl (some (.int (t_indexIn_s1 (M.1 1) (M.1 2) x2)), M)) := ⟨_, rfl⟩
  rw [← hQ]
  refine G.sl [(.iconst 0, 1, 0, 0, 0, nI 0), (.istore_n 3, 1, 3, 0, 0, 0), (.aload_n 0, 1, 0, 0, 0, 0), (.getfield 34, 3, 5, 6, 13, 0), (.istore 4, 2, 4, 0, 0, 0), (.iconst 1, 1, 0, 0, 0, nI 1), (.istore 5, 2, 5, 0, 0, 0), (.iconst 0, 1, 0, 0, 0, nI 0), (.istore 6, 2, 6, 0, 0, 0)] [] (pc2 := 14) (ls2 := [some (.ref 1), some (.ref 1001), some (.int x2), some (.int (nI 0)), some (.int (M.1 1 6)), some (.int (nI 1)), some (.int (nI 0)), none]) (st2 := []) (M2 := M) (Ps := []) (by decide +kernel) rfl rfl trivial ?_
  obtain ⟨k15, hk⟩ := hk
  refine lp_t_indexIn_s1_1_14 z d M Q (cN 28) x2 (cN_eq 28) (cN 28) 0 (nI 0) (M.1 1 6) (nI 1) (Nat.zero_add _) (by first | (simp only [mput, mrow_same, mrow_hit, mrow_miss, mrow_sw, idr_eq, ne_eq, Nat.reduceEqDiff, not_false_eq_true, Nat.reduceLT, reduceCtorEq]; exact k15) | exact k15) ?_
  try simp only [mput, mrow_same, mrow_hit, mrow_miss, mrow_sw, idr_eq, ne_eq, Nat.reduceEqDiff, not_false_eq_true, Nat.reduceLT, reduceCtorEq]
  rcases g16 : t_indexIn_s1_14 (M.1 1) (M.1 2) x2 (cN 28) 0 (nI 0) (M.1 1 6) (nI 1) with v20 | ⟨v17, v18, v19⟩
  · skip
    show Q (.inl (some (.int v20), M))
    rw [hQ]
    simp only [t_indexIn_s1, g16, mrow_self]
  · skip
    show G z mX6_indexIn (d + 4) 0 0 105 [none, none, some (.int x2), some (.int v17), some (.int v18), some (.int v19), none, none] [] M Q
    refine G.sl [(.iload 5, 2, 5, 0, 0, 0)] [] (pc2 := 107) (ls2 := [none, none, some (.int x2), some (.int v17), some (.int v18), some (.int v19), none, none]) (st2 := [.int v19]) (M2 := M) (Ps := []) (by decide +kernel) rfl rfl trivial ?_
    refine G.if_eq (off := (13)) (tgt := 120) (by decide +kernel) rfl (fun c21 => ?_) (fun c21 => ?_)
    · skip
      refine G.sl [(.iconst (-1), 1, 0, 0, 0, (-1))] [] (pc2 := 121) (ls2 := [none, none, some (.int x2), some (.int v17), some (.int v18), some (.int v19), none, none]) (st2 := [.int ((-1))]) (M2 := M) (Ps := []) (by decide +kernel) rfl rfl trivial ?_
      exact G.reti (by decide +kernel) rfl rfl (Nat.le_of_ble_eq_true rfl) (Nat.le_of_ble_eq_true rfl) ((by rw [hQ]; simp only [t_indexIn_s1, g16, if_pos c21, mrow_self]))
    · skip
      refine G.sl [(.iload 4, 2, 4, 0, 0, 0), (.iload_n 2, 1, 2, 0, 0, 0)] [] (pc2 := 113) (ls2 := [none, none, some (.int x2), some (.int v17), some (.int v18), some (.int v19), none, none]) (st2 := [.int x2, .int v18]) (M2 := M) (Ps := []) (by decide +kernel) rfl rfl trivial ?_
      refine G.ic_ne (off := (7)) (tgt := 120) (by decide +kernel) rfl (fun c22 => ?_) (fun c22 => ?_)
      · skip
        refine G.sl [(.iconst (-1), 1, 0, 0, 0, (-1))] [] (pc2 := 121) (ls2 := [none, none, some (.int x2), some (.int v17), some (.int v18), some (.int v19), none, none]) (st2 := [.int ((-1))]) (M2 := M) (Ps := []) (by decide +kernel) rfl rfl trivial ?_
        exact G.reti (by decide +kernel) rfl rfl (Nat.le_of_ble_eq_true rfl) (Nat.le_of_ble_eq_true rfl) ((by rw [hQ]; simp only [t_indexIn_s1, g16, if_neg c21, if_neg c22, mrow_self]))
      · skip
        refine G.sl [(.iload_n 3, 1, 3, 0, 0, 0), (.goto 4, 3, 121, 0, 0, 0)] [] (pc2 := 121) (ls2 := [none, none, some (.int x2), some (.int v17), some (.int v18), some (.int v19), none, none]) (st2 := [.int v17]) (M2 := M) (Ps := []) (by decide +kernel) rfl rfl trivial ?_
        exact G.reti (by decide +kernel) rfl rfl (Nat.le_of_ble_eq_true rfl) (Nat.le_of_ble_eq_true rfl) ((by rw [hQ]; simp only [t_indexIn_s1, g16, if_neg c21, if_pos c22, mrow_self]))
noncomputable def t_word_s1 (Rtape Rbytes : Nat → Int32) : Int32 × (Nat → Int32) := (match t_next (Rtape) (Rbytes) with | (v3, r4) => (if (r4 2) = 0 then (if (t_indexIn_s1 r4 (Rbytes) (t_word_s1_19 r4 (Rbytes) FU (r4 6))) = ((-1)) then (match t_fail r4 (nI 1) (r4 4) with | (u20, r21) => (t_indexIn_s1 r4 (Rbytes) (t_word_s1_19 r4 (Rbytes) FU (r4 6)), r21)) else (t_indexIn_s1 r4 (Rbytes) (t_word_s1_19 r4 (Rbytes) FU (r4 6)), upd r4 6 (t_word_s1_19 r4 (Rbytes) FU (r4 6)))) else ((-1), r4)))
noncomputable def t_word_s1_ok (Rtape Rbytes : Nat → Int32) : Prop := (t_next_ok (Rtape) (Rbytes) ∧ (match t_next (Rtape) (Rbytes) with | (v3, r4) => (if (r4 2) = 0 then (t_word_s1_19_ok r4 (Rbytes) FU (r4 6) ∧ (t_indexIn_s1_ok r4 (Rbytes) (t_word_s1_19 r4 (Rbytes) FU (r4 6)) ∧ True)) else True)))
set_option maxHeartbeats 4000000 in
set_option maxRecDepth 3000 in
theorem c_t_word_s1_1 (z : Zp) (d : Nat) (M : Mem) (hk : t_word_s1_ok (M.1 1) (M.1 2)) : GM z mX6_word (d + 5) [.ref 1, .ref 1001] M (fun rs => rs = .inl (some (.int ((t_word_s1 (M.1 1) (M.1 2)).1)), mrow M 1 ((t_word_s1 (M.1 1) (M.1 2)).2))) := by
  simp only [t_word_s1_ok] at hk
  refine GM.of oX6_word.1 (Nat.le_of_ble_eq_true rfl) ?_
  show G z mX6_word (d + 5) 0 0 0 [some (.ref 1), some (.ref 1001), none, none] [] M _
  obtain ⟨Q, hQ⟩ : ∃ Q : Rs → Prop, Q = (fun rs => rs = .inl (some (.int ((t_word_s1 (M.1 1) (M.1 2)).1)), mrow M 1 ((t_word_s1 (M.1 1) (M.1 2)).2))) := ⟨_, rfl⟩
  rw [← hQ]
  refine G.sl [(.aload_n 0, 1, 0, 0, 0, 0)] [] (pc2 := 1) (ls2 := [some (.ref 1), some (.ref 1001), none, none]) (st2 := [.ref 1]) (M2 := M) (Ps := []) (by decide +kernel) rfl rfl trivial ?_
  obtain ⟨k1, hk⟩ := hk
  rcases g2 : t_next (M.1 1) (M.1 2) with ⟨v3, r4⟩
  try simp only [g2] at hk
  have t5 : GM z mX6_next (d + 4) [.ref 1] M (fun rs => rs = .inl (some (.int v3), mrow M 1 r4)) := by
    have q9 := c_t_next_1 z (d + 4) M k1
    try simp only [mput, mrow_same, mrow_hit, mrow_miss, mrow_sw, idr_eq, ne_eq, Nat.reduceEqDiff, not_false_eq_true, Nat.reduceLT, reduceCtorEq, g2] at q9
    exact q9
  refine G.callV (as := []) (rest := []) (a := 1) oX6_next lk_EvenFinders_Tape_43 (by decide +kernel) rfl rfl ⟨rfl, rfl⟩ (Nat.le_of_ble_eq_true rfl) rfl ⟨Nat.le_of_ble_eq_true rfl, Nat.le_of_ble_eq_true rfl⟩ t5 (fun v9 N9 h6 => ?_) (fun E9 N9 h6 => by cases h6)
  cases h6
  show G z mX6_word (d + 5) 0 0 4 [some (.ref 1), some (.ref 1001), none, none] [.int v3] (mrow M 1 r4) Q
  refine G.sl [(.pop, 1, 0, 0, 0, 0), (.aload_n 0, 1, 0, 0, 0, 0), (.getfield 37, 3, 5, 2, 3, 0)] [] (pc2 := 9) (ls2 := [some (.ref 1), some (.ref 1001), none, none]) (st2 := [.int (r4 2)]) (M2 := mrow M 1 r4) (Ps := []) (by decide +kernel) rfl rfl trivial ?_
  refine G.if_eq (off := (5)) (tgt := 14) (by decide +kernel) rfl (fun c7 => ?_) (fun c7 => ?_)
  · skip
    rw [if_pos c7] at hk
    refine G.sl [(.aload_n 0, 1, 0, 0, 0, 0), (.getfield 34, 3, 5, 6, 13, 0), (.istore_n 2, 1, 2, 0, 0, 0)] [] (pc2 := 19) (ls2 := [some (.ref 1), some (.ref 1001), some (.int (r4 6)), none]) (st2 := []) (M2 := mrow M 1 r4) (Ps := []) (by decide +kernel) rfl rfl trivial ?_
    obtain ⟨k13, hk⟩ := hk
    refine lp_t_word_s1_1_19 z d (mrow M 1 r4) Q FU (r4 6) (by first | (simp only [mput, mrow_same, mrow_hit, mrow_miss, mrow_sw, idr_eq, ne_eq, Nat.reduceEqDiff, not_false_eq_true, Nat.reduceLT, reduceCtorEq]; exact k13) | exact k13) ?_
    try simp only [mput, mrow_same, mrow_hit, mrow_miss, mrow_sw, idr_eq, ne_eq, Nat.reduceEqDiff, not_false_eq_true, Nat.reduceLT, reduceCtorEq]
    show G z mX6_word (d + 5) 0 0 55 [some (.ref 1), some (.ref 1001), some (.int (t_word_s1_19 r4 (M.1 2) FU (r4 6))), none] [] (mrow M 1 r4) Q
    refine G.sl [(.aload_n 0, 1, 0, 0, 0, 0), (.aload_n 1, 1, 1, 0, 0, 0), (.iload_n 2, 1, 2, 0, 0, 0)] [] (pc2 := 58) (ls2 := [some (.ref 1), some (.ref 1001), some (.int (t_word_s1_19 r4 (M.1 2) FU (r4 6))), none]) (st2 := [.int (t_word_s1_19 r4 (M.1 2) FU (r4 6)), .ref 1001, .ref 1]) (M2 := mrow M 1 r4) (Ps := []) (by decide +kernel) rfl rfl trivial ?_
    obtain ⟨k14, hk⟩ := hk
    have t15 : GM z mX6_indexIn (d + 4) [.ref 1, .ref 1001, .int (t_word_s1_19 r4 (M.1 2) FU (r4 6))] (mrow M 1 r4) (fun rs => rs = .inl (some (.int (t_indexIn_s1 r4 (M.1 2) (t_word_s1_19 r4 (M.1 2) FU (r4 6)))), mrow M 1 r4)) := by
      have q9 := c_t_indexIn_s1_1 z d (mrow M 1 r4) (t_word_s1_19 r4 (M.1 2) FU (r4 6)) k14
      try simp only [mput, mrow_same, mrow_hit, mrow_miss, mrow_sw, idr_eq, ne_eq, Nat.reduceEqDiff, not_false_eq_true, Nat.reduceLT, reduceCtorEq] at q9
      exact q9
    refine G.callV (as := [.ref 1001, .int (t_word_s1_19 r4 (M.1 2) FU (r4 6))]) (rest := []) (a := 1) oX6_indexIn lk_EvenFinders_Tape_59 (by decide +kernel) rfl rfl ⟨rfl, rfl⟩ (Nat.le_of_ble_eq_true rfl) rfl ⟨Nat.le_of_ble_eq_true rfl, Nat.le_of_ble_eq_true rfl⟩ t15 (fun v9 N9 h16 => ?_) (fun E9 N9 h16 => by cases h16)
    cases h16
    show G z mX6_word (d + 5) 0 0 61 [some (.ref 1), some (.ref 1001), some (.int (t_word_s1_19 r4 (M.1 2) FU (r4 6))), none] [.int (t_indexIn_s1 r4 (M.1 2) (t_word_s1_19 r4 (M.1 2) FU (r4 6)))] (mrow M 1 r4) Q
    refine G.sl [(.istore_n 3, 1, 3, 0, 0, 0), (.iload_n 3, 1, 3, 0, 0, 0), (.iconst (-1), 1, 0, 0, 0, (-1))] [] (pc2 := 64) (ls2 := [some (.ref 1), some (.ref 1001), some (.int (t_word_s1_19 r4 (M.1 2) FU (r4 6))), some (.int (t_indexIn_s1 r4 (M.1 2) (t_word_s1_19 r4 (M.1 2) FU (r4 6))))]) (st2 := [.int ((-1)), .int (t_indexIn_s1 r4 (M.1 2) (t_word_s1_19 r4 (M.1 2) FU (r4 6)))]) (M2 := mrow M 1 r4) (Ps := []) (by decide +kernel) rfl rfl trivial ?_
    refine G.ic_ne (off := (15)) (tgt := 79) (by decide +kernel) rfl (fun c17 => ?_) (fun c17 => ?_)
    · skip
      refine G.sl [(.aload_n 0, 1, 0, 0, 0, 0), (.iload_n 2, 1, 2, 0, 0, 0), (.putfield 34, 3, 5, 6, 13, 0), (.iload_n 3, 1, 3, 0, 0, 0)] [] (pc2 := 85) (ls2 := [some (.ref 1), some (.ref 1001), some (.int (t_word_s1_19 r4 (M.1 2) FU (r4 6))), some (.int (t_indexIn_s1 r4 (M.1 2) (t_word_s1_19 r4 (M.1 2) FU (r4 6))))]) (st2 := [.int (t_indexIn_s1 r4 (M.1 2) (t_word_s1_19 r4 (M.1 2) FU (r4 6)))]) (M2 := mput (mrow M 1 r4) 1 6 (t_word_s1_19 r4 (M.1 2) FU (r4 6))) (Ps := []) (by decide +kernel) rfl rfl trivial ?_
      refine G.mem (M' := mrow M 1 (upd r4 6 (t_word_s1_19 r4 (M.1 2) FU (r4 6)))) (by first | rfl | (simp only [mput, mrow_same, mrow_hit, mrow_miss, mrow_sw, idr_eq, ne_eq, Nat.reduceEqDiff, not_false_eq_true, Nat.reduceLT, reduceCtorEq]; done)) ?_
      exact G.reti (by decide +kernel) rfl rfl (Nat.le_of_ble_eq_true rfl) (Nat.le_of_ble_eq_true rfl) ((by rw [hQ]; simp only [t_word_s1, g2, if_pos c7, if_neg c17, mrow_self]))
    · skip
      refine G.sl [(.aload_n 0, 1, 0, 0, 0, 0), (.iconst 1, 1, 0, 0, 0, nI 1), (.aload_n 0, 1, 0, 0, 0, 0), (.getfield 40, 3, 5, 4, 7, 0)] [] (pc2 := 73) (ls2 := [some (.ref 1), some (.ref 1001), some (.int (t_word_s1_19 r4 (M.1 2) FU (r4 6))), some (.int (t_indexIn_s1 r4 (M.1 2) (t_word_s1_19 r4 (M.1 2) FU (r4 6))))]) (st2 := [.int (r4 4), .int (nI 1), .ref 1]) (M2 := mrow M 1 r4) (Ps := []) (by decide +kernel) rfl rfl trivial ?_
      rcases g19 : t_fail r4 (nI 1) (r4 4) with ⟨u20, r21⟩
      have t22 : GM z mX6_fail (d + 4) [.ref 1, .int (nI 1), .int (r4 4)] (mrow M 1 r4) (fun rs => rs = .inl (none, mrow M 1 r21)) := by
        have q9 := c_t_fail_1 z (d + 4) (mrow M 1 r4) (nI 1) (r4 4)
        try simp only [mput, mrow_same, mrow_hit, mrow_miss, mrow_sw, idr_eq, ne_eq, Nat.reduceEqDiff, not_false_eq_true, Nat.reduceLT, reduceCtorEq, g19] at q9
        exact q9
      refine G.callV (as := [.int (nI 1), .int (r4 4)]) (rest := []) (a := 1) oX6_fail lk_EvenFinders_Tape_51 (by decide +kernel) rfl rfl ⟨rfl, rfl⟩ (Nat.le_of_ble_eq_true rfl) rfl ⟨Nat.le_of_ble_eq_true rfl, Nat.le_of_ble_eq_true rfl⟩ t22 (fun v9 N9 h23 => ?_) (fun E9 N9 h23 => by cases h23)
      cases h23
      show G z mX6_word (d + 5) 0 0 76 [some (.ref 1), some (.ref 1001), some (.int (t_word_s1_19 r4 (M.1 2) FU (r4 6))), some (.int (t_indexIn_s1 r4 (M.1 2) (t_word_s1_19 r4 (M.1 2) FU (r4 6))))] [] (mrow M 1 r21) Q
      refine G.sl [(.goto 8, 3, 84, 0, 0, 0), (.iload_n 3, 1, 3, 0, 0, 0)] [] (pc2 := 85) (ls2 := [some (.ref 1), some (.ref 1001), some (.int (t_word_s1_19 r4 (M.1 2) FU (r4 6))), some (.int (t_indexIn_s1 r4 (M.1 2) (t_word_s1_19 r4 (M.1 2) FU (r4 6))))]) (st2 := [.int (t_indexIn_s1 r4 (M.1 2) (t_word_s1_19 r4 (M.1 2) FU (r4 6)))]) (M2 := mrow M 1 r21) (Ps := []) (by decide +kernel) rfl rfl trivial ?_
      exact G.reti (by decide +kernel) rfl rfl (Nat.le_of_ble_eq_true rfl) (Nat.le_of_ble_eq_true rfl) ((by rw [hQ]; simp only [t_word_s1, g2, if_pos c7, if_pos c17, g19, mrow_self]))
  · skip
    rw [if_neg c7] at hk
    refine G.sl [(.iconst (-1), 1, 0, 0, 0, (-1))] [] (pc2 := 13) (ls2 := [some (.ref 1), some (.ref 1001), none, none]) (st2 := [.int ((-1))]) (M2 := mrow M 1 r4) (Ps := []) (by decide +kernel) rfl rfl trivial ?_
    exact G.reti (by decide +kernel) rfl rfl (Nat.le_of_ble_eq_true rfl) (Nat.le_of_ble_eq_true rfl) ((by rw [hQ]; simp only [t_word_s1, g2, if_neg c7, mrow_self]))
noncomputable def v_readFrom_22 (Rbytes : Nat → Int32) : Nat → Nat → (Nat → Int32) → (Nat → Int32) → (Nat → Int32) → (Nat → Int32) → (Nat → Int32) → (Nat → Int32) → (Nat → Int32) → (Nat → Int32) → (Nat → Int32) → (Nat → Int32) × (Nat → Int32) × (Nat → Int32) × (Nat → Int32) × (Nat → Int32) × (Nat → Int32) × (Nat → Int32) × (Nat → Int32) × (Nat → Int32)
  | 0, _, q1, q12, q13, q14, q15, q16, q17, q18, q19 => (q1, q12, q13, q14, q15, q16, q17, q18, q19)
  | k0 + 1, i2, q1, q12, q13, q14, q15, q16, q17, q18, q19 => (match t_next q1 (Rbytes) with | (v3, r4) => (if v3 = ((-1)) then (r4, q12, q13, q14, q15, q16, q17, q18, q19) else (match t_word_s1 r4 (Rbytes) with | (v10, r11) => (if v10 = ((-1)) then (match v_readClause r11 (Rbytes) q12 q13 q14 q15 q16 q17 q18 q19 v10 with | (u17, r18, r19, r20, r21, r22, r23, r24, r25, r26) => (match t_needSign r18 (Rbytes) (nI 59) with | (u31, r32) => v_readFrom_22 Rbytes k0 (i2 + 1) r32 r19 r20 r21 r22 r23 r24 r25 r26)) else (if (nI i2) = (nI 60) then (match t_fail r11 (nI 3) (r11 4) with | (u38, r39) => (match v_readClause r39 (Rbytes) q12 q13 q14 q15 q16 q17 q18 q19 v10 with | (u44, r45, r46, r47, r48, r49, r50, r51, r52, r53) => (match t_needSign r45 (Rbytes) (nI 59) with | (u58, r59) => v_readFrom_22 Rbytes k0 (i2 + 1) r59 r46 r47 r48 r49 r50 r51 r52 r53))) else (if (v_isFull q12 v10) = 0 then (match v_readClause r11 (Rbytes) q12 q13 q14 q15 q16 q17 q18 q19 v10 with | (u68, r69, r70, r71, r72, r73, r74, r75, r76, r77) => (match t_needSign r69 (Rbytes) (nI 59) with | (u82, r83) => v_readFrom_22 Rbytes k0 (i2 + 1) r83 r70 r71 r72 r73 r74 r75 r76 r77)) else (match t_fail r11 (nI 3) (r11 4) with | (u88, r89) => (match v_readClause r89 (Rbytes) q12 q13 q14 q15 q16 q17 q18 q19 v10 with | (u94, r95, r96, r97, r98, r99, r100, r101, r102, r103) => (match t_needSign r95 (Rbytes) (nI 59) with | (u108, r109) => v_readFrom_22 Rbytes k0 (i2 + 1) r109 r96 r97 r98 r99 r100 r101 r102 r103)))))))))
noncomputable def v_readFrom_22_ok (Rbytes : Nat → Int32) : Nat → Nat → (Nat → Int32) → (Nat → Int32) → (Nat → Int32) → (Nat → Int32) → (Nat → Int32) → (Nat → Int32) → (Nat → Int32) → (Nat → Int32) → (Nat → Int32) → Prop
  | 0, _, _, _, _, _, _, _, _, _, _ => True
  | k0 + 1, i2, q1, q12, q13, q14, q15, q16, q17, q18, q19 => (t_next_ok q1 (Rbytes) ∧ (match t_next q1 (Rbytes) with | (v3, r4) => (if v3 = ((-1)) then True else (t_word_s1_ok r4 (Rbytes) ∧ (match t_word_s1 r4 (Rbytes) with | (v10, r11) => (if v10 = ((-1)) then (v_readClause_ok r11 (Rbytes) q12 q13 q14 q15 q16 q17 q18 q19 v10 ∧ (match v_readClause r11 (Rbytes) q12 q13 q14 q15 q16 q17 q18 q19 v10 with | (u17, r18, r19, r20, r21, r22, r23, r24, r25, r26) => (t_needSign_ok r18 (Rbytes) (nI 59) ∧ (match t_needSign r18 (Rbytes) (nI 59) with | (u31, r32) => v_readFrom_22_ok Rbytes k0 (i2 + 1) r32 r19 r20 r21 r22 r23 r24 r25 r26)))) else (if (nI i2) = (nI 60) then (True ∧ (match t_fail r11 (nI 3) (r11 4) with | (u38, r39) => (v_readClause_ok r39 (Rbytes) q12 q13 q14 q15 q16 q17 q18 q19 v10 ∧ (match v_readClause r39 (Rbytes) q12 q13 q14 q15 q16 q17 q18 q19 v10 with | (u44, r45, r46, r47, r48, r49, r50, r51, r52, r53) => (t_needSign_ok r45 (Rbytes) (nI 59) ∧ (match t_needSign r45 (Rbytes) (nI 59) with | (u58, r59) => v_readFrom_22_ok Rbytes k0 (i2 + 1) r59 r46 r47 r48 r49 r50 r51 r52 r53)))))) else (True ∧ (if (v_isFull q12 v10) = 0 then (v_readClause_ok r11 (Rbytes) q12 q13 q14 q15 q16 q17 q18 q19 v10 ∧ (match v_readClause r11 (Rbytes) q12 q13 q14 q15 q16 q17 q18 q19 v10 with | (u68, r69, r70, r71, r72, r73, r74, r75, r76, r77) => (t_needSign_ok r69 (Rbytes) (nI 59) ∧ (match t_needSign r69 (Rbytes) (nI 59) with | (u82, r83) => v_readFrom_22_ok Rbytes k0 (i2 + 1) r83 r70 r71 r72 r73 r74 r75 r76 r77)))) else (True ∧ (match t_fail r11 (nI 3) (r11 4) with | (u88, r89) => (v_readClause_ok r89 (Rbytes) q12 q13 q14 q15 q16 q17 q18 q19 v10 ∧ (match v_readClause r89 (Rbytes) q12 q13 q14 q15 q16 q17 q18 q19 v10 with | (u94, r95, r96, r97, r98, r99, r100, r101, r102, r103) => (t_needSign_ok r95 (Rbytes) (nI 59) ∧ (match t_needSign r95 (Rbytes) (nI 59) with | (u108, r109) => v_readFrom_22_ok Rbytes k0 (i2 + 1) r109 r96 r97 r98 r99 r100 r101 r102 r103)))))))))))))))
set_option maxHeartbeats 4000000 in
set_option maxRecDepth 3000 in
theorem lp_v_readFrom_12_1_22 (z : Zp) (d : Nat) (M : Mem) (Q : Rs → Prop) (nn : Nat) (hnn : nn = 61) : ∀ (k0 : Nat) (i2 : Nat) (q1 : (Nat → Int32)) (q12 : (Nat → Int32)) (q13 : (Nat → Int32)) (q14 : (Nat → Int32)) (q15 : (Nat → Int32)) (q16 : (Nat → Int32)) (q17 : (Nat → Int32)) (q18 : (Nat → Int32)) (q19 : (Nat → Int32)), i2 + k0 = nn → v_readFrom_22_ok (M.1 2) k0 i2 q1 q12 q13 q14 q15 q16 q17 q18 q19 → (match v_readFrom_22 (M.1 2) k0 i2 q1 q12 q13 q14 q15 q16 q17 q18 q19 with | (q1', q12', q13', q14', q15', q16', q17', q18', q19') => G z mX7_readFrom (d + 6) 0 0 89 [none, none, none, none] [] (mrow (mrow (mrow (mrow (mrow (mrow (mrow (mrow (mrow M 1 (q1')) 12 (q12')) 13 (q13')) 14 (q14')) 15 (q15')) 16 (q16')) 17 (q17')) 18 (q18')) 19 (q19')) Q) → G z mX7_readFrom (d + 6) 0 0 22 [some (.ref 12), some (.ref 1), some (.int (nI i2)), none] [] (mrow (mrow (mrow (mrow (mrow (mrow (mrow (mrow (mrow M 1 q1) 12 q12) 13 q13) 14 q14) 15 q15) 16 q16) 17 q17) 18 q18) 19 q19) Q := by
  intro k0
  induction k0 with
  | zero =>
      intro i2 q1 q12 q13 q14 q15 q16 q17 q18 q19 hn hk hX
      refine G.sl [(.iload_n 2, 1, 2, 0, 0, 0), (.bipush 60, 2, 0, 0, 0, nI 60)] [] (pc2 := 25) (ls2 := [some (.ref 12), some (.ref 1), some (.int (nI i2)), none]) (st2 := [.int (nI 60), .int (nI i2)]) (M2 := mrow (mrow (mrow (mrow (mrow (mrow (mrow (mrow (mrow M 1 q1) 12 q12) 13 q13) 14 q14) 15 q15) 16 q16) 17 q17) 18 q18) 19 q19) (Ps := []) (by decide +kernel) rfl rfl trivial ?_
      refine G.ic_gt (off := (64)) (tgt := 89) (by decide +kernel) rfl (fun _ => ?_) (fun h9 => absurd (nI_lt (by omega) (by omega)) h9)
      refine G.loc (ls2 := [none, none, none, none]) (by simp [subL]) ?_
      simp only [v_readFrom_22] at hX
      exact hX
  | succ k0 ih =>
      intro i2 q1 q12 q13 q14 q15 q16 q17 q18 q19 hn hk hX
      simp only [v_readFrom_22_ok] at hk
      refine G.sl [(.iload_n 2, 1, 2, 0, 0, 0), (.bipush 60, 2, 0, 0, 0, nI 60)] [] (pc2 := 25) (ls2 := [some (.ref 12), some (.ref 1), some (.int (nI i2)), none]) (st2 := [.int (nI 60), .int (nI i2)]) (M2 := mrow (mrow (mrow (mrow (mrow (mrow (mrow (mrow (mrow M 1 q1) 12 q12) 13 q13) 14 q14) 15 q15) 16 q16) 17 q17) 18 q18) 19 q19) (Ps := []) (by decide +kernel) rfl rfl trivial ?_
      refine G.ic_gt (off := (64)) (tgt := 89) (by decide +kernel) rfl (fun h9 => absurd h9 (nI_nlt (by omega) (by omega))) (fun _ => ?_)
      refine G.sl [(.aload_n 1, 1, 1, 0, 0, 0)] [] (pc2 := 29) (ls2 := [some (.ref 12), some (.ref 1), some (.int (nI i2)), none]) (st2 := [.ref 1]) (M2 := mrow (mrow (mrow (mrow (mrow (mrow (mrow (mrow (mrow M 1 q1) 12 q12) 13 q13) 14 q14) 15 q15) 16 q16) 17 q17) 18 q18) 19 q19) (Ps := []) (by decide +kernel) rfl rfl trivial ?_
      obtain ⟨k1, hk⟩ := hk
      rcases g2 : t_next q1 (M.1 2) with ⟨v3, r4⟩
      try simp only [g2] at hk
      have t5 : GM z mX6_next (d + 5) [.ref 1] (mrow (mrow (mrow (mrow (mrow (mrow (mrow (mrow (mrow M 1 q1) 12 q12) 13 q13) 14 q14) 15 q15) 16 q16) 17 q17) 18 q18) 19 q19) (fun rs => rs = .inl (some (.int v3), mrow (mrow (mrow (mrow (mrow (mrow (mrow (mrow (mrow M 1 r4) 12 q12) 13 q13) 14 q14) 15 q15) 16 q16) 17 q17) 18 q18) 19 q19)) := by
        have q9 := c_t_next_1 z (d + 5) (mrow (mrow (mrow (mrow (mrow (mrow (mrow (mrow (mrow M 1 q1) 12 q12) 13 q13) 14 q14) 15 q15) 16 q16) 17 q17) 18 q18) 19 q19) k1
        try simp only [mput, mrow_same, mrow_hit, mrow_miss, mrow_sw, idr_eq, ne_eq, Nat.reduceEqDiff, not_false_eq_true, Nat.reduceLT, reduceCtorEq, g2] at q9
        exact q9
      refine G.callV (as := []) (rest := []) (a := 1) oX6_next lk_EvenFinders_Town_58 (by decide +kernel) rfl rfl ⟨rfl, rfl⟩ (Nat.le_of_ble_eq_true rfl) rfl ⟨Nat.le_of_ble_eq_true rfl, Nat.le_of_ble_eq_true rfl⟩ t5 (fun v9 N9 h6 => ?_) (fun E9 N9 h6 => by cases h6)
      cases h6
      show G z mX7_readFrom (d + 6) 0 0 32 [some (.ref 12), some (.ref 1), some (.int (nI i2)), none] [.int v3] (mrow (mrow (mrow (mrow (mrow (mrow (mrow (mrow (mrow M 1 r4) 12 q12) 13 q13) 14 q14) 15 q15) 16 q16) 17 q17) 18 q18) 19 q19) Q
      refine G.sl [(.iconst (-1), 1, 0, 0, 0, (-1))] [] (pc2 := 33) (ls2 := [some (.ref 12), some (.ref 1), some (.int (nI i2)), none]) (st2 := [.int ((-1)), .int v3]) (M2 := mrow (mrow (mrow (mrow (mrow (mrow (mrow (mrow (mrow M 1 r4) 12 q12) 13 q13) 14 q14) 15 q15) 16 q16) 17 q17) 18 q18) 19 q19) (Ps := []) (by decide +kernel) rfl rfl trivial ?_
      refine G.ic_eq (off := (56)) (tgt := 89) (by decide +kernel) rfl (fun c7 => ?_) (fun c7 => ?_)
      · skip
        rw [if_pos c7] at hk
        refine G.loc (ls2 := [none, none, none, none]) (by simp [subL]) ?_
        simp only [v_readFrom_22, g2, if_pos c7] at hX
        exact hX
      · skip
        rw [if_neg c7] at hk
        refine G.sl [(.aload_n 1, 1, 1, 0, 0, 0), (.ldc 64, 2, 1, 1, 0, 0)] [] (pc2 := 39) (ls2 := [some (.ref 12), some (.ref 1), some (.int (nI i2)), none]) (st2 := [.ref 1001, .ref 1]) (M2 := mrow (mrow (mrow (mrow (mrow (mrow (mrow (mrow (mrow M 1 r4) 12 q12) 13 q13) 14 q14) 15 q15) 16 q16) 17 q17) 18 q18) 19 q19) (Ps := []) (by decide +kernel) rfl rfl trivial ?_
        obtain ⟨k8, hk⟩ := hk
        rcases g9 : t_word_s1 r4 (M.1 2) with ⟨v10, r11⟩
        try simp only [g9] at hk
        have t12 : GM z mX6_word (d + 5) [.ref 1, .ref 1001] (mrow (mrow (mrow (mrow (mrow (mrow (mrow (mrow (mrow M 1 r4) 12 q12) 13 q13) 14 q14) 15 q15) 16 q16) 17 q17) 18 q18) 19 q19) (fun rs => rs = .inl (some (.int v10), mrow (mrow (mrow (mrow (mrow (mrow (mrow (mrow (mrow M 1 r11) 12 q12) 13 q13) 14 q14) 15 q15) 16 q16) 17 q17) 18 q18) 19 q19)) := by
          have q9 := c_t_word_s1_1 z d (mrow (mrow (mrow (mrow (mrow (mrow (mrow (mrow (mrow M 1 r4) 12 q12) 13 q13) 14 q14) 15 q15) 16 q16) 17 q17) 18 q18) 19 q19) k8
          try simp only [mput, mrow_same, mrow_hit, mrow_miss, mrow_sw, idr_eq, ne_eq, Nat.reduceEqDiff, not_false_eq_true, Nat.reduceLT, reduceCtorEq, g9] at q9
          exact q9
        refine G.callV (as := [.ref 1001]) (rest := []) (a := 1) oX6_word lk_EvenFinders_Town_66 (by decide +kernel) rfl rfl ⟨rfl, rfl⟩ (Nat.le_of_ble_eq_true rfl) rfl ⟨Nat.le_of_ble_eq_true rfl, Nat.le_of_ble_eq_true rfl⟩ t12 (fun v9 N9 h13 => ?_) (fun E9 N9 h13 => by cases h13)
        cases h13
        show G z mX7_readFrom (d + 6) 0 0 42 [some (.ref 12), some (.ref 1), some (.int (nI i2)), none] [.int v10] (mrow (mrow (mrow (mrow (mrow (mrow (mrow (mrow (mrow M 1 r11) 12 q12) 13 q13) 14 q14) 15 q15) 16 q16) 17 q17) 18 q18) 19 q19) Q
        refine G.sl [(.istore_n 3, 1, 3, 0, 0, 0), (.iload_n 3, 1, 3, 0, 0, 0), (.iconst (-1), 1, 0, 0, 0, (-1))] [] (pc2 := 45) (ls2 := [some (.ref 12), some (.ref 1), some (.int (nI i2)), some (.int v10)]) (st2 := [.int ((-1)), .int v10]) (M2 := mrow (mrow (mrow (mrow (mrow (mrow (mrow (mrow (mrow M 1 r11) 12 q12) 13 q13) 14 q14) 15 q15) 16 q16) 17 q17) 18 q18) 19 q19) (Ps := []) (by decide +kernel) rfl rfl trivial ?_
        refine G.ic_eq (off := (26)) (tgt := 71) (by decide +kernel) rfl (fun c14 => ?_) (fun c14 => ?_)
        · skip
          rw [if_pos c14] at hk
          refine G.sl [(.aload_n 0, 1, 0, 0, 0, 0), (.aload_n 1, 1, 1, 0, 0, 0), (.iload_n 3, 1, 3, 0, 0, 0)] [] (pc2 := 74) (ls2 := [some (.ref 12), some (.ref 1), some (.int (nI i2)), some (.int v10)]) (st2 := [.int v10, .ref 1, .ref 12]) (M2 := mrow (mrow (mrow (mrow (mrow (mrow (mrow (mrow (mrow M 1 r11) 12 q12) 13 q13) 14 q14) 15 q15) 16 q16) 17 q17) 18 q18) 19 q19) (Ps := []) (by decide +kernel) rfl rfl trivial ?_
          obtain ⟨k15, hk⟩ := hk
          rcases g16 : v_readClause r11 (M.1 2) q12 q13 q14 q15 q16 q17 q18 q19 v10 with ⟨u17, r18, r19, r20, r21, r22, r23, r24, r25, r26⟩
          try simp only [g16] at hk
          have t27 : GM z mX7_readClause (d + 5) [.ref 12, .ref 1, .int v10] (mrow (mrow (mrow (mrow (mrow (mrow (mrow (mrow (mrow M 1 r11) 12 q12) 13 q13) 14 q14) 15 q15) 16 q16) 17 q17) 18 q18) 19 q19) (fun rs => rs = .inl (none, mrow (mrow (mrow (mrow (mrow (mrow (mrow (mrow (mrow M 1 r18) 12 r19) 13 r20) 14 r21) 15 r22) 16 r23) 17 r24) 18 r25) 19 r26)) := by
            have q9 := c_v_readClause_12_1 z (d + 2) (mrow (mrow (mrow (mrow (mrow (mrow (mrow (mrow (mrow M 1 r11) 12 q12) 13 q13) 14 q14) 15 q15) 16 q16) 17 q17) 18 q18) 19 q19) v10 k15
            try simp only [mput, mrow_same, mrow_hit, mrow_miss, mrow_sw, idr_eq, ne_eq, Nat.reduceEqDiff, not_false_eq_true, Nat.reduceLT, reduceCtorEq, g16] at q9
            exact q9
          refine G.callV (as := [.ref 1, .int v10]) (rest := []) (a := 12) oX7_readClause lk_EvenFinders_Town_81 (by decide +kernel) rfl rfl ⟨rfl, rfl⟩ (Nat.le_of_ble_eq_true rfl) rfl ⟨Nat.le_of_ble_eq_true rfl, Nat.le_of_ble_eq_true rfl⟩ t27 (fun v9 N9 h28 => ?_) (fun E9 N9 h28 => by cases h28)
          cases h28
          show G z mX7_readFrom (d + 6) 0 0 77 [some (.ref 12), some (.ref 1), some (.int (nI i2)), some (.int v10)] [] (mrow (mrow (mrow (mrow (mrow (mrow (mrow (mrow (mrow M 1 r18) 12 r19) 13 r20) 14 r21) 15 r22) 16 r23) 17 r24) 18 r25) 19 r26) Q
          refine G.sl [(.aload_n 1, 1, 1, 0, 0, 0), (.bipush 59, 2, 0, 0, 0, nI 59)] [] (pc2 := 80) (ls2 := [some (.ref 12), some (.ref 1), some (.int (nI i2)), some (.int v10)]) (st2 := [.int (nI 59), .ref 1]) (M2 := mrow (mrow (mrow (mrow (mrow (mrow (mrow (mrow (mrow M 1 r18) 12 r19) 13 r20) 14 r21) 15 r22) 16 r23) 17 r24) 18 r25) 19 r26) (Ps := []) (by decide +kernel) rfl rfl trivial ?_
          obtain ⟨k29, hk⟩ := hk
          rcases g30 : t_needSign r18 (M.1 2) (nI 59) with ⟨u31, r32⟩
          try simp only [g30] at hk
          have t33 : GM z mX6_needSign (d + 5) [.ref 1, .int (nI 59)] (mrow (mrow (mrow (mrow (mrow (mrow (mrow (mrow (mrow M 1 r18) 12 r19) 13 r20) 14 r21) 15 r22) 16 r23) 17 r24) 18 r25) 19 r26) (fun rs => rs = .inl (none, mrow (mrow (mrow (mrow (mrow (mrow (mrow (mrow (mrow M 1 r32) 12 r19) 13 r20) 14 r21) 15 r22) 16 r23) 17 r24) 18 r25) 19 r26)) := by
            have q9 := c_t_needSign_1 z (d + 3) (mrow (mrow (mrow (mrow (mrow (mrow (mrow (mrow (mrow M 1 r18) 12 r19) 13 r20) 14 r21) 15 r22) 16 r23) 17 r24) 18 r25) 19 r26) (nI 59) k29
            try simp only [mput, mrow_same, mrow_hit, mrow_miss, mrow_sw, idr_eq, ne_eq, Nat.reduceEqDiff, not_false_eq_true, Nat.reduceLT, reduceCtorEq, g30] at q9
            exact q9
          refine G.callV (as := [.int (nI 59)]) (rest := []) (a := 1) oX6_needSign lk_EvenFinders_Town_85 (by decide +kernel) rfl rfl ⟨rfl, rfl⟩ (Nat.le_of_ble_eq_true rfl) rfl ⟨Nat.le_of_ble_eq_true rfl, Nat.le_of_ble_eq_true rfl⟩ t33 (fun v9 N9 h34 => ?_) (fun E9 N9 h34 => by cases h34)
          cases h34
          show G z mX7_readFrom (d + 6) 0 0 83 [some (.ref 12), some (.ref 1), some (.int (nI i2)), some (.int v10)] [] (mrow (mrow (mrow (mrow (mrow (mrow (mrow (mrow (mrow M 1 r32) 12 r19) 13 r20) 14 r21) 15 r22) 16 r23) 17 r24) 18 r25) 19 r26) Q
          refine G.sl [(.iinc 2 1, 3, 2, 0, 0, nI 1), (.goto (-64), 3, 22, 0, 0, 0)] [] (pc2 := 22) (ls2 := [some (.ref 12), some (.ref 1), some (.int ((nI i2) + nI 1)), some (.int v10)]) (st2 := []) (M2 := mrow (mrow (mrow (mrow (mrow (mrow (mrow (mrow (mrow M 1 r32) 12 r19) 13 r20) 14 r21) 15 r22) 16 r23) 17 r24) 18 r25) 19 r26) (Ps := []) (by decide +kernel) rfl rfl trivial ?_
          refine G.loc (ls2 := [some (.ref 12), some (.ref 1), some (.int ((nI i2) + nI 1)), none]) (by simp [subL]) ?_
          rw [nI_add i2 1]
          simp only [v_readFrom_22, g2, if_neg c7, g9, if_pos c14, g16, g30] at hX
          exact ih (i2 + 1) r32 r19 r20 r21 r22 r23 r24 r25 r26 (by omega) hk hX
        · skip
          rw [if_neg c14] at hk
          refine G.sl [(.iload_n 2, 1, 2, 0, 0, 0), (.bipush 60, 2, 0, 0, 0, nI 60)] [] (pc2 := 51) (ls2 := [some (.ref 12), some (.ref 1), some (.int (nI i2)), some (.int v10)]) (st2 := [.int (nI 60), .int (nI i2)]) (M2 := mrow (mrow (mrow (mrow (mrow (mrow (mrow (mrow (mrow M 1 r11) 12 q12) 13 q13) 14 q14) 15 q15) 16 q16) 17 q17) 18 q18) 19 q19) (Ps := []) (by decide +kernel) rfl rfl trivial ?_
          refine G.ic_eq (off := (11)) (tgt := 62) (by decide +kernel) rfl (fun c35 => ?_) (fun c35 => ?_)
          · skip
            rw [if_pos c35] at hk
            refine G.sl [(.aload_n 1, 1, 1, 0, 0, 0), (.iconst 3, 1, 0, 0, 0, nI 3), (.aload_n 1, 1, 1, 0, 0, 0), (.getfield 74, 3, 5, 4, 8, 0)] [] (pc2 := 68) (ls2 := [some (.ref 12), some (.ref 1), some (.int (nI i2)), some (.int v10)]) (st2 := [.int (r11 4), .int (nI 3), .ref 1]) (M2 := mrow (mrow (mrow (mrow (mrow (mrow (mrow (mrow (mrow M 1 r11) 12 q12) 13 q13) 14 q14) 15 q15) 16 q16) 17 q17) 18 q18) 19 q19) (Ps := []) (by decide +kernel) rfl rfl trivial ?_
            obtain ⟨k36, hk⟩ := hk
            rcases g37 : t_fail r11 (nI 3) (r11 4) with ⟨u38, r39⟩
            try simp only [g37] at hk
            have t40 : GM z mX6_fail (d + 5) [.ref 1, .int (nI 3), .int (r11 4)] (mrow (mrow (mrow (mrow (mrow (mrow (mrow (mrow (mrow M 1 r11) 12 q12) 13 q13) 14 q14) 15 q15) 16 q16) 17 q17) 18 q18) 19 q19) (fun rs => rs = .inl (none, mrow (mrow (mrow (mrow (mrow (mrow (mrow (mrow (mrow M 1 r39) 12 q12) 13 q13) 14 q14) 15 q15) 16 q16) 17 q17) 18 q18) 19 q19)) := by
              have q9 := c_t_fail_1 z (d + 5) (mrow (mrow (mrow (mrow (mrow (mrow (mrow (mrow (mrow M 1 r11) 12 q12) 13 q13) 14 q14) 15 q15) 16 q16) 17 q17) 18 q18) 19 q19) (nI 3) (r11 4)
              try simp only [mput, mrow_same, mrow_hit, mrow_miss, mrow_sw, idr_eq, ne_eq, Nat.reduceEqDiff, not_false_eq_true, Nat.reduceLT, reduceCtorEq, g37] at q9
              exact q9
            refine G.callV (as := [.int (nI 3), .int (r11 4)]) (rest := []) (a := 1) oX6_fail lk_EvenFinders_Town_77 (by decide +kernel) rfl rfl ⟨rfl, rfl⟩ (Nat.le_of_ble_eq_true rfl) rfl ⟨Nat.le_of_ble_eq_true rfl, Nat.le_of_ble_eq_true rfl⟩ t40 (fun v9 N9 h41 => ?_) (fun E9 N9 h41 => by cases h41)
            cases h41
            show G z mX7_readFrom (d + 6) 0 0 71 [some (.ref 12), some (.ref 1), some (.int (nI i2)), some (.int v10)] [] (mrow (mrow (mrow (mrow (mrow (mrow (mrow (mrow (mrow M 1 r39) 12 q12) 13 q13) 14 q14) 15 q15) 16 q16) 17 q17) 18 q18) 19 q19) Q
            refine G.sl [(.aload_n 0, 1, 0, 0, 0, 0), (.aload_n 1, 1, 1, 0, 0, 0), (.iload_n 3, 1, 3, 0, 0, 0)] [] (pc2 := 74) (ls2 := [some (.ref 12), some (.ref 1), some (.int (nI i2)), some (.int v10)]) (st2 := [.int v10, .ref 1, .ref 12]) (M2 := mrow (mrow (mrow (mrow (mrow (mrow (mrow (mrow (mrow M 1 r39) 12 q12) 13 q13) 14 q14) 15 q15) 16 q16) 17 q17) 18 q18) 19 q19) (Ps := []) (by decide +kernel) rfl rfl trivial ?_
            obtain ⟨k42, hk⟩ := hk
            rcases g43 : v_readClause r39 (M.1 2) q12 q13 q14 q15 q16 q17 q18 q19 v10 with ⟨u44, r45, r46, r47, r48, r49, r50, r51, r52, r53⟩
            try simp only [g43] at hk
            have t54 : GM z mX7_readClause (d + 5) [.ref 12, .ref 1, .int v10] (mrow (mrow (mrow (mrow (mrow (mrow (mrow (mrow (mrow M 1 r39) 12 q12) 13 q13) 14 q14) 15 q15) 16 q16) 17 q17) 18 q18) 19 q19) (fun rs => rs = .inl (none, mrow (mrow (mrow (mrow (mrow (mrow (mrow (mrow (mrow M 1 r45) 12 r46) 13 r47) 14 r48) 15 r49) 16 r50) 17 r51) 18 r52) 19 r53)) := by
              have q9 := c_v_readClause_12_1 z (d + 2) (mrow (mrow (mrow (mrow (mrow (mrow (mrow (mrow (mrow M 1 r39) 12 q12) 13 q13) 14 q14) 15 q15) 16 q16) 17 q17) 18 q18) 19 q19) v10 k42
              try simp only [mput, mrow_same, mrow_hit, mrow_miss, mrow_sw, idr_eq, ne_eq, Nat.reduceEqDiff, not_false_eq_true, Nat.reduceLT, reduceCtorEq, g43] at q9
              exact q9
            refine G.callV (as := [.ref 1, .int v10]) (rest := []) (a := 12) oX7_readClause lk_EvenFinders_Town_81 (by decide +kernel) rfl rfl ⟨rfl, rfl⟩ (Nat.le_of_ble_eq_true rfl) rfl ⟨Nat.le_of_ble_eq_true rfl, Nat.le_of_ble_eq_true rfl⟩ t54 (fun v9 N9 h55 => ?_) (fun E9 N9 h55 => by cases h55)
            cases h55
            show G z mX7_readFrom (d + 6) 0 0 77 [some (.ref 12), some (.ref 1), some (.int (nI i2)), some (.int v10)] [] (mrow (mrow (mrow (mrow (mrow (mrow (mrow (mrow (mrow M 1 r45) 12 r46) 13 r47) 14 r48) 15 r49) 16 r50) 17 r51) 18 r52) 19 r53) Q
            refine G.sl [(.aload_n 1, 1, 1, 0, 0, 0), (.bipush 59, 2, 0, 0, 0, nI 59)] [] (pc2 := 80) (ls2 := [some (.ref 12), some (.ref 1), some (.int (nI i2)), some (.int v10)]) (st2 := [.int (nI 59), .ref 1]) (M2 := mrow (mrow (mrow (mrow (mrow (mrow (mrow (mrow (mrow M 1 r45) 12 r46) 13 r47) 14 r48) 15 r49) 16 r50) 17 r51) 18 r52) 19 r53) (Ps := []) (by decide +kernel) rfl rfl trivial ?_
            obtain ⟨k56, hk⟩ := hk
            rcases g57 : t_needSign r45 (M.1 2) (nI 59) with ⟨u58, r59⟩
            try simp only [g57] at hk
            have t60 : GM z mX6_needSign (d + 5) [.ref 1, .int (nI 59)] (mrow (mrow (mrow (mrow (mrow (mrow (mrow (mrow (mrow M 1 r45) 12 r46) 13 r47) 14 r48) 15 r49) 16 r50) 17 r51) 18 r52) 19 r53) (fun rs => rs = .inl (none, mrow (mrow (mrow (mrow (mrow (mrow (mrow (mrow (mrow M 1 r59) 12 r46) 13 r47) 14 r48) 15 r49) 16 r50) 17 r51) 18 r52) 19 r53)) := by
              have q9 := c_t_needSign_1 z (d + 3) (mrow (mrow (mrow (mrow (mrow (mrow (mrow (mrow (mrow M 1 r45) 12 r46) 13 r47) 14 r48) 15 r49) 16 r50) 17 r51) 18 r52) 19 r53) (nI 59) k56
              try simp only [mput, mrow_same, mrow_hit, mrow_miss, mrow_sw, idr_eq, ne_eq, Nat.reduceEqDiff, not_false_eq_true, Nat.reduceLT, reduceCtorEq, g57] at q9
              exact q9
            refine G.callV (as := [.int (nI 59)]) (rest := []) (a := 1) oX6_needSign lk_EvenFinders_Town_85 (by decide +kernel) rfl rfl ⟨rfl, rfl⟩ (Nat.le_of_ble_eq_true rfl) rfl ⟨Nat.le_of_ble_eq_true rfl, Nat.le_of_ble_eq_true rfl⟩ t60 (fun v9 N9 h61 => ?_) (fun E9 N9 h61 => by cases h61)
            cases h61
            show G z mX7_readFrom (d + 6) 0 0 83 [some (.ref 12), some (.ref 1), some (.int (nI i2)), some (.int v10)] [] (mrow (mrow (mrow (mrow (mrow (mrow (mrow (mrow (mrow M 1 r59) 12 r46) 13 r47) 14 r48) 15 r49) 16 r50) 17 r51) 18 r52) 19 r53) Q
            refine G.sl [(.iinc 2 1, 3, 2, 0, 0, nI 1), (.goto (-64), 3, 22, 0, 0, 0)] [] (pc2 := 22) (ls2 := [some (.ref 12), some (.ref 1), some (.int ((nI i2) + nI 1)), some (.int v10)]) (st2 := []) (M2 := mrow (mrow (mrow (mrow (mrow (mrow (mrow (mrow (mrow M 1 r59) 12 r46) 13 r47) 14 r48) 15 r49) 16 r50) 17 r51) 18 r52) 19 r53) (Ps := []) (by decide +kernel) rfl rfl trivial ?_
            refine G.loc (ls2 := [some (.ref 12), some (.ref 1), some (.int ((nI i2) + nI 1)), none]) (by simp [subL]) ?_
            rw [nI_add i2 1]
            simp only [v_readFrom_22, g2, if_neg c7, g9, if_neg c14, if_pos c35, g37, g43, g57] at hX
            exact ih (i2 + 1) r59 r46 r47 r48 r49 r50 r51 r52 r53 (by omega) hk hX
          · skip
            rw [if_neg c35] at hk
            refine G.sl [(.aload_n 0, 1, 0, 0, 0, 0), (.iload_n 3, 1, 3, 0, 0, 0)] [] (pc2 := 56) (ls2 := [some (.ref 12), some (.ref 1), some (.int (nI i2)), some (.int v10)]) (st2 := [.int v10, .ref 12]) (M2 := mrow (mrow (mrow (mrow (mrow (mrow (mrow (mrow (mrow M 1 r11) 12 q12) 13 q13) 14 q14) 15 q15) 16 q16) 17 q17) 18 q18) 19 q19) (Ps := []) (by decide +kernel) rfl rfl trivial ?_
            obtain ⟨k62, hk⟩ := hk
            have t63 : GM z mX7_isFull (d + 5) [.ref 12, .int v10] (mrow (mrow (mrow (mrow (mrow (mrow (mrow (mrow (mrow M 1 r11) 12 q12) 13 q13) 14 q14) 15 q15) 16 q16) 17 q17) 18 q18) 19 q19) (fun rs => rs = .inl (some (.int (v_isFull q12 v10)), mrow (mrow (mrow (mrow (mrow (mrow (mrow (mrow (mrow M 1 r11) 12 q12) 13 q13) 14 q14) 15 q15) 16 q16) 17 q17) 18 q18) 19 q19)) := by
              have q9 := c_v_isFull_12 z (d + 5) (mrow (mrow (mrow (mrow (mrow (mrow (mrow (mrow (mrow M 1 r11) 12 q12) 13 q13) 14 q14) 15 q15) 16 q16) 17 q17) 18 q18) 19 q19) v10
              try simp only [mput, mrow_same, mrow_hit, mrow_miss, mrow_sw, idr_eq, ne_eq, Nat.reduceEqDiff, not_false_eq_true, Nat.reduceLT, reduceCtorEq] at q9
              exact q9
            refine G.callV (as := [.int v10]) (rest := []) (a := 12) oX7_isFull lk_EvenFinders_Town_70 (by decide +kernel) rfl rfl ⟨rfl, rfl⟩ (Nat.le_of_ble_eq_true rfl) rfl ⟨Nat.le_of_ble_eq_true rfl, Nat.le_of_ble_eq_true rfl⟩ t63 (fun v9 N9 h64 => ?_) (fun E9 N9 h64 => by cases h64)
            cases h64
            show G z mX7_readFrom (d + 6) 0 0 59 [some (.ref 12), some (.ref 1), some (.int (nI i2)), some (.int v10)] [.int (v_isFull q12 v10)] (mrow (mrow (mrow (mrow (mrow (mrow (mrow (mrow (mrow M 1 r11) 12 q12) 13 q13) 14 q14) 15 q15) 16 q16) 17 q17) 18 q18) 19 q19) Q
            refine G.if_eq (off := (12)) (tgt := 71) (by decide +kernel) rfl (fun c65 => ?_) (fun c65 => ?_)
            · skip
              rw [if_pos c65] at hk
              refine G.sl [(.aload_n 0, 1, 0, 0, 0, 0), (.aload_n 1, 1, 1, 0, 0, 0), (.iload_n 3, 1, 3, 0, 0, 0)] [] (pc2 := 74) (ls2 := [some (.ref 12), some (.ref 1), some (.int (nI i2)), some (.int v10)]) (st2 := [.int v10, .ref 1, .ref 12]) (M2 := mrow (mrow (mrow (mrow (mrow (mrow (mrow (mrow (mrow M 1 r11) 12 q12) 13 q13) 14 q14) 15 q15) 16 q16) 17 q17) 18 q18) 19 q19) (Ps := []) (by decide +kernel) rfl rfl trivial ?_
              obtain ⟨k66, hk⟩ := hk
              rcases g67 : v_readClause r11 (M.1 2) q12 q13 q14 q15 q16 q17 q18 q19 v10 with ⟨u68, r69, r70, r71, r72, r73, r74, r75, r76, r77⟩
              try simp only [g67] at hk
              have t78 : GM z mX7_readClause (d + 5) [.ref 12, .ref 1, .int v10] (mrow (mrow (mrow (mrow (mrow (mrow (mrow (mrow (mrow M 1 r11) 12 q12) 13 q13) 14 q14) 15 q15) 16 q16) 17 q17) 18 q18) 19 q19) (fun rs => rs = .inl (none, mrow (mrow (mrow (mrow (mrow (mrow (mrow (mrow (mrow M 1 r69) 12 r70) 13 r71) 14 r72) 15 r73) 16 r74) 17 r75) 18 r76) 19 r77)) := by
                have q9 := c_v_readClause_12_1 z (d + 2) (mrow (mrow (mrow (mrow (mrow (mrow (mrow (mrow (mrow M 1 r11) 12 q12) 13 q13) 14 q14) 15 q15) 16 q16) 17 q17) 18 q18) 19 q19) v10 k66
                try simp only [mput, mrow_same, mrow_hit, mrow_miss, mrow_sw, idr_eq, ne_eq, Nat.reduceEqDiff, not_false_eq_true, Nat.reduceLT, reduceCtorEq, g67] at q9
                exact q9
              refine G.callV (as := [.ref 1, .int v10]) (rest := []) (a := 12) oX7_readClause lk_EvenFinders_Town_81 (by decide +kernel) rfl rfl ⟨rfl, rfl⟩ (Nat.le_of_ble_eq_true rfl) rfl ⟨Nat.le_of_ble_eq_true rfl, Nat.le_of_ble_eq_true rfl⟩ t78 (fun v9 N9 h79 => ?_) (fun E9 N9 h79 => by cases h79)
              cases h79
              show G z mX7_readFrom (d + 6) 0 0 77 [some (.ref 12), some (.ref 1), some (.int (nI i2)), some (.int v10)] [] (mrow (mrow (mrow (mrow (mrow (mrow (mrow (mrow (mrow M 1 r69) 12 r70) 13 r71) 14 r72) 15 r73) 16 r74) 17 r75) 18 r76) 19 r77) Q
              refine G.sl [(.aload_n 1, 1, 1, 0, 0, 0), (.bipush 59, 2, 0, 0, 0, nI 59)] [] (pc2 := 80) (ls2 := [some (.ref 12), some (.ref 1), some (.int (nI i2)), some (.int v10)]) (st2 := [.int (nI 59), .ref 1]) (M2 := mrow (mrow (mrow (mrow (mrow (mrow (mrow (mrow (mrow M 1 r69) 12 r70) 13 r71) 14 r72) 15 r73) 16 r74) 17 r75) 18 r76) 19 r77) (Ps := []) (by decide +kernel) rfl rfl trivial ?_
              obtain ⟨k80, hk⟩ := hk
              rcases g81 : t_needSign r69 (M.1 2) (nI 59) with ⟨u82, r83⟩
              try simp only [g81] at hk
              have t84 : GM z mX6_needSign (d + 5) [.ref 1, .int (nI 59)] (mrow (mrow (mrow (mrow (mrow (mrow (mrow (mrow (mrow M 1 r69) 12 r70) 13 r71) 14 r72) 15 r73) 16 r74) 17 r75) 18 r76) 19 r77) (fun rs => rs = .inl (none, mrow (mrow (mrow (mrow (mrow (mrow (mrow (mrow (mrow M 1 r83) 12 r70) 13 r71) 14 r72) 15 r73) 16 r74) 17 r75) 18 r76) 19 r77)) := by
                have q9 := c_t_needSign_1 z (d + 3) (mrow (mrow (mrow (mrow (mrow (mrow (mrow (mrow (mrow M 1 r69) 12 r70) 13 r71) 14 r72) 15 r73) 16 r74) 17 r75) 18 r76) 19 r77) (nI 59) k80
                try simp only [mput, mrow_same, mrow_hit, mrow_miss, mrow_sw, idr_eq, ne_eq, Nat.reduceEqDiff, not_false_eq_true, Nat.reduceLT, reduceCtorEq, g81] at q9
                exact q9
              refine G.callV (as := [.int (nI 59)]) (rest := []) (a := 1) oX6_needSign lk_EvenFinders_Town_85 (by decide +kernel) rfl rfl ⟨rfl, rfl⟩ (Nat.le_of_ble_eq_true rfl) rfl ⟨Nat.le_of_ble_eq_true rfl, Nat.le_of_ble_eq_true rfl⟩ t84 (fun v9 N9 h85 => ?_) (fun E9 N9 h85 => by cases h85)
              cases h85
              show G z mX7_readFrom (d + 6) 0 0 83 [some (.ref 12), some (.ref 1), some (.int (nI i2)), some (.int v10)] [] (mrow (mrow (mrow (mrow (mrow (mrow (mrow (mrow (mrow M 1 r83) 12 r70) 13 r71) 14 r72) 15 r73) 16 r74) 17 r75) 18 r76) 19 r77) Q
              refine G.sl [(.iinc 2 1, 3, 2, 0, 0, nI 1), (.goto (-64), 3, 22, 0, 0, 0)] [] (pc2 := 22) (ls2 := [some (.ref 12), some (.ref 1), some (.int ((nI i2) + nI 1)), some (.int v10)]) (st2 := []) (M2 := mrow (mrow (mrow (mrow (mrow (mrow (mrow (mrow (mrow M 1 r83) 12 r70) 13 r71) 14 r72) 15 r73) 16 r74) 17 r75) 18 r76) 19 r77) (Ps := []) (by decide +kernel) rfl rfl trivial ?_
              refine G.loc (ls2 := [some (.ref 12), some (.ref 1), some (.int ((nI i2) + nI 1)), none]) (by simp [subL]) ?_
              rw [nI_add i2 1]
              simp only [v_readFrom_22, g2, if_neg c7, g9, if_neg c14, if_neg c35, if_pos c65, g67, g81] at hX
              exact ih (i2 + 1) r83 r70 r71 r72 r73 r74 r75 r76 r77 (by omega) hk hX
            · skip
              rw [if_neg c65] at hk
              refine G.sl [(.aload_n 1, 1, 1, 0, 0, 0), (.iconst 3, 1, 0, 0, 0, nI 3), (.aload_n 1, 1, 1, 0, 0, 0), (.getfield 74, 3, 5, 4, 8, 0)] [] (pc2 := 68) (ls2 := [some (.ref 12), some (.ref 1), some (.int (nI i2)), some (.int v10)]) (st2 := [.int (r11 4), .int (nI 3), .ref 1]) (M2 := mrow (mrow (mrow (mrow (mrow (mrow (mrow (mrow (mrow M 1 r11) 12 q12) 13 q13) 14 q14) 15 q15) 16 q16) 17 q17) 18 q18) 19 q19) (Ps := []) (by decide +kernel) rfl rfl trivial ?_
              obtain ⟨k86, hk⟩ := hk
              rcases g87 : t_fail r11 (nI 3) (r11 4) with ⟨u88, r89⟩
              try simp only [g87] at hk
              have t90 : GM z mX6_fail (d + 5) [.ref 1, .int (nI 3), .int (r11 4)] (mrow (mrow (mrow (mrow (mrow (mrow (mrow (mrow (mrow M 1 r11) 12 q12) 13 q13) 14 q14) 15 q15) 16 q16) 17 q17) 18 q18) 19 q19) (fun rs => rs = .inl (none, mrow (mrow (mrow (mrow (mrow (mrow (mrow (mrow (mrow M 1 r89) 12 q12) 13 q13) 14 q14) 15 q15) 16 q16) 17 q17) 18 q18) 19 q19)) := by
                have q9 := c_t_fail_1 z (d + 5) (mrow (mrow (mrow (mrow (mrow (mrow (mrow (mrow (mrow M 1 r11) 12 q12) 13 q13) 14 q14) 15 q15) 16 q16) 17 q17) 18 q18) 19 q19) (nI 3) (r11 4)
                try simp only [mput, mrow_same, mrow_hit, mrow_miss, mrow_sw, idr_eq, ne_eq, Nat.reduceEqDiff, not_false_eq_true, Nat.reduceLT, reduceCtorEq, g87] at q9
                exact q9
              refine G.callV (as := [.int (nI 3), .int (r11 4)]) (rest := []) (a := 1) oX6_fail lk_EvenFinders_Town_77 (by decide +kernel) rfl rfl ⟨rfl, rfl⟩ (Nat.le_of_ble_eq_true rfl) rfl ⟨Nat.le_of_ble_eq_true rfl, Nat.le_of_ble_eq_true rfl⟩ t90 (fun v9 N9 h91 => ?_) (fun E9 N9 h91 => by cases h91)
              cases h91
              show G z mX7_readFrom (d + 6) 0 0 71 [some (.ref 12), some (.ref 1), some (.int (nI i2)), some (.int v10)] [] (mrow (mrow (mrow (mrow (mrow (mrow (mrow (mrow (mrow M 1 r89) 12 q12) 13 q13) 14 q14) 15 q15) 16 q16) 17 q17) 18 q18) 19 q19) Q
              refine G.sl [(.aload_n 0, 1, 0, 0, 0, 0), (.aload_n 1, 1, 1, 0, 0, 0), (.iload_n 3, 1, 3, 0, 0, 0)] [] (pc2 := 74) (ls2 := [some (.ref 12), some (.ref 1), some (.int (nI i2)), some (.int v10)]) (st2 := [.int v10, .ref 1, .ref 12]) (M2 := mrow (mrow (mrow (mrow (mrow (mrow (mrow (mrow (mrow M 1 r89) 12 q12) 13 q13) 14 q14) 15 q15) 16 q16) 17 q17) 18 q18) 19 q19) (Ps := []) (by decide +kernel) rfl rfl trivial ?_
              obtain ⟨k92, hk⟩ := hk
              rcases g93 : v_readClause r89 (M.1 2) q12 q13 q14 q15 q16 q17 q18 q19 v10 with ⟨u94, r95, r96, r97, r98, r99, r100, r101, r102, r103⟩
              try simp only [g93] at hk
              have t104 : GM z mX7_readClause (d + 5) [.ref 12, .ref 1, .int v10] (mrow (mrow (mrow (mrow (mrow (mrow (mrow (mrow (mrow M 1 r89) 12 q12) 13 q13) 14 q14) 15 q15) 16 q16) 17 q17) 18 q18) 19 q19) (fun rs => rs = .inl (none, mrow (mrow (mrow (mrow (mrow (mrow (mrow (mrow (mrow M 1 r95) 12 r96) 13 r97) 14 r98) 15 r99) 16 r100) 17 r101) 18 r102) 19 r103)) := by
                have q9 := c_v_readClause_12_1 z (d + 2) (mrow (mrow (mrow (mrow (mrow (mrow (mrow (mrow (mrow M 1 r89) 12 q12) 13 q13) 14 q14) 15 q15) 16 q16) 17 q17) 18 q18) 19 q19) v10 k92
                try simp only [mput, mrow_same, mrow_hit, mrow_miss, mrow_sw, idr_eq, ne_eq, Nat.reduceEqDiff, not_false_eq_true, Nat.reduceLT, reduceCtorEq, g93] at q9
                exact q9
              refine G.callV (as := [.ref 1, .int v10]) (rest := []) (a := 12) oX7_readClause lk_EvenFinders_Town_81 (by decide +kernel) rfl rfl ⟨rfl, rfl⟩ (Nat.le_of_ble_eq_true rfl) rfl ⟨Nat.le_of_ble_eq_true rfl, Nat.le_of_ble_eq_true rfl⟩ t104 (fun v9 N9 h105 => ?_) (fun E9 N9 h105 => by cases h105)
              cases h105
              show G z mX7_readFrom (d + 6) 0 0 77 [some (.ref 12), some (.ref 1), some (.int (nI i2)), some (.int v10)] [] (mrow (mrow (mrow (mrow (mrow (mrow (mrow (mrow (mrow M 1 r95) 12 r96) 13 r97) 14 r98) 15 r99) 16 r100) 17 r101) 18 r102) 19 r103) Q
              refine G.sl [(.aload_n 1, 1, 1, 0, 0, 0), (.bipush 59, 2, 0, 0, 0, nI 59)] [] (pc2 := 80) (ls2 := [some (.ref 12), some (.ref 1), some (.int (nI i2)), some (.int v10)]) (st2 := [.int (nI 59), .ref 1]) (M2 := mrow (mrow (mrow (mrow (mrow (mrow (mrow (mrow (mrow M 1 r95) 12 r96) 13 r97) 14 r98) 15 r99) 16 r100) 17 r101) 18 r102) 19 r103) (Ps := []) (by decide +kernel) rfl rfl trivial ?_
              obtain ⟨k106, hk⟩ := hk
              rcases g107 : t_needSign r95 (M.1 2) (nI 59) with ⟨u108, r109⟩
              try simp only [g107] at hk
              have t110 : GM z mX6_needSign (d + 5) [.ref 1, .int (nI 59)] (mrow (mrow (mrow (mrow (mrow (mrow (mrow (mrow (mrow M 1 r95) 12 r96) 13 r97) 14 r98) 15 r99) 16 r100) 17 r101) 18 r102) 19 r103) (fun rs => rs = .inl (none, mrow (mrow (mrow (mrow (mrow (mrow (mrow (mrow (mrow M 1 r109) 12 r96) 13 r97) 14 r98) 15 r99) 16 r100) 17 r101) 18 r102) 19 r103)) := by
                have q9 := c_t_needSign_1 z (d + 3) (mrow (mrow (mrow (mrow (mrow (mrow (mrow (mrow (mrow M 1 r95) 12 r96) 13 r97) 14 r98) 15 r99) 16 r100) 17 r101) 18 r102) 19 r103) (nI 59) k106
                try simp only [mput, mrow_same, mrow_hit, mrow_miss, mrow_sw, idr_eq, ne_eq, Nat.reduceEqDiff, not_false_eq_true, Nat.reduceLT, reduceCtorEq, g107] at q9
                exact q9
              refine G.callV (as := [.int (nI 59)]) (rest := []) (a := 1) oX6_needSign lk_EvenFinders_Town_85 (by decide +kernel) rfl rfl ⟨rfl, rfl⟩ (Nat.le_of_ble_eq_true rfl) rfl ⟨Nat.le_of_ble_eq_true rfl, Nat.le_of_ble_eq_true rfl⟩ t110 (fun v9 N9 h111 => ?_) (fun E9 N9 h111 => by cases h111)
              cases h111
              show G z mX7_readFrom (d + 6) 0 0 83 [some (.ref 12), some (.ref 1), some (.int (nI i2)), some (.int v10)] [] (mrow (mrow (mrow (mrow (mrow (mrow (mrow (mrow (mrow M 1 r109) 12 r96) 13 r97) 14 r98) 15 r99) 16 r100) 17 r101) 18 r102) 19 r103) Q
              refine G.sl [(.iinc 2 1, 3, 2, 0, 0, nI 1), (.goto (-64), 3, 22, 0, 0, 0)] [] (pc2 := 22) (ls2 := [some (.ref 12), some (.ref 1), some (.int ((nI i2) + nI 1)), some (.int v10)]) (st2 := []) (M2 := mrow (mrow (mrow (mrow (mrow (mrow (mrow (mrow (mrow M 1 r109) 12 r96) 13 r97) 14 r98) 15 r99) 16 r100) 17 r101) 18 r102) 19 r103) (Ps := []) (by decide +kernel) rfl rfl trivial ?_
              refine G.loc (ls2 := [some (.ref 12), some (.ref 1), some (.int ((nI i2) + nI 1)), none]) (by simp [subL]) ?_
              rw [nI_add i2 1]
              simp only [v_readFrom_22, g2, if_neg c7, g9, if_neg c14, if_neg c35, if_neg c65, g87, g93, g107] at hX
              exact ih (i2 + 1) r109 r96 r97 r98 r99 r100 r101 r102 r103 (by omega) hk hX
noncomputable def v_readFrom (Rtape Rbytes Rtown RroadA RroadB RroadLength Rworth RfirstLies RfirstHolder RfirstSpot : Nat → Int32) : Int32 × (Nat → Int32) × (Nat → Int32) × (Nat → Int32) × (Nat → Int32) × (Nat → Int32) × (Nat → Int32) × (Nat → Int32) × (Nat → Int32) × (Nat → Int32) := (match v_readFrom_22 (Rbytes) (cN 61) 0 (Rtape) (upd (upd (upd (upd (Rtown) 0 (nI 0)) 1 (nI 0)) 2 (nI 0)) 3 (nI 0)) (RroadA) (RroadB) (RroadLength) (Rworth) (RfirstLies) (RfirstHolder) (RfirstSpot) with | (r114, r115, r116, r117, r118, r119, r120, r121, r122) => (0, r114, r115, r116, r117, r118, r119, r120, r121, r122))
noncomputable def v_readFrom_ok (Rtape Rbytes Rtown RroadA RroadB RroadLength Rworth RfirstLies RfirstHolder RfirstSpot : Nat → Int32) : Prop := (v_readFrom_22_ok (Rbytes) (cN 61) 0 (Rtape) (upd (upd (upd (upd (Rtown) 0 (nI 0)) 1 (nI 0)) 2 (nI 0)) 3 (nI 0)) (RroadA) (RroadB) (RroadLength) (Rworth) (RfirstLies) (RfirstHolder) (RfirstSpot) ∧ True)
set_option maxHeartbeats 4000000 in
set_option maxRecDepth 3000 in
theorem c_v_readFrom_12_1 (z : Zp) (d : Nat) (M : Mem) (hk : v_readFrom_ok (M.1 1) (M.1 2) (M.1 12) (M.1 13) (M.1 14) (M.1 15) (M.1 16) (M.1 17) (M.1 18) (M.1 19)) : GM z mX7_readFrom (d + 6) [.ref 12, .ref 1] M (fun rs => rs = .inl (none, mrow (mrow (mrow (mrow (mrow (mrow (mrow (mrow (mrow M 1 ((v_readFrom (M.1 1) (M.1 2) (M.1 12) (M.1 13) (M.1 14) (M.1 15) (M.1 16) (M.1 17) (M.1 18) (M.1 19)).2.1)) 12 ((v_readFrom (M.1 1) (M.1 2) (M.1 12) (M.1 13) (M.1 14) (M.1 15) (M.1 16) (M.1 17) (M.1 18) (M.1 19)).2.2.1)) 13 ((v_readFrom (M.1 1) (M.1 2) (M.1 12) (M.1 13) (M.1 14) (M.1 15) (M.1 16) (M.1 17) (M.1 18) (M.1 19)).2.2.2.1)) 14 ((v_readFrom (M.1 1) (M.1 2) (M.1 12) (M.1 13) (M.1 14) (M.1 15) (M.1 16) (M.1 17) (M.1 18) (M.1 19)).2.2.2.2.1)) 15 ((v_readFrom (M.1 1) (M.1 2) (M.1 12) (M.1 13) (M.1 14) (M.1 15) (M.1 16) (M.1 17) (M.1 18) (M.1 19)).2.2.2.2.2.1)) 16 ((v_readFrom (M.1 1) (M.1 2) (M.1 12) (M.1 13) (M.1 14) (M.1 15) (M.1 16) (M.1 17) (M.1 18) (M.1 19)).2.2.2.2.2.2.1)) 17 ((v_readFrom (M.1 1) (M.1 2) (M.1 12) (M.1 13) (M.1 14) (M.1 15) (M.1 16) (M.1 17) (M.1 18) (M.1 19)).2.2.2.2.2.2.2.1)) 18 ((v_readFrom (M.1 1) (M.1 2) (M.1 12) (M.1 13) (M.1 14) (M.1 15) (M.1 16) (M.1 17) (M.1 18) (M.1 19)).2.2.2.2.2.2.2.2.1)) 19 ((v_readFrom (M.1 1) (M.1 2) (M.1 12) (M.1 13) (M.1 14) (M.1 15) (M.1 16) (M.1 17) (M.1 18) (M.1 19)).2.2.2.2.2.2.2.2.2))) := by
  simp only [v_readFrom_ok] at hk
  refine GM.of oX7_readFrom.1 (Nat.le_of_ble_eq_true rfl) ?_
  show G z mX7_readFrom (d + 6) 0 0 0 [some (.ref 12), some (.ref 1), none, none] [] M _
  obtain ⟨Q, hQ⟩ : ∃ Q : Rs → Prop, Q = (fun rs => rs = .inl (none, mrow (mrow (mrow (mrow (mrow (mrow (mrow (mrow (mrow M 1 ((v_readFrom (M.1 1) (M.1 2) (M.1 12) (M.1 13) (M.1 14) (M.1 15) (M.1 16) (M.1 17) (M.1 18) (M.1 19)).2.1)) 12 ((v_readFrom (M.1 1) (M.1 2) (M.1 12) (M.1 13) (M.1 14) (M.1 15) (M.1 16) (M.1 17) (M.1 18) (M.1 19)).2.2.1)) 13 ((v_readFrom (M.1 1) (M.1 2) (M.1 12) (M.1 13) (M.1 14) (M.1 15) (M.1 16) (M.1 17) (M.1 18) (M.1 19)).2.2.2.1)) 14 ((v_readFrom (M.1 1) (M.1 2) (M.1 12) (M.1 13) (M.1 14) (M.1 15) (M.1 16) (M.1 17) (M.1 18) (M.1 19)).2.2.2.2.1)) 15 ((v_readFrom (M.1 1) (M.1 2) (M.1 12) (M.1 13) (M.1 14) (M.1 15) (M.1 16) (M.1 17) (M.1 18) (M.1 19)).2.2.2.2.2.1)) 16 ((v_readFrom (M.1 1) (M.1 2) (M.1 12) (M.1 13) (M.1 14) (M.1 15) (M.1 16) (M.1 17) (M.1 18) (M.1 19)).2.2.2.2.2.2.1)) 17 ((v_readFrom (M.1 1) (M.1 2) (M.1 12) (M.1 13) (M.1 14) (M.1 15) (M.1 16) (M.1 17) (M.1 18) (M.1 19)).2.2.2.2.2.2.2.1)) 18 ((v_readFrom (M.1 1) (M.1 2) (M.1 12) (M.1 13) (M.1 14) (M.1 15) (M.1 16) (M.1 17) (M.1 18) (M.1 19)).2.2.2.2.2.2.2.2.1)) 19 ((v_readFrom (M.1 1) (M.1 2) (M.1 12) (M.1 13) (M.1 14) (M.1 15) (M.1 16) (M.1 17) (M.1 18) (M.1 19)).2.2.2.2.2.2.2.2.2))) := ⟨_, rfl⟩
  rw [← hQ]
  refine G.sl [(.aload_n 0, 1, 0, 0, 0, 0), (.iconst 0, 1, 0, 0, 0, nI 0), (.putfield 36, 3, 6, 0, 14, 0), (.aload_n 0, 1, 0, 0, 0, 0), (.iconst 0, 1, 0, 0, 0, nI 0), (.putfield 40, 3, 6, 1, 18, 0), (.aload_n 0, 1, 0, 0, 0, 0), (.iconst 0, 1, 0, 0, 0, nI 0), (.putfield 43, 3, 6, 2, 22, 0), (.aload_n 0, 1, 0, 0, 0, 0), (.iconst 0, 1, 0, 0, 0, nI 0), (.putfield 46, 3, 6, 3, 30, 0), (.iconst 0, 1, 0, 0, 0, nI 0), (.istore_n 2, 1, 2, 0, 0, 0)] [] (pc2 := 22) (ls2 := [some (.ref 12), some (.ref 1), some (.int (nI 0)), none]) (st2 := []) (M2 := mput (mput (mput (mput M 12 0 (nI 0)) 12 1 (nI 0)) 12 2 (nI 0)) 12 3 (nI 0)) (Ps := []) (by decide +kernel) rfl rfl trivial ?_
  refine G.mem (M' := mrow M 12 (upd (upd (upd (upd (M.1 12) 0 (nI 0)) 1 (nI 0)) 2 (nI 0)) 3 (nI 0))) (by first | rfl | (simp only [mput, mrow_same, mrow_hit, mrow_miss, mrow_sw, idr_eq, ne_eq, Nat.reduceEqDiff, not_false_eq_true, Nat.reduceLT, reduceCtorEq]; done)) ?_
  obtain ⟨k112, hk⟩ := hk
  refine G.mem (M' := mrow (mrow (mrow (mrow (mrow (mrow (mrow (mrow (mrow (mrow M 12 (upd (upd (upd (upd (M.1 12) 0 (nI 0)) 1 (nI 0)) 2 (nI 0)) 3 (nI 0))) 1 ((mrow M 12 (upd (upd (upd (upd (M.1 12) 0 (nI 0)) 1 (nI 0)) 2 (nI 0)) 3 (nI 0))).1 1)) 12 ((mrow M 12 (upd (upd (upd (upd (M.1 12) 0 (nI 0)) 1 (nI 0)) 2 (nI 0)) 3 (nI 0))).1 12)) 13 ((mrow M 12 (upd (upd (upd (upd (M.1 12) 0 (nI 0)) 1 (nI 0)) 2 (nI 0)) 3 (nI 0))).1 13)) 14 ((mrow M 12 (upd (upd (upd (upd (M.1 12) 0 (nI 0)) 1 (nI 0)) 2 (nI 0)) 3 (nI 0))).1 14)) 15 ((mrow M 12 (upd (upd (upd (upd (M.1 12) 0 (nI 0)) 1 (nI 0)) 2 (nI 0)) 3 (nI 0))).1 15)) 16 ((mrow M 12 (upd (upd (upd (upd (M.1 12) 0 (nI 0)) 1 (nI 0)) 2 (nI 0)) 3 (nI 0))).1 16)) 17 ((mrow M 12 (upd (upd (upd (upd (M.1 12) 0 (nI 0)) 1 (nI 0)) 2 (nI 0)) 3 (nI 0))).1 17)) 18 ((mrow M 12 (upd (upd (upd (upd (M.1 12) 0 (nI 0)) 1 (nI 0)) 2 (nI 0)) 3 (nI 0))).1 18)) 19 ((mrow M 12 (upd (upd (upd (upd (M.1 12) 0 (nI 0)) 1 (nI 0)) 2 (nI 0)) 3 (nI 0))).1 19)) (by simp only [mrow_self]) ?_
  refine lp_v_readFrom_12_1_22 z d (mrow M 12 (upd (upd (upd (upd (M.1 12) 0 (nI 0)) 1 (nI 0)) 2 (nI 0)) 3 (nI 0))) Q (cN 61) (cN_eq 61) (cN 61) 0 ((mrow M 12 (upd (upd (upd (upd (M.1 12) 0 (nI 0)) 1 (nI 0)) 2 (nI 0)) 3 (nI 0))).1 1) ((mrow M 12 (upd (upd (upd (upd (M.1 12) 0 (nI 0)) 1 (nI 0)) 2 (nI 0)) 3 (nI 0))).1 12) ((mrow M 12 (upd (upd (upd (upd (M.1 12) 0 (nI 0)) 1 (nI 0)) 2 (nI 0)) 3 (nI 0))).1 13) ((mrow M 12 (upd (upd (upd (upd (M.1 12) 0 (nI 0)) 1 (nI 0)) 2 (nI 0)) 3 (nI 0))).1 14) ((mrow M 12 (upd (upd (upd (upd (M.1 12) 0 (nI 0)) 1 (nI 0)) 2 (nI 0)) 3 (nI 0))).1 15) ((mrow M 12 (upd (upd (upd (upd (M.1 12) 0 (nI 0)) 1 (nI 0)) 2 (nI 0)) 3 (nI 0))).1 16) ((mrow M 12 (upd (upd (upd (upd (M.1 12) 0 (nI 0)) 1 (nI 0)) 2 (nI 0)) 3 (nI 0))).1 17) ((mrow M 12 (upd (upd (upd (upd (M.1 12) 0 (nI 0)) 1 (nI 0)) 2 (nI 0)) 3 (nI 0))).1 18) ((mrow M 12 (upd (upd (upd (upd (M.1 12) 0 (nI 0)) 1 (nI 0)) 2 (nI 0)) 3 (nI 0))).1 19) (Nat.zero_add _) (by first | (simp only [mput, mrow_same, mrow_hit, mrow_miss, mrow_sw, idr_eq, ne_eq, Nat.reduceEqDiff, not_false_eq_true, Nat.reduceLT, reduceCtorEq]; exact k112) | exact k112) ?_
  try simp only [mput, mrow_same, mrow_hit, mrow_miss, mrow_sw, idr_eq, ne_eq, Nat.reduceEqDiff, not_false_eq_true, Nat.reduceLT, reduceCtorEq]
  rcases g113 : v_readFrom_22 (M.1 2) (cN 61) 0 (M.1 1) (upd (upd (upd (upd (M.1 12) 0 (nI 0)) 1 (nI 0)) 2 (nI 0)) 3 (nI 0)) (M.1 13) (M.1 14) (M.1 15) (M.1 16) (M.1 17) (M.1 18) (M.1 19) with ⟨r114, r115, r116, r117, r118, r119, r120, r121, r122⟩
  show G z mX7_readFrom (d + 6) 0 0 89 [none, none, none, none] [] (mrow (mrow (mrow (mrow (mrow (mrow (mrow (mrow (mrow M 1 r114) 12 r115) 13 r116) 14 r117) 15 r118) 16 r119) 17 r120) 18 r121) 19 r122) Q
  exact G.retv (by decide +kernel) rfl (Nat.le_of_ble_eq_true rfl) (Nat.le_of_ble_eq_true rfl) ((by rw [hQ]; simp only [v_readFrom, g113, mrow_self]))
noncomputable def t_word_s2_19 (Rtape Rbytes : Nat → Int32) : Nat → Int32 → Int32
  | 0, s2 => s2
  | k0 + 1, s2 => (if (Rtape 5) ≤ s2 then s2 else (if (Rbytes (ix s2)) < (nI 97) then s2 else (if (nI 122) < (Rbytes (ix s2)) then s2 else t_word_s2_19 Rtape Rbytes k0 (s2 + nI 1))))
noncomputable def t_word_s2_19_ok (Rtape Rbytes : Nat → Int32) : Nat → Int32 → Prop
  | 0, _ => False
  | k0 + 1, s2 => (if (Rtape 5) ≤ s2 then True else ((isN s2) ∧ (ix s2 < 600) ∧ (if (Rbytes (ix s2)) < (nI 97) then True else (if (nI 122) < (Rbytes (ix s2)) then True else t_word_s2_19_ok Rtape Rbytes k0 (s2 + nI 1)))))
set_option maxHeartbeats 4000000 in
set_option maxRecDepth 3000 in
theorem lp_t_word_s2_1_19 (z : Zp) (d : Nat) (M : Mem) (Q : Rs → Prop) : ∀ (k0 : Nat) (s2 : Int32), t_word_s2_19_ok (M.1 1) (M.1 2) k0 s2 → (match t_word_s2_19 (M.1 1) (M.1 2) k0 s2 with | s2' => G z mX6_word (d + 5) 0 0 55 [some (.ref 1), some (.ref 1002), some (.int (s2')), none] [] M Q) → G z mX6_word (d + 5) 0 0 19 [some (.ref 1), some (.ref 1002), some (.int s2), none] [] M Q := by
  intro k0
  induction k0 with
  | zero =>
      intro s2 hk hX
      exact (by simpa only [t_word_s2_19_ok] using hk : False).elim
  | succ k0 ih =>
      intro s2 hk hX
      simp only [t_word_s2_19_ok] at hk
      refine G.sl [(.iload_n 2, 1, 2, 0, 0, 0), (.aload_n 0, 1, 0, 0, 0, 0), (.getfield 31, 3, 5, 5, 12, 0)] [] (pc2 := 24) (ls2 := [some (.ref 1), some (.ref 1002), some (.int s2), none]) (st2 := [.int (M.1 1 5), .int s2]) (M2 := M) (Ps := []) (by decide +kernel) rfl rfl trivial ?_
      refine G.ic_ge (off := (31)) (tgt := 55) (by decide +kernel) rfl (fun c8 => ?_) (fun c8 => ?_)
      · skip
        rw [if_pos c8] at hk
        simp only [t_word_s2_19, if_pos c8] at hX
        exact hX
      · skip
        rw [if_neg c8] at hk
        obtain ⟨k9, k10, hk⟩ := hk
        refine G.sl [(.aload_n 0, 1, 0, 0, 0, 0), (.getfield 9, 3, 5, 0, 0, 0), (.iload_n 2, 1, 2, 0, 0, 0), (.iaload, 1, 0, 0, 0, 0), (.bipush 97, 2, 0, 0, 0, nI 97)] [ix s2] (pc2 := 35) (ls2 := [some (.ref 1), some (.ref 1002), some (.int s2), none]) (st2 := [.int (nI 97), .int (M.1 2 (ix s2))]) (M2 := M) (Ps := [s2 = nI (ix s2) ∧ (ix s2) < 600]) (by decide +kernel) rfl rfl ⟨⟨(ixE k9), k10⟩, trivial⟩ ?_
        refine G.ic_lt (off := (20)) (tgt := 55) (by decide +kernel) rfl (fun c11 => ?_) (fun c11 => ?_)
        · skip
          rw [if_pos c11] at hk
          simp only [t_word_s2_19, if_neg c8, if_pos c11] at hX
          exact hX
        · skip
          rw [if_neg c11] at hk
          refine G.sl [(.aload_n 0, 1, 0, 0, 0, 0), (.getfield 9, 3, 5, 0, 0, 0), (.iload_n 2, 1, 2, 0, 0, 0), (.iaload, 1, 0, 0, 0, 0), (.bipush 122, 2, 0, 0, 0, nI 122)] [ix s2] (pc2 := 46) (ls2 := [some (.ref 1), some (.ref 1002), some (.int s2), none]) (st2 := [.int (nI 122), .int (M.1 2 (ix s2))]) (M2 := M) (Ps := [s2 = nI (ix s2) ∧ (ix s2) < 600]) (by decide +kernel) rfl rfl ⟨⟨(ixE k9), k10⟩, trivial⟩ ?_
          refine G.ic_gt (off := (9)) (tgt := 55) (by decide +kernel) rfl (fun c12 => ?_) (fun c12 => ?_)
          · skip
            rw [if_pos c12] at hk
            simp only [t_word_s2_19, if_neg c8, if_neg c11, if_pos c12] at hX
            exact hX
          · skip
            rw [if_neg c12] at hk
            refine G.sl [(.iinc 2 1, 3, 2, 0, 0, nI 1), (.goto (-33), 3, 19, 0, 0, 0)] [] (pc2 := 19) (ls2 := [some (.ref 1), some (.ref 1002), some (.int (s2 + nI 1)), none]) (st2 := []) (M2 := M) (Ps := []) (by decide +kernel) rfl rfl trivial ?_
            simp only [t_word_s2_19, if_neg c8, if_neg c11, if_neg c12] at hX
            exact ih (s2 + nI 1) hk hX
noncomputable def t_indexIn_s2_14 (Rtape Rbytes : Nat → Int32) (x2 : Int32) : Nat → Nat → Int32 → Int32 → Int32 → (Int32) ⊕ (Int32 × Int32 × Int32)
  | 0, _, s3, s4, s5 => .inr (s3, s4, s5)
  | k0 + 1, i6, s3, s4, s5 => (if (sby 2 i6) = (nI 32) then (if s5 = 0 then t_indexIn_s2_14 Rtape Rbytes x2 k0 (i6 + 1) (s3 + nI 1) (Rtape 6) (nI 1) else (if s4 = x2 then .inl s3 else t_indexIn_s2_14 Rtape Rbytes x2 k0 (i6 + 1) (s3 + nI 1) (Rtape 6) (nI 1))) else (if s5 = 0 then t_indexIn_s2_14 Rtape Rbytes x2 k0 (i6 + 1) s3 (s4 + nI 1) (nI 0) else (if x2 ≤ s4 then t_indexIn_s2_14 Rtape Rbytes x2 k0 (i6 + 1) s3 (s4 + nI 1) (nI 0) else (if (Rbytes (ix s4)) = (sby 2 i6) then t_indexIn_s2_14 Rtape Rbytes x2 k0 (i6 + 1) s3 (s4 + nI 1) (nI 1) else t_indexIn_s2_14 Rtape Rbytes x2 k0 (i6 + 1) s3 (s4 + nI 1) (nI 0)))))
noncomputable def t_indexIn_s2_14_ok (Rtape Rbytes : Nat → Int32) (x2 : Int32) : Nat → Nat → Int32 → Int32 → Int32 → Prop
  | 0, _, _, _, _ => True
  | k0 + 1, i6, s3, s4, s5 => (if (sby 2 i6) = (nI 32) then (if s5 = 0 then t_indexIn_s2_14_ok Rtape Rbytes x2 k0 (i6 + 1) (s3 + nI 1) (Rtape 6) (nI 1) else (if s4 = x2 then True else t_indexIn_s2_14_ok Rtape Rbytes x2 k0 (i6 + 1) (s3 + nI 1) (Rtape 6) (nI 1))) else (if s5 = 0 then t_indexIn_s2_14_ok Rtape Rbytes x2 k0 (i6 + 1) s3 (s4 + nI 1) (nI 0) else (if x2 ≤ s4 then t_indexIn_s2_14_ok Rtape Rbytes x2 k0 (i6 + 1) s3 (s4 + nI 1) (nI 0) else ((isN s4) ∧ (ix s4 < 600) ∧ (if (Rbytes (ix s4)) = (sby 2 i6) then t_indexIn_s2_14_ok Rtape Rbytes x2 k0 (i6 + 1) s3 (s4 + nI 1) (nI 1) else t_indexIn_s2_14_ok Rtape Rbytes x2 k0 (i6 + 1) s3 (s4 + nI 1) (nI 0))))))
set_option maxHeartbeats 4000000 in
set_option maxRecDepth 3000 in
theorem lp_t_indexIn_s2_1_14 (z : Zp) (d : Nat) (M : Mem) (Q : Rs → Prop) (nn : Nat) (x2 : Int32) (hnn : nn = 55) : ∀ (k0 : Nat) (i6 : Nat) (s3 : Int32) (s4 : Int32) (s5 : Int32), i6 + k0 = nn → t_indexIn_s2_14_ok (M.1 1) (M.1 2) x2 k0 i6 s3 s4 s5 → (match t_indexIn_s2_14 (M.1 1) (M.1 2) x2 k0 i6 s3 s4 s5 with | .inl v' => Q (.inl (some (.int v'), M)) | .inr (s3', s4', s5') => G z mX6_indexIn (d + 4) 0 0 105 [none, none, some (.int x2), some (.int (s3')), some (.int (s4')), some (.int (s5')), none, none] [] M Q) → G z mX6_indexIn (d + 4) 0 0 14 [some (.ref 1), some (.ref 1002), some (.int x2), some (.int s3), some (.int s4), some (.int s5), some (.int (nI i6)), none] [] M Q := by
  intro k0
  induction k0 with
  | zero =>
      intro i6 s3 s4 s5 hn hk hX
      refine G.sl [(.iload 6, 2, 6, 0, 0, 0), (.aload_n 1, 1, 1, 0, 0, 0)] [] (pc2 := 17) (ls2 := [some (.ref 1), some (.ref 1002), some (.int x2), some (.int s3), some (.int s4), some (.int s5), some (.int (nI i6)), none]) (st2 := [.ref 1002, .int (nI i6)]) (M2 := M) (Ps := []) (by decide +kernel) rfl rfl trivial ?_
      have t13 : GM z mJ0_length_8abf5 (d + 3) [.ref 1002] M (fun rs => rs = .inl (some (.int (nI 55)), M)) := c_slen z _ _ 2 (by decide)
      refine G.callT (as := []) (rest := [.int (nI i6)]) (i := 2) oJ0_length_8abf5 lk_EvenFinders_Tape_63 (by decide +kernel) rfl (by decide) rfl (Nat.le_of_ble_eq_true rfl) rfl ⟨Nat.le_of_ble_eq_true rfl, Nat.le_of_ble_eq_true rfl⟩ t13 (fun v9 N9 h14 => ?_) (fun E9 N9 h14 => by cases h14)
      cases h14
      show G z mX6_indexIn (d + 4) 0 0 20 [some (.ref 1), some (.ref 1002), some (.int x2), some (.int s3), some (.int s4), some (.int s5), some (.int (nI i6)), none] [.int (nI 55), .int (nI i6)] M Q
      refine G.ic_ge (off := (85)) (tgt := 105) (by decide +kernel) rfl (fun _ => ?_) (fun h9 => absurd (nI_le (by omega) (by omega)) h9)
      refine G.loc (ls2 := [none, none, some (.int x2), some (.int s3), some (.int s4), some (.int s5), none, none]) (by simp [subL]) ?_
      simp only [t_indexIn_s2_14] at hX
      exact hX
  | succ k0 ih =>
      intro i6 s3 s4 s5 hn hk hX
      simp only [t_indexIn_s2_14_ok] at hk
      refine G.sl [(.iload 6, 2, 6, 0, 0, 0), (.aload_n 1, 1, 1, 0, 0, 0)] [] (pc2 := 17) (ls2 := [some (.ref 1), some (.ref 1002), some (.int x2), some (.int s3), some (.int s4), some (.int s5), some (.int (nI i6)), none]) (st2 := [.ref 1002, .int (nI i6)]) (M2 := M) (Ps := []) (by decide +kernel) rfl rfl trivial ?_
      have t1 : GM z mJ0_length_8abf5 (d + 3) [.ref 1002] M (fun rs => rs = .inl (some (.int (nI 55)), M)) := c_slen z _ _ 2 (by decide)
      refine G.callT (as := []) (rest := [.int (nI i6)]) (i := 2) oJ0_length_8abf5 lk_EvenFinders_Tape_63 (by decide +kernel) rfl (by decide) rfl (Nat.le_of_ble_eq_true rfl) rfl ⟨Nat.le_of_ble_eq_true rfl, Nat.le_of_ble_eq_true rfl⟩ t1 (fun v9 N9 h2 => ?_) (fun E9 N9 h2 => by cases h2)
      cases h2
      show G z mX6_indexIn (d + 4) 0 0 20 [some (.ref 1), some (.ref 1002), some (.int x2), some (.int s3), some (.int s4), some (.int s5), some (.int (nI i6)), none] [.int (nI 55), .int (nI i6)] M Q
      refine G.ic_ge (off := (85)) (tgt := 105) (by decide +kernel) rfl (fun h9 => absurd h9 (nI_ge (by omega) (by omega))) (fun _ => ?_)
      refine G.sl [(.aload_n 1, 1, 1, 0, 0, 0), (.iload 6, 2, 6, 0, 0, 0)] [] (pc2 := 26) (ls2 := [some (.ref 1), some (.ref 1002), some (.int x2), some (.int s3), some (.int s4), some (.int s5), some (.int (nI i6)), none]) (st2 := [.int (nI i6), .ref 1002]) (M2 := M) (Ps := []) (by decide +kernel) rfl rfl trivial ?_
      have t3 : GM z mJ0_charAt_5068e (d + 3) [.ref 1002, .int (nI i6)] M (fun rs => rs = .inl (some (.int (sby 2 i6)), M)) := c_charAt z _ _ 2 i6 (by decide) (show i6 < 55 from (by omega))
      refine G.callT (as := [.int (nI i6)]) (rest := []) (i := 2) oJ0_charAt_5068e lk_EvenFinders_Tape_67 (by decide +kernel) rfl (by decide) rfl (Nat.le_of_ble_eq_true rfl) rfl ⟨Nat.le_of_ble_eq_true rfl, Nat.le_of_ble_eq_true rfl⟩ t3 (fun v9 N9 h4 => ?_) (fun E9 N9 h4 => by cases h4)
      cases h4
      show G z mX6_indexIn (d + 4) 0 0 29 [some (.ref 1), some (.ref 1002), some (.int x2), some (.int s3), some (.int s4), some (.int s5), some (.int (nI i6)), none] [.int (sby 2 i6)] M Q
      refine G.sl [(.istore 7, 2, 7, 0, 0, 0), (.iload 7, 2, 7, 0, 0, 0), (.bipush 32, 2, 0, 0, 0, nI 32)] [] (pc2 := 35) (ls2 := [some (.ref 1), some (.ref 1002), some (.int x2), some (.int s3), some (.int s4), some (.int s5), some (.int (nI i6)), some (.int (sby 2 i6))]) (st2 := [.int (nI 32), .int (sby 2 i6)]) (M2 := M) (Ps := []) (by decide +kernel) rfl rfl trivial ?_
      refine G.ic_eq (off := (39)) (tgt := 74) (by decide +kernel) rfl (fun c5 => ?_) (fun c5 => ?_)
      · skip
        rw [if_pos c5] at hk
        refine G.sl [(.iload 5, 2, 5, 0, 0, 0)] [] (pc2 := 76) (ls2 := [some (.ref 1), some (.ref 1002), some (.int x2), some (.int s3), some (.int s4), some (.int s5), some (.int (nI i6)), some (.int (sby 2 i6))]) (st2 := [.int s5]) (M2 := M) (Ps := []) (by decide +kernel) rfl rfl trivial ?_
        refine G.if_eq (off := (11)) (tgt := 87) (by decide +kernel) rfl (fun c6 => ?_) (fun c6 => ?_)
        · skip
          rw [if_pos c6] at hk
          refine G.sl [(.iinc 3 1, 3, 3, 0, 0, nI 1), (.aload_n 0, 1, 0, 0, 0, 0), (.getfield 34, 3, 5, 6, 13, 0), (.istore 4, 2, 4, 0, 0, 0), (.iconst 1, 1, 0, 0, 0, nI 1), (.istore 5, 2, 5, 0, 0, 0), (.iinc 6 1, 3, 6, 0, 0, nI 1), (.goto (-88), 3, 14, 0, 0, 0)] [] (pc2 := 14) (ls2 := [some (.ref 1), some (.ref 1002), some (.int x2), some (.int (s3 + nI 1)), some (.int (M.1 1 6)), some (.int (nI 1)), some (.int ((nI i6) + nI 1)), some (.int (sby 2 i6))]) (st2 := []) (M2 := M) (Ps := []) (by decide +kernel) rfl rfl trivial ?_
          refine G.loc (ls2 := [some (.ref 1), some (.ref 1002), some (.int x2), some (.int (s3 + nI 1)), some (.int (M.1 1 6)), some (.int (nI 1)), some (.int ((nI i6) + nI 1)), none]) (by simp [subL]) ?_
          rw [nI_add i6 1]
          simp only [t_indexIn_s2_14, if_pos c5, if_pos c6] at hX
          exact ih (i6 + 1) (s3 + nI 1) (M.1 1 6) (nI 1) (by omega) hk hX
        · skip
          rw [if_neg c6] at hk
          refine G.sl [(.iload 4, 2, 4, 0, 0, 0), (.iload_n 2, 1, 2, 0, 0, 0)] [] (pc2 := 82) (ls2 := [some (.ref 1), some (.ref 1002), some (.int x2), some (.int s3), some (.int s4), some (.int s5), some (.int (nI i6)), some (.int (sby 2 i6))]) (st2 := [.int x2, .int s4]) (M2 := M) (Ps := []) (by decide +kernel) rfl rfl trivial ?_
          refine G.ic_ne (off := (5)) (tgt := 87) (by decide +kernel) rfl (fun c7 => ?_) (fun c7 => ?_)
          · skip
            rw [if_neg c7] at hk
            refine G.sl [(.iinc 3 1, 3, 3, 0, 0, nI 1), (.aload_n 0, 1, 0, 0, 0, 0), (.getfield 34, 3, 5, 6, 13, 0), (.istore 4, 2, 4, 0, 0, 0), (.iconst 1, 1, 0, 0, 0, nI 1), (.istore 5, 2, 5, 0, 0, 0), (.iinc 6 1, 3, 6, 0, 0, nI 1), (.goto (-88), 3, 14, 0, 0, 0)] [] (pc2 := 14) (ls2 := [some (.ref 1), some (.ref 1002), some (.int x2), some (.int (s3 + nI 1)), some (.int (M.1 1 6)), some (.int (nI 1)), some (.int ((nI i6) + nI 1)), some (.int (sby 2 i6))]) (st2 := []) (M2 := M) (Ps := []) (by decide +kernel) rfl rfl trivial ?_
            refine G.loc (ls2 := [some (.ref 1), some (.ref 1002), some (.int x2), some (.int (s3 + nI 1)), some (.int (M.1 1 6)), some (.int (nI 1)), some (.int ((nI i6) + nI 1)), none]) (by simp [subL]) ?_
            rw [nI_add i6 1]
            simp only [t_indexIn_s2_14, if_pos c5, if_neg c6, if_neg c7] at hX
            exact ih (i6 + 1) (s3 + nI 1) (M.1 1 6) (nI 1) (by omega) hk hX
          · skip
            rw [if_pos c7] at hk
            refine G.sl [(.iload_n 3, 1, 3, 0, 0, 0)] [] (pc2 := 86) (ls2 := [some (.ref 1), some (.ref 1002), some (.int x2), some (.int s3), some (.int s4), some (.int s5), some (.int (nI i6)), some (.int (sby 2 i6))]) (st2 := [.int s3]) (M2 := M) (Ps := []) (by decide +kernel) rfl rfl trivial ?_
            exact G.reti (by decide +kernel) rfl rfl (Nat.le_of_ble_eq_true rfl) (Nat.le_of_ble_eq_true rfl) ((by simp only [t_indexIn_s2_14, if_pos c5, if_neg c6, if_pos c7] at hX; exact hX))
      · skip
        rw [if_neg c5] at hk
        refine G.sl [(.iload 5, 2, 5, 0, 0, 0)] [] (pc2 := 40) (ls2 := [some (.ref 1), some (.ref 1002), some (.int x2), some (.int s3), some (.int s4), some (.int s5), some (.int (nI i6)), some (.int (sby 2 i6))]) (st2 := [.int s5]) (M2 := M) (Ps := []) (by decide +kernel) rfl rfl trivial ?_
        refine G.if_eq (off := (25)) (tgt := 65) (by decide +kernel) rfl (fun c8 => ?_) (fun c8 => ?_)
        · skip
          rw [if_pos c8] at hk
          refine G.sl [(.iconst 0, 1, 0, 0, 0, nI 0), (.istore 5, 2, 5, 0, 0, 0), (.iinc 4 1, 3, 4, 0, 0, nI 1), (.goto 28, 3, 99, 0, 0, 0), (.iinc 6 1, 3, 6, 0, 0, nI 1), (.goto (-88), 3, 14, 0, 0, 0)] [] (pc2 := 14) (ls2 := [some (.ref 1), some (.ref 1002), some (.int x2), some (.int s3), some (.int (s4 + nI 1)), some (.int (nI 0)), some (.int ((nI i6) + nI 1)), some (.int (sby 2 i6))]) (st2 := []) (M2 := M) (Ps := []) (by decide +kernel) rfl rfl trivial ?_
          refine G.loc (ls2 := [some (.ref 1), some (.ref 1002), some (.int x2), some (.int s3), some (.int (s4 + nI 1)), some (.int (nI 0)), some (.int ((nI i6) + nI 1)), none]) (by simp [subL]) ?_
          rw [nI_add i6 1]
          simp only [t_indexIn_s2_14, if_neg c5, if_pos c8] at hX
          exact ih (i6 + 1) s3 (s4 + nI 1) (nI 0) (by omega) hk hX
        · skip
          rw [if_neg c8] at hk
          refine G.sl [(.iload 4, 2, 4, 0, 0, 0), (.iload_n 2, 1, 2, 0, 0, 0)] [] (pc2 := 46) (ls2 := [some (.ref 1), some (.ref 1002), some (.int x2), some (.int s3), some (.int s4), some (.int s5), some (.int (nI i6)), some (.int (sby 2 i6))]) (st2 := [.int x2, .int s4]) (M2 := M) (Ps := []) (by decide +kernel) rfl rfl trivial ?_
          refine G.ic_ge (off := (19)) (tgt := 65) (by decide +kernel) rfl (fun c9 => ?_) (fun c9 => ?_)
          · skip
            rw [if_pos c9] at hk
            refine G.sl [(.iconst 0, 1, 0, 0, 0, nI 0), (.istore 5, 2, 5, 0, 0, 0), (.iinc 4 1, 3, 4, 0, 0, nI 1), (.goto 28, 3, 99, 0, 0, 0), (.iinc 6 1, 3, 6, 0, 0, nI 1), (.goto (-88), 3, 14, 0, 0, 0)] [] (pc2 := 14) (ls2 := [some (.ref 1), some (.ref 1002), some (.int x2), some (.int s3), some (.int (s4 + nI 1)), some (.int (nI 0)), some (.int ((nI i6) + nI 1)), some (.int (sby 2 i6))]) (st2 := []) (M2 := M) (Ps := []) (by decide +kernel) rfl rfl trivial ?_
            refine G.loc (ls2 := [some (.ref 1), some (.ref 1002), some (.int x2), some (.int s3), some (.int (s4 + nI 1)), some (.int (nI 0)), some (.int ((nI i6) + nI 1)), none]) (by simp [subL]) ?_
            rw [nI_add i6 1]
            simp only [t_indexIn_s2_14, if_neg c5, if_neg c8, if_pos c9] at hX
            exact ih (i6 + 1) s3 (s4 + nI 1) (nI 0) (by omega) hk hX
          · skip
            rw [if_neg c9] at hk
            obtain ⟨k10, k11, hk⟩ := hk
            refine G.sl [(.aload_n 0, 1, 0, 0, 0, 0), (.getfield 9, 3, 5, 0, 0, 0), (.iload 4, 2, 4, 0, 0, 0), (.iaload, 1, 0, 0, 0, 0), (.iload 7, 2, 7, 0, 0, 0)] [ix s4] (pc2 := 58) (ls2 := [some (.ref 1), some (.ref 1002), some (.int x2), some (.int s3), some (.int s4), some (.int s5), some (.int (nI i6)), some (.int (sby 2 i6))]) (st2 := [.int (sby 2 i6), .int (M.1 2 (ix s4))]) (M2 := M) (Ps := [s4 = nI (ix s4) ∧ (ix s4) < 600]) (by decide +kernel) rfl rfl ⟨⟨(ixE k10), k11⟩, trivial⟩ ?_
            refine G.ic_ne (off := (7)) (tgt := 65) (by decide +kernel) rfl (fun c12 => ?_) (fun c12 => ?_)
            · skip
              rw [if_neg c12] at hk
              refine G.sl [(.iconst 0, 1, 0, 0, 0, nI 0), (.istore 5, 2, 5, 0, 0, 0), (.iinc 4 1, 3, 4, 0, 0, nI 1), (.goto 28, 3, 99, 0, 0, 0), (.iinc 6 1, 3, 6, 0, 0, nI 1), (.goto (-88), 3, 14, 0, 0, 0)] [] (pc2 := 14) (ls2 := [some (.ref 1), some (.ref 1002), some (.int x2), some (.int s3), some (.int (s4 + nI 1)), some (.int (nI 0)), some (.int ((nI i6) + nI 1)), some (.int (sby 2 i6))]) (st2 := []) (M2 := M) (Ps := []) (by decide +kernel) rfl rfl trivial ?_
              refine G.loc (ls2 := [some (.ref 1), some (.ref 1002), some (.int x2), some (.int s3), some (.int (s4 + nI 1)), some (.int (nI 0)), some (.int ((nI i6) + nI 1)), none]) (by simp [subL]) ?_
              rw [nI_add i6 1]
              simp only [t_indexIn_s2_14, if_neg c5, if_neg c8, if_neg c9, if_neg c12] at hX
              exact ih (i6 + 1) s3 (s4 + nI 1) (nI 0) (by omega) hk hX
            · skip
              rw [if_pos c12] at hk
              refine G.sl [(.iconst 1, 1, 0, 0, 0, nI 1), (.goto 4, 3, 66, 0, 0, 0), (.istore 5, 2, 5, 0, 0, 0), (.iinc 4 1, 3, 4, 0, 0, nI 1), (.goto 28, 3, 99, 0, 0, 0), (.iinc 6 1, 3, 6, 0, 0, nI 1), (.goto (-88), 3, 14, 0, 0, 0)] [] (pc2 := 14) (ls2 := [some (.ref 1), some (.ref 1002), some (.int x2), some (.int s3), some (.int (s4 + nI 1)), some (.int (nI 1)), some (.int ((nI i6) + nI 1)), some (.int (sby 2 i6))]) (st2 := []) (M2 := M) (Ps := []) (by decide +kernel) rfl rfl trivial ?_
              refine G.loc (ls2 := [some (.ref 1), some (.ref 1002), some (.int x2), some (.int s3), some (.int (s4 + nI 1)), some (.int (nI 1)), some (.int ((nI i6) + nI 1)), none]) (by simp [subL]) ?_
              rw [nI_add i6 1]
              simp only [t_indexIn_s2_14, if_neg c5, if_neg c8, if_neg c9, if_pos c12] at hX
              exact ih (i6 + 1) s3 (s4 + nI 1) (nI 1) (by omega) hk hX
noncomputable def t_indexIn_s2 (Rtape Rbytes : Nat → Int32) (x2 : Int32) : Int32 := (match t_indexIn_s2_14 (Rtape) (Rbytes) x2 (cN 55) 0 (nI 0) (Rtape 6) (nI 1) with | .inl v20 => v20 | .inr (v17, v18, v19) => (if v19 = 0 then (-1) else (if v18 = x2 then v17 else (-1))))
noncomputable def t_indexIn_s2_ok (Rtape Rbytes : Nat → Int32) (x2 : Int32) : Prop := (t_indexIn_s2_14_ok (Rtape) (Rbytes) x2 (cN 55) 0 (nI 0) (Rtape 6) (nI 1) ∧ (match t_indexIn_s2_14 (Rtape) (Rbytes) x2 (cN 55) 0 (nI 0) (Rtape 6) (nI 1) with | .inl v20 => True | .inr (v17, v18, v19) => True))
set_option maxHeartbeats 4000000 in
set_option maxRecDepth 3000 in
theorem c_t_indexIn_s2_1 (z : Zp) (d : Nat) (M : Mem) (x2 : Int32) (hk : t_indexIn_s2_ok (M.1 1) (M.1 2) x2) : GM z mX6_indexIn (d + 4) [.ref 1, .ref 1002, .int x2] M (fun rs => rs = .inl (some (.int (t_indexIn_s2 (M.1 1) (M.1 2) x2)), M)) := by
  simp only [t_indexIn_s2_ok] at hk
  refine GM.of oX6_indexIn.1 (Nat.le_of_ble_eq_true rfl) ?_
  show G z mX6_indexIn (d + 4) 0 0 0 [some (.ref 1), some (.ref 1002), some (.int x2), none, none, none, none, none] [] M _
  obtain ⟨Q, hQ⟩ : ∃ Q : Rs → Prop, Q = (fun rs => rs = .inl (some (.int (t_indexIn_s2 (M.1 1) (M.1 2) x2)), M)) := ⟨_, rfl⟩
  rw [← hQ]
  refine G.sl [(.iconst 0, 1, 0, 0, 0, nI 0), (.istore_n 3, 1, 3, 0, 0, 0), (.aload_n 0, 1, 0, 0, 0, 0), (.getfield 34, 3, 5, 6, 13, 0), (.istore 4, 2, 4, 0, 0, 0), (.iconst 1, 1, 0, 0, 0, nI 1), (.istore 5, 2, 5, 0, 0, 0), (.iconst 0, 1, 0, 0, 0, nI 0), (.istore 6, 2, 6, 0, 0, 0)] [] (pc2 := 14) (ls2 := [some (.ref 1), some (.ref 1002), some (.int x2), some (.int (nI 0)), some (.int (M.1 1 6)), some (.int (nI 1)), some (.int (nI 0)), none]) (st2 := []) (M2 := M) (Ps := []) (by decide +kernel) rfl rfl trivial ?_
  obtain ⟨k15, hk⟩ := hk
  refine lp_t_indexIn_s2_1_14 z d M Q (cN 55) x2 (cN_eq 55) (cN 55) 0 (nI 0) (M.1 1 6) (nI 1) (Nat.zero_add _) (by first | (simp only [mput, mrow_same, mrow_hit, mrow_miss, mrow_sw, idr_eq, ne_eq, Nat.reduceEqDiff, not_false_eq_true, Nat.reduceLT, reduceCtorEq]; exact k15) | exact k15) ?_
  try simp only [mput, mrow_same, mrow_hit, mrow_miss, mrow_sw, idr_eq, ne_eq, Nat.reduceEqDiff, not_false_eq_true, Nat.reduceLT, reduceCtorEq]
  rcases g16 : t_indexIn_s2_14 (M.1 1) (M.1 2) x2 (cN 55) 0 (nI 0) (M.1 1 6) (nI 1) with v20 | ⟨v17, v18, v19⟩
  · skip
    show Q (.inl (some (.int v20), M))
    rw [hQ]
    simp only [t_indexIn_s2, g16, mrow_self]
  · skip
    show G z mX6_indexIn (d + 4) 0 0 105 [none, none, some (.int x2), some (.int v17), some (.int v18), some (.int v19), none, none] [] M Q
    refine G.sl [(.iload 5, 2, 5, 0, 0, 0)] [] (pc2 := 107) (ls2 := [none, none, some (.int x2), some (.int v17), some (.int v18), some (.int v19), none, none]) (st2 := [.int v19]) (M2 := M) (Ps := []) (by decide +kernel) rfl rfl trivial ?_
    refine G.if_eq (off := (13)) (tgt := 120) (by decide +kernel) rfl (fun c21 => ?_) (fun c21 => ?_)
    · skip
      refine G.sl [(.iconst (-1), 1, 0, 0, 0, (-1))] [] (pc2 := 121) (ls2 := [none, none, some (.int x2), some (.int v17), some (.int v18), some (.int v19), none, none]) (st2 := [.int ((-1))]) (M2 := M) (Ps := []) (by decide +kernel) rfl rfl trivial ?_
      exact G.reti (by decide +kernel) rfl rfl (Nat.le_of_ble_eq_true rfl) (Nat.le_of_ble_eq_true rfl) ((by rw [hQ]; simp only [t_indexIn_s2, g16, if_pos c21, mrow_self]))
    · skip
      refine G.sl [(.iload 4, 2, 4, 0, 0, 0), (.iload_n 2, 1, 2, 0, 0, 0)] [] (pc2 := 113) (ls2 := [none, none, some (.int x2), some (.int v17), some (.int v18), some (.int v19), none, none]) (st2 := [.int x2, .int v18]) (M2 := M) (Ps := []) (by decide +kernel) rfl rfl trivial ?_
      refine G.ic_ne (off := (7)) (tgt := 120) (by decide +kernel) rfl (fun c22 => ?_) (fun c22 => ?_)
      · skip
        refine G.sl [(.iconst (-1), 1, 0, 0, 0, (-1))] [] (pc2 := 121) (ls2 := [none, none, some (.int x2), some (.int v17), some (.int v18), some (.int v19), none, none]) (st2 := [.int ((-1))]) (M2 := M) (Ps := []) (by decide +kernel) rfl rfl trivial ?_
        exact G.reti (by decide +kernel) rfl rfl (Nat.le_of_ble_eq_true rfl) (Nat.le_of_ble_eq_true rfl) ((by rw [hQ]; simp only [t_indexIn_s2, g16, if_neg c21, if_neg c22, mrow_self]))
      · skip
        refine G.sl [(.iload_n 3, 1, 3, 0, 0, 0), (.goto 4, 3, 121, 0, 0, 0)] [] (pc2 := 121) (ls2 := [none, none, some (.int x2), some (.int v17), some (.int v18), some (.int v19), none, none]) (st2 := [.int v17]) (M2 := M) (Ps := []) (by decide +kernel) rfl rfl trivial ?_
        exact G.reti (by decide +kernel) rfl rfl (Nat.le_of_ble_eq_true rfl) (Nat.le_of_ble_eq_true rfl) ((by rw [hQ]; simp only [t_indexIn_s2, g16, if_neg c21, if_pos c22, mrow_self]))
noncomputable def t_word_s2 (Rtape Rbytes : Nat → Int32) : Int32 × (Nat → Int32) := (match t_next (Rtape) (Rbytes) with | (v3, r4) => (if (r4 2) = 0 then (if (t_indexIn_s2 r4 (Rbytes) (t_word_s2_19 r4 (Rbytes) FU (r4 6))) = ((-1)) then (match t_fail r4 (nI 1) (r4 4) with | (u20, r21) => (t_indexIn_s2 r4 (Rbytes) (t_word_s2_19 r4 (Rbytes) FU (r4 6)), r21)) else (t_indexIn_s2 r4 (Rbytes) (t_word_s2_19 r4 (Rbytes) FU (r4 6)), upd r4 6 (t_word_s2_19 r4 (Rbytes) FU (r4 6)))) else ((-1), r4)))
noncomputable def t_word_s2_ok (Rtape Rbytes : Nat → Int32) : Prop := (t_next_ok (Rtape) (Rbytes) ∧ (match t_next (Rtape) (Rbytes) with | (v3, r4) => (if (r4 2) = 0 then (t_word_s2_19_ok r4 (Rbytes) FU (r4 6) ∧ (t_indexIn_s2_ok r4 (Rbytes) (t_word_s2_19 r4 (Rbytes) FU (r4 6)) ∧ True)) else True)))
set_option maxHeartbeats 4000000 in
set_option maxRecDepth 3000 in
theorem c_t_word_s2_1 (z : Zp) (d : Nat) (M : Mem) (hk : t_word_s2_ok (M.1 1) (M.1 2)) : GM z mX6_word (d + 5) [.ref 1, .ref 1002] M (fun rs => rs = .inl (some (.int ((t_word_s2 (M.1 1) (M.1 2)).1)), mrow M 1 ((t_word_s2 (M.1 1) (M.1 2)).2))) := by
  simp only [t_word_s2_ok] at hk
  refine GM.of oX6_word.1 (Nat.le_of_ble_eq_true rfl) ?_
  show G z mX6_word (d + 5) 0 0 0 [some (.ref 1), some (.ref 1002), none, none] [] M _
  obtain ⟨Q, hQ⟩ : ∃ Q : Rs → Prop, Q = (fun rs => rs = .inl (some (.int ((t_word_s2 (M.1 1) (M.1 2)).1)), mrow M 1 ((t_word_s2 (M.1 1) (M.1 2)).2))) := ⟨_, rfl⟩
  rw [← hQ]
  refine G.sl [(.aload_n 0, 1, 0, 0, 0, 0)] [] (pc2 := 1) (ls2 := [some (.ref 1), some (.ref 1002), none, none]) (st2 := [.ref 1]) (M2 := M) (Ps := []) (by decide +kernel) rfl rfl trivial ?_
  obtain ⟨k1, hk⟩ := hk
  rcases g2 : t_next (M.1 1) (M.1 2) with ⟨v3, r4⟩
  try simp only [g2] at hk
  have t5 : GM z mX6_next (d + 4) [.ref 1] M (fun rs => rs = .inl (some (.int v3), mrow M 1 r4)) := by
    have q9 := c_t_next_1 z (d + 4) M k1
    try simp only [mput, mrow_same, mrow_hit, mrow_miss, mrow_sw, idr_eq, ne_eq, Nat.reduceEqDiff, not_false_eq_true, Nat.reduceLT, reduceCtorEq, g2] at q9
    exact q9
  refine G.callV (as := []) (rest := []) (a := 1) oX6_next lk_EvenFinders_Tape_43 (by decide +kernel) rfl rfl ⟨rfl, rfl⟩ (Nat.le_of_ble_eq_true rfl) rfl ⟨Nat.le_of_ble_eq_true rfl, Nat.le_of_ble_eq_true rfl⟩ t5 (fun v9 N9 h6 => ?_) (fun E9 N9 h6 => by cases h6)
  cases h6
  show G z mX6_word (d + 5) 0 0 4 [some (.ref 1), some (.ref 1002), none, none] [.int v3] (mrow M 1 r4) Q
  refine G.sl [(.pop, 1, 0, 0, 0, 0), (.aload_n 0, 1, 0, 0, 0, 0), (.getfield 37, 3, 5, 2, 3, 0)] [] (pc2 := 9) (ls2 := [some (.ref 1), some (.ref 1002), none, none]) (st2 := [.int (r4 2)]) (M2 := mrow M 1 r4) (Ps := []) (by decide +kernel) rfl rfl trivial ?_
  refine G.if_eq (off := (5)) (tgt := 14) (by decide +kernel) rfl (fun c7 => ?_) (fun c7 => ?_)
  · skip
    rw [if_pos c7] at hk
    refine G.sl [(.aload_n 0, 1, 0, 0, 0, 0), (.getfield 34, 3, 5, 6, 13, 0), (.istore_n 2, 1, 2, 0, 0, 0)] [] (pc2 := 19) (ls2 := [some (.ref 1), some (.ref 1002), some (.int (r4 6)), none]) (st2 := []) (M2 := mrow M 1 r4) (Ps := []) (by decide +kernel) rfl rfl trivial ?_
    obtain ⟨k13, hk⟩ := hk
    refine lp_t_word_s2_1_19 z d (mrow M 1 r4) Q FU (r4 6) (by first | (simp only [mput, mrow_same, mrow_hit, mrow_miss, mrow_sw, idr_eq, ne_eq, Nat.reduceEqDiff, not_false_eq_true, Nat.reduceLT, reduceCtorEq]; exact k13) | exact k13) ?_
    try simp only [mput, mrow_same, mrow_hit, mrow_miss, mrow_sw, idr_eq, ne_eq, Nat.reduceEqDiff, not_false_eq_true, Nat.reduceLT, reduceCtorEq]
    show G z mX6_word (d + 5) 0 0 55 [some (.ref 1), some (.ref 1002), some (.int (t_word_s2_19 r4 (M.1 2) FU (r4 6))), none] [] (mrow M 1 r4) Q
    refine G.sl [(.aload_n 0, 1, 0, 0, 0, 0), (.aload_n 1, 1, 1, 0, 0, 0), (.iload_n 2, 1, 2, 0, 0, 0)] [] (pc2 := 58) (ls2 := [some (.ref 1), some (.ref 1002), some (.int (t_word_s2_19 r4 (M.1 2) FU (r4 6))), none]) (st2 := [.int (t_word_s2_19 r4 (M.1 2) FU (r4 6)), .ref 1002, .ref 1]) (M2 := mrow M 1 r4) (Ps := []) (by decide +kernel) rfl rfl trivial ?_
    obtain ⟨k14, hk⟩ := hk
    have t15 : GM z mX6_indexIn (d + 4) [.ref 1, .ref 1002, .int (t_word_s2_19 r4 (M.1 2) FU (r4 6))] (mrow M 1 r4) (fun rs => rs = .inl (some (.int (t_indexIn_s2 r4 (M.1 2) (t_word_s2_19 r4 (M.1 2) FU (r4 6)))), mrow M 1 r4)) := by
      have q9 := c_t_indexIn_s2_1 z d (mrow M 1 r4) (t_word_s2_19 r4 (M.1 2) FU (r4 6)) k14
      try simp only [mput, mrow_same, mrow_hit, mrow_miss, mrow_sw, idr_eq, ne_eq, Nat.reduceEqDiff, not_false_eq_true, Nat.reduceLT, reduceCtorEq] at q9
      exact q9
    refine G.callV (as := [.ref 1002, .int (t_word_s2_19 r4 (M.1 2) FU (r4 6))]) (rest := []) (a := 1) oX6_indexIn lk_EvenFinders_Tape_59 (by decide +kernel) rfl rfl ⟨rfl, rfl⟩ (Nat.le_of_ble_eq_true rfl) rfl ⟨Nat.le_of_ble_eq_true rfl, Nat.le_of_ble_eq_true rfl⟩ t15 (fun v9 N9 h16 => ?_) (fun E9 N9 h16 => by cases h16)
    cases h16
    show G z mX6_word (d + 5) 0 0 61 [some (.ref 1), some (.ref 1002), some (.int (t_word_s2_19 r4 (M.1 2) FU (r4 6))), none] [.int (t_indexIn_s2 r4 (M.1 2) (t_word_s2_19 r4 (M.1 2) FU (r4 6)))] (mrow M 1 r4) Q
    refine G.sl [(.istore_n 3, 1, 3, 0, 0, 0), (.iload_n 3, 1, 3, 0, 0, 0), (.iconst (-1), 1, 0, 0, 0, (-1))] [] (pc2 := 64) (ls2 := [some (.ref 1), some (.ref 1002), some (.int (t_word_s2_19 r4 (M.1 2) FU (r4 6))), some (.int (t_indexIn_s2 r4 (M.1 2) (t_word_s2_19 r4 (M.1 2) FU (r4 6))))]) (st2 := [.int ((-1)), .int (t_indexIn_s2 r4 (M.1 2) (t_word_s2_19 r4 (M.1 2) FU (r4 6)))]) (M2 := mrow M 1 r4) (Ps := []) (by decide +kernel) rfl rfl trivial ?_
    refine G.ic_ne (off := (15)) (tgt := 79) (by decide +kernel) rfl (fun c17 => ?_) (fun c17 => ?_)
    · skip
      refine G.sl [(.aload_n 0, 1, 0, 0, 0, 0), (.iload_n 2, 1, 2, 0, 0, 0), (.putfield 34, 3, 5, 6, 13, 0), (.iload_n 3, 1, 3, 0, 0, 0)] [] (pc2 := 85) (ls2 := [some (.ref 1), some (.ref 1002), some (.int (t_word_s2_19 r4 (M.1 2) FU (r4 6))), some (.int (t_indexIn_s2 r4 (M.1 2) (t_word_s2_19 r4 (M.1 2) FU (r4 6))))]) (st2 := [.int (t_indexIn_s2 r4 (M.1 2) (t_word_s2_19 r4 (M.1 2) FU (r4 6)))]) (M2 := mput (mrow M 1 r4) 1 6 (t_word_s2_19 r4 (M.1 2) FU (r4 6))) (Ps := []) (by decide +kernel) rfl rfl trivial ?_
      refine G.mem (M' := mrow M 1 (upd r4 6 (t_word_s2_19 r4 (M.1 2) FU (r4 6)))) (by first | rfl | (simp only [mput, mrow_same, mrow_hit, mrow_miss, mrow_sw, idr_eq, ne_eq, Nat.reduceEqDiff, not_false_eq_true, Nat.reduceLT, reduceCtorEq]; done)) ?_
      exact G.reti (by decide +kernel) rfl rfl (Nat.le_of_ble_eq_true rfl) (Nat.le_of_ble_eq_true rfl) ((by rw [hQ]; simp only [t_word_s2, g2, if_pos c7, if_neg c17, mrow_self]))
    · skip
      refine G.sl [(.aload_n 0, 1, 0, 0, 0, 0), (.iconst 1, 1, 0, 0, 0, nI 1), (.aload_n 0, 1, 0, 0, 0, 0), (.getfield 40, 3, 5, 4, 7, 0)] [] (pc2 := 73) (ls2 := [some (.ref 1), some (.ref 1002), some (.int (t_word_s2_19 r4 (M.1 2) FU (r4 6))), some (.int (t_indexIn_s2 r4 (M.1 2) (t_word_s2_19 r4 (M.1 2) FU (r4 6))))]) (st2 := [.int (r4 4), .int (nI 1), .ref 1]) (M2 := mrow M 1 r4) (Ps := []) (by decide +kernel) rfl rfl trivial ?_
      rcases g19 : t_fail r4 (nI 1) (r4 4) with ⟨u20, r21⟩
      have t22 : GM z mX6_fail (d + 4) [.ref 1, .int (nI 1), .int (r4 4)] (mrow M 1 r4) (fun rs => rs = .inl (none, mrow M 1 r21)) := by
        have q9 := c_t_fail_1 z (d + 4) (mrow M 1 r4) (nI 1) (r4 4)
        try simp only [mput, mrow_same, mrow_hit, mrow_miss, mrow_sw, idr_eq, ne_eq, Nat.reduceEqDiff, not_false_eq_true, Nat.reduceLT, reduceCtorEq, g19] at q9
        exact q9
      refine G.callV (as := [.int (nI 1), .int (r4 4)]) (rest := []) (a := 1) oX6_fail lk_EvenFinders_Tape_51 (by decide +kernel) rfl rfl ⟨rfl, rfl⟩ (Nat.le_of_ble_eq_true rfl) rfl ⟨Nat.le_of_ble_eq_true rfl, Nat.le_of_ble_eq_true rfl⟩ t22 (fun v9 N9 h23 => ?_) (fun E9 N9 h23 => by cases h23)
      cases h23
      show G z mX6_word (d + 5) 0 0 76 [some (.ref 1), some (.ref 1002), some (.int (t_word_s2_19 r4 (M.1 2) FU (r4 6))), some (.int (t_indexIn_s2 r4 (M.1 2) (t_word_s2_19 r4 (M.1 2) FU (r4 6))))] [] (mrow M 1 r21) Q
      refine G.sl [(.goto 8, 3, 84, 0, 0, 0), (.iload_n 3, 1, 3, 0, 0, 0)] [] (pc2 := 85) (ls2 := [some (.ref 1), some (.ref 1002), some (.int (t_word_s2_19 r4 (M.1 2) FU (r4 6))), some (.int (t_indexIn_s2 r4 (M.1 2) (t_word_s2_19 r4 (M.1 2) FU (r4 6))))]) (st2 := [.int (t_indexIn_s2 r4 (M.1 2) (t_word_s2_19 r4 (M.1 2) FU (r4 6)))]) (M2 := mrow M 1 r21) (Ps := []) (by decide +kernel) rfl rfl trivial ?_
      exact G.reti (by decide +kernel) rfl rfl (Nat.le_of_ble_eq_true rfl) (Nat.le_of_ble_eq_true rfl) ((by rw [hQ]; simp only [t_word_s2, g2, if_pos c7, if_pos c17, g19, mrow_self]))
  · skip
    rw [if_neg c7] at hk
    refine G.sl [(.iconst (-1), 1, 0, 0, 0, (-1))] [] (pc2 := 13) (ls2 := [some (.ref 1), some (.ref 1002), none, none]) (st2 := [.int ((-1))]) (M2 := mrow M 1 r4) (Ps := []) (by decide +kernel) rfl rfl trivial ?_
    exact G.reti (by decide +kernel) rfl rfl (Nat.le_of_ble_eq_true rfl) (Nat.le_of_ble_eq_true rfl) ((by rw [hQ]; simp only [t_word_s2, g2, if_neg c7, mrow_self]))
noncomputable def l_readPair (fz : (Nat → Int32) → (Nat → Int32) → (Nat → Int32) → (Nat → Int32) → Int32 → Int32 × (Nat → Int32) × (Nat → Int32) × (Nat → Int32)) (Rtape Rbytes Rlaw Rcodes : Nat → Int32) (x2 : Int32) (x3 : Int32) : Int32 × (Nat → Int32) × (Nat → Int32) × (Nat → Int32) := (if x2 < (nI 6) then (match t_needSign (Rtape) (Rbytes) (nI 91) with | (u4, r5) => (match fz r5 (Rbytes) (Rlaw) (Rcodes) (x2 + (nI 1)) with | (u10, r11, r12, r13) => (match t_needSign r11 (Rbytes) (nI 44) with | (u18, r19) => (match fz r19 (Rbytes) r12 r13 (x2 + (nI 1)) with | (u24, r25, r26, r27) => (match t_needSign r25 (Rbytes) (nI 93) with | (u32, r33) => (match l_put r26 r27 ((nI 2000) + x3) with | (u38, r39, r40) => (0, r33, r39, r40))))))) else (match t_fail (Rtape) (nI 3) (Rtape 4) with | (u45, r46) => (0, r46, Rlaw, Rcodes)))
noncomputable def l_readPair_ok (fz : (Nat → Int32) → (Nat → Int32) → (Nat → Int32) → (Nat → Int32) → Int32 → Int32 × (Nat → Int32) × (Nat → Int32) × (Nat → Int32)) (gz : (Nat → Int32) → (Nat → Int32) → (Nat → Int32) → (Nat → Int32) → Int32 → Prop) (Rtape Rbytes Rlaw Rcodes : Nat → Int32) (x2 : Int32) (x3 : Int32) : Prop := (if x2 < (nI 6) then (t_needSign_ok (Rtape) (Rbytes) (nI 91) ∧ (match t_needSign (Rtape) (Rbytes) (nI 91) with | (u4, r5) => (gz r5 (Rbytes) (Rlaw) (Rcodes) (x2 + (nI 1)) ∧ (match fz r5 (Rbytes) (Rlaw) (Rcodes) (x2 + (nI 1)) with | (u10, r11, r12, r13) => (t_needSign_ok r11 (Rbytes) (nI 44) ∧ (match t_needSign r11 (Rbytes) (nI 44) with | (u18, r19) => (gz r19 (Rbytes) r12 r13 (x2 + (nI 1)) ∧ (match fz r19 (Rbytes) r12 r13 (x2 + (nI 1)) with | (u24, r25, r26, r27) => (t_needSign_ok r25 (Rbytes) (nI 93) ∧ (match t_needSign r25 (Rbytes) (nI 93) with | (u32, r33) => (l_put_ok r26 r27 ((nI 2000) + x3) ∧ True))))))))))) else True)
set_option maxHeartbeats 4000000 in
set_option maxRecDepth 3000 in
theorem c_l_readPair_25_1 (z : Zp) (d : Nat) (M : Mem) (x2 : Int32) (x3 : Int32) (fz : (Nat → Int32) → (Nat → Int32) → (Nat → Int32) → (Nat → Int32) → Int32 → Int32 × (Nat → Int32) × (Nat → Int32) × (Nat → Int32)) (gz : (Nat → Int32) → (Nat → Int32) → (Nat → Int32) → (Nat → Int32) → Int32 → Prop) (Hz : ∀ (j : Nat) (M : Mem) (x2 : Int32), gz (M.1 1) (M.1 2) (M.1 25) (M.1 27) x2 → GM z mX3_readSum (d + j) [.ref 25, .ref 1, .int x2] M (fun rs => rs = .inl (none, mrow (mrow (mrow M 1 ((fz (M.1 1) (M.1 2) (M.1 25) (M.1 27) x2).2.1)) 25 ((fz (M.1 1) (M.1 2) (M.1 25) (M.1 27) x2).2.2.1)) 27 ((fz (M.1 1) (M.1 2) (M.1 25) (M.1 27) x2).2.2.2)))) (hk : l_readPair_ok fz gz (M.1 1) (M.1 2) (M.1 25) (M.1 27) x2 x3) : GM z mX3_readPair (d + 3) [.ref 25, .ref 1, .int x2, .int x3] M (fun rs => rs = .inl (none, mrow (mrow (mrow M 1 ((l_readPair fz (M.1 1) (M.1 2) (M.1 25) (M.1 27) x2 x3).2.1)) 25 ((l_readPair fz (M.1 1) (M.1 2) (M.1 25) (M.1 27) x2 x3).2.2.1)) 27 ((l_readPair fz (M.1 1) (M.1 2) (M.1 25) (M.1 27) x2 x3).2.2.2))) := by
  simp only [l_readPair_ok] at hk
  refine GM.of oX3_readPair.1 (Nat.le_of_ble_eq_true rfl) ?_
  show G z mX3_readPair (d + 3) 0 0 0 [some (.ref 25), some (.ref 1), some (.int x2), some (.int x3)] [] M _
  obtain ⟨Q, hQ⟩ : ∃ Q : Rs → Prop, Q = (fun rs => rs = .inl (none, mrow (mrow (mrow M 1 ((l_readPair fz (M.1 1) (M.1 2) (M.1 25) (M.1 27) x2 x3).2.1)) 25 ((l_readPair fz (M.1 1) (M.1 2) (M.1 25) (M.1 27) x2 x3).2.2.1)) 27 ((l_readPair fz (M.1 1) (M.1 2) (M.1 25) (M.1 27) x2 x3).2.2.2))) := ⟨_, rfl⟩
  rw [← hQ]
  refine G.sl [(.iload_n 2, 1, 2, 0, 0, 0), (.bipush 6, 2, 0, 0, 0, nI 6)] [] (pc2 := 3) (ls2 := [some (.ref 25), some (.ref 1), some (.int x2), some (.int x3)]) (st2 := [.int (nI 6), .int x2]) (M2 := M) (Ps := []) (by decide +kernel) rfl rfl trivial ?_
  refine G.ic_lt (off := (13)) (tgt := 16) (by decide +kernel) rfl (fun c1 => ?_) (fun c1 => ?_)
  · skip
    rw [if_pos c1] at hk
    refine G.sl [(.aload_n 1, 1, 1, 0, 0, 0), (.bipush 91, 2, 0, 0, 0, nI 91)] [] (pc2 := 19) (ls2 := [some (.ref 25), some (.ref 1), some (.int x2), some (.int x3)]) (st2 := [.int (nI 91), .ref 1]) (M2 := M) (Ps := []) (by decide +kernel) rfl rfl trivial ?_
    obtain ⟨k2, hk⟩ := hk
    rcases g3 : t_needSign (M.1 1) (M.1 2) (nI 91) with ⟨u4, r5⟩
    try simp only [g3] at hk
    have t6 : GM z mX6_needSign (d + 2) [.ref 1, .int (nI 91)] M (fun rs => rs = .inl (none, mrow M 1 r5)) := by
      have q9 := c_t_needSign_1 z d M (nI 91) k2
      try simp only [mput, mrow_same, mrow_hit, mrow_miss, mrow_sw, idr_eq, ne_eq, Nat.reduceEqDiff, not_false_eq_true, Nat.reduceLT, reduceCtorEq, g3] at q9
      exact q9
    refine G.callV (as := [.int (nI 91)]) (rest := []) (a := 1) oX6_needSign lk_EvenFinders_Law_51 (by decide +kernel) rfl rfl ⟨rfl, rfl⟩ (Nat.le_of_ble_eq_true rfl) rfl ⟨Nat.le_of_ble_eq_true rfl, Nat.le_of_ble_eq_true rfl⟩ t6 (fun v9 N9 h7 => ?_) (fun E9 N9 h7 => by cases h7)
    cases h7
    show G z mX3_readPair (d + 3) 0 0 22 [some (.ref 25), some (.ref 1), some (.int x2), some (.int x3)] [] (mrow M 1 r5) Q
    refine G.sl [(.aload_n 0, 1, 0, 0, 0, 0), (.aload_n 1, 1, 1, 0, 0, 0), (.iload_n 2, 1, 2, 0, 0, 0), (.iconst 1, 1, 0, 0, 0, nI 1), (.iadd, 1, 0, 0, 0, 0)] [] (pc2 := 27) (ls2 := [some (.ref 25), some (.ref 1), some (.int x2), some (.int x3)]) (st2 := [.int (x2 + (nI 1)), .ref 1, .ref 25]) (M2 := mrow M 1 r5) (Ps := []) (by decide +kernel) rfl rfl trivial ?_
    obtain ⟨k8, hk⟩ := hk
    rcases g9 : fz r5 (M.1 2) (M.1 25) (M.1 27) (x2 + (nI 1)) with ⟨u10, r11, r12, r13⟩
    try simp only [g9] at hk
    have t14 : GM z mX3_readSum (d + 2) [.ref 25, .ref 1, .int (x2 + (nI 1))] (mrow M 1 r5) (fun rs => rs = .inl (none, mrow (mrow (mrow M 1 r11) 25 r12) 27 r13)) := by
      have q9 := Hz 2 (mrow M 1 r5) (x2 + (nI 1))
      try simp only [mput, mrow_same, mrow_hit, mrow_miss, mrow_sw, idr_eq, ne_eq, Nat.reduceEqDiff, not_false_eq_true, Nat.reduceLT, reduceCtorEq, g9] at q9
      exact q9 (by first | exact k8 | (simp only [mput, mrow_same, mrow_hit, mrow_miss, mrow_sw, idr_eq, ne_eq, Nat.reduceEqDiff, not_false_eq_true, Nat.reduceLT, reduceCtorEq]; exact k8))
    refine G.callV (as := [.ref 1, .int (x2 + (nI 1))]) (rest := []) (a := 25) oX3_readSum lk_EvenFinders_Law_31 (by decide +kernel) rfl rfl ⟨rfl, rfl⟩ (Nat.le_of_ble_eq_true rfl) rfl ⟨Nat.le_of_ble_eq_true rfl, Nat.le_of_ble_eq_true rfl⟩ t14 (fun v9 N9 h15 => ?_) (fun E9 N9 h15 => by cases h15)
    cases h15
    show G z mX3_readPair (d + 3) 0 0 30 [some (.ref 25), some (.ref 1), some (.int x2), some (.int x3)] [] (mrow (mrow (mrow M 1 r11) 25 r12) 27 r13) Q
    refine G.sl [(.aload_n 1, 1, 1, 0, 0, 0), (.bipush 44, 2, 0, 0, 0, nI 44)] [] (pc2 := 33) (ls2 := [some (.ref 25), some (.ref 1), some (.int x2), some (.int x3)]) (st2 := [.int (nI 44), .ref 1]) (M2 := mrow (mrow (mrow M 1 r11) 25 r12) 27 r13) (Ps := []) (by decide +kernel) rfl rfl trivial ?_
    obtain ⟨k16, hk⟩ := hk
    rcases g17 : t_needSign r11 (M.1 2) (nI 44) with ⟨u18, r19⟩
    try simp only [g17] at hk
    have t20 : GM z mX6_needSign (d + 2) [.ref 1, .int (nI 44)] (mrow (mrow (mrow M 1 r11) 25 r12) 27 r13) (fun rs => rs = .inl (none, mrow (mrow (mrow M 1 r19) 25 r12) 27 r13)) := by
      have q9 := c_t_needSign_1 z d (mrow (mrow (mrow M 1 r11) 25 r12) 27 r13) (nI 44) k16
      try simp only [mput, mrow_same, mrow_hit, mrow_miss, mrow_sw, idr_eq, ne_eq, Nat.reduceEqDiff, not_false_eq_true, Nat.reduceLT, reduceCtorEq, g17] at q9
      exact q9
    refine G.callV (as := [.int (nI 44)]) (rest := []) (a := 1) oX6_needSign lk_EvenFinders_Law_51 (by decide +kernel) rfl rfl ⟨rfl, rfl⟩ (Nat.le_of_ble_eq_true rfl) rfl ⟨Nat.le_of_ble_eq_true rfl, Nat.le_of_ble_eq_true rfl⟩ t20 (fun v9 N9 h21 => ?_) (fun E9 N9 h21 => by cases h21)
    cases h21
    show G z mX3_readPair (d + 3) 0 0 36 [some (.ref 25), some (.ref 1), some (.int x2), some (.int x3)] [] (mrow (mrow (mrow M 1 r19) 25 r12) 27 r13) Q
    refine G.sl [(.aload_n 0, 1, 0, 0, 0, 0), (.aload_n 1, 1, 1, 0, 0, 0), (.iload_n 2, 1, 2, 0, 0, 0), (.iconst 1, 1, 0, 0, 0, nI 1), (.iadd, 1, 0, 0, 0, 0)] [] (pc2 := 41) (ls2 := [some (.ref 25), some (.ref 1), some (.int x2), some (.int x3)]) (st2 := [.int (x2 + (nI 1)), .ref 1, .ref 25]) (M2 := mrow (mrow (mrow M 1 r19) 25 r12) 27 r13) (Ps := []) (by decide +kernel) rfl rfl trivial ?_
    obtain ⟨k22, hk⟩ := hk
    rcases g23 : fz r19 (M.1 2) r12 r13 (x2 + (nI 1)) with ⟨u24, r25, r26, r27⟩
    try simp only [g23] at hk
    have t28 : GM z mX3_readSum (d + 2) [.ref 25, .ref 1, .int (x2 + (nI 1))] (mrow (mrow (mrow M 1 r19) 25 r12) 27 r13) (fun rs => rs = .inl (none, mrow (mrow (mrow M 1 r25) 25 r26) 27 r27)) := by
      have q9 := Hz 2 (mrow (mrow (mrow M 1 r19) 25 r12) 27 r13) (x2 + (nI 1))
      try simp only [mput, mrow_same, mrow_hit, mrow_miss, mrow_sw, idr_eq, ne_eq, Nat.reduceEqDiff, not_false_eq_true, Nat.reduceLT, reduceCtorEq, g23] at q9
      exact q9 (by first | exact k22 | (simp only [mput, mrow_same, mrow_hit, mrow_miss, mrow_sw, idr_eq, ne_eq, Nat.reduceEqDiff, not_false_eq_true, Nat.reduceLT, reduceCtorEq]; exact k22))
    refine G.callV (as := [.ref 1, .int (x2 + (nI 1))]) (rest := []) (a := 25) oX3_readSum lk_EvenFinders_Law_31 (by decide +kernel) rfl rfl ⟨rfl, rfl⟩ (Nat.le_of_ble_eq_true rfl) rfl ⟨Nat.le_of_ble_eq_true rfl, Nat.le_of_ble_eq_true rfl⟩ t28 (fun v9 N9 h29 => ?_) (fun E9 N9 h29 => by cases h29)
    cases h29
    show G z mX3_readPair (d + 3) 0 0 44 [some (.ref 25), some (.ref 1), some (.int x2), some (.int x3)] [] (mrow (mrow (mrow M 1 r25) 25 r26) 27 r27) Q
    refine G.sl [(.aload_n 1, 1, 1, 0, 0, 0), (.bipush 93, 2, 0, 0, 0, nI 93)] [] (pc2 := 47) (ls2 := [some (.ref 25), some (.ref 1), some (.int x2), some (.int x3)]) (st2 := [.int (nI 93), .ref 1]) (M2 := mrow (mrow (mrow M 1 r25) 25 r26) 27 r27) (Ps := []) (by decide +kernel) rfl rfl trivial ?_
    obtain ⟨k30, hk⟩ := hk
    rcases g31 : t_needSign r25 (M.1 2) (nI 93) with ⟨u32, r33⟩
    try simp only [g31] at hk
    have t34 : GM z mX6_needSign (d + 2) [.ref 1, .int (nI 93)] (mrow (mrow (mrow M 1 r25) 25 r26) 27 r27) (fun rs => rs = .inl (none, mrow (mrow (mrow M 1 r33) 25 r26) 27 r27)) := by
      have q9 := c_t_needSign_1 z d (mrow (mrow (mrow M 1 r25) 25 r26) 27 r27) (nI 93) k30
      try simp only [mput, mrow_same, mrow_hit, mrow_miss, mrow_sw, idr_eq, ne_eq, Nat.reduceEqDiff, not_false_eq_true, Nat.reduceLT, reduceCtorEq, g31] at q9
      exact q9
    refine G.callV (as := [.int (nI 93)]) (rest := []) (a := 1) oX6_needSign lk_EvenFinders_Law_51 (by decide +kernel) rfl rfl ⟨rfl, rfl⟩ (Nat.le_of_ble_eq_true rfl) rfl ⟨Nat.le_of_ble_eq_true rfl, Nat.le_of_ble_eq_true rfl⟩ t34 (fun v9 N9 h35 => ?_) (fun E9 N9 h35 => by cases h35)
    cases h35
    show G z mX3_readPair (d + 3) 0 0 50 [some (.ref 25), some (.ref 1), some (.int x2), some (.int x3)] [] (mrow (mrow (mrow M 1 r33) 25 r26) 27 r27) Q
    refine G.sl [(.aload_n 0, 1, 0, 0, 0, 0), (.sipush 2000, 3, 0, 0, 0, nI 2000), (.iload_n 3, 1, 3, 0, 0, 0), (.iadd, 1, 0, 0, 0, 0)] [] (pc2 := 56) (ls2 := [some (.ref 25), some (.ref 1), some (.int x2), some (.int x3)]) (st2 := [.int ((nI 2000) + x3), .ref 25]) (M2 := mrow (mrow (mrow M 1 r33) 25 r26) 27 r27) (Ps := []) (by decide +kernel) rfl rfl trivial ?_
    obtain ⟨k36, hk⟩ := hk
    rcases g37 : l_put r26 r27 ((nI 2000) + x3) with ⟨u38, r39, r40⟩
    have t41 : GM z mX3_put (d + 2) [.ref 25, .int ((nI 2000) + x3)] (mrow (mrow (mrow M 1 r33) 25 r26) 27 r27) (fun rs => rs = .inl (none, mrow (mrow (mrow M 1 r33) 25 r39) 27 r40)) := by
      have q9 := c_l_put_25 z (d + 2) (mrow (mrow (mrow M 1 r33) 25 r26) 27 r27) ((nI 2000) + x3) k36
      try simp only [mput, mrow_same, mrow_hit, mrow_miss, mrow_sw, idr_eq, ne_eq, Nat.reduceEqDiff, not_false_eq_true, Nat.reduceLT, reduceCtorEq, g37] at q9
      exact q9
    refine G.callV (as := [.int ((nI 2000) + x3)]) (rest := []) (a := 25) oX3_put lk_EvenFinders_Law_55 (by decide +kernel) rfl rfl ⟨rfl, rfl⟩ (Nat.le_of_ble_eq_true rfl) rfl ⟨Nat.le_of_ble_eq_true rfl, Nat.le_of_ble_eq_true rfl⟩ t41 (fun v9 N9 h42 => ?_) (fun E9 N9 h42 => by cases h42)
    cases h42
    show G z mX3_readPair (d + 3) 0 0 59 [some (.ref 25), some (.ref 1), some (.int x2), some (.int x3)] [] (mrow (mrow (mrow M 1 r33) 25 r39) 27 r40) Q
    exact G.retv (by decide +kernel) rfl (Nat.le_of_ble_eq_true rfl) (Nat.le_of_ble_eq_true rfl) ((by rw [hQ]; simp only [l_readPair, if_pos c1, g3, g9, g17, g23, g31, g37, mrow_self]))
  · skip
    rw [if_neg c1] at hk
    refine G.sl [(.aload_n 1, 1, 1, 0, 0, 0), (.iconst 3, 1, 0, 0, 0, nI 3), (.aload_n 1, 1, 1, 0, 0, 0), (.getfield 41, 3, 5, 4, 10, 0)] [] (pc2 := 12) (ls2 := [some (.ref 25), some (.ref 1), some (.int x2), some (.int x3)]) (st2 := [.int (M.1 1 4), .int (nI 3), .ref 1]) (M2 := M) (Ps := []) (by decide +kernel) rfl rfl trivial ?_
    rcases g44 : t_fail (M.1 1) (nI 3) (M.1 1 4) with ⟨u45, r46⟩
    have t47 : GM z mX6_fail (d + 2) [.ref 1, .int (nI 3), .int (M.1 1 4)] M (fun rs => rs = .inl (none, mrow M 1 r46)) := by
      have q9 := c_t_fail_1 z (d + 2) M (nI 3) (M.1 1 4)
      try simp only [mput, mrow_same, mrow_hit, mrow_miss, mrow_sw, idr_eq, ne_eq, Nat.reduceEqDiff, not_false_eq_true, Nat.reduceLT, reduceCtorEq, g44] at q9
      exact q9
    refine G.callV (as := [.int (nI 3), .int (M.1 1 4)]) (rest := []) (a := 1) oX6_fail lk_EvenFinders_Law_44 (by decide +kernel) rfl rfl ⟨rfl, rfl⟩ (Nat.le_of_ble_eq_true rfl) rfl ⟨Nat.le_of_ble_eq_true rfl, Nat.le_of_ble_eq_true rfl⟩ t47 (fun v9 N9 h48 => ?_) (fun E9 N9 h48 => by cases h48)
    cases h48
    show G z mX3_readPair (d + 3) 0 0 15 [some (.ref 25), some (.ref 1), some (.int x2), some (.int x3)] [] (mrow M 1 r46) Q
    refine G.mem (M' := mrow (mrow (mrow M 1 r46) 25 (M.1 25)) 27 (M.1 27)) ((((mrow_id (N := mrow M 1 r46) (c := 25) (f := M.1 25) (by first | rfl | (simp only [mput, mrow_same, mrow_hit, mrow_miss, mrow_sw, idr_eq, ne_eq, Nat.reduceEqDiff, not_false_eq_true, Nat.reduceLT, reduceCtorEq]; done))).symm).trans (mrow_id (N := mrow (mrow M 1 r46) 25 (M.1 25)) (c := 27) (f := M.1 27) (by first | rfl | (simp only [mput, mrow_same, mrow_hit, mrow_miss, mrow_sw, idr_eq, ne_eq, Nat.reduceEqDiff, not_false_eq_true, Nat.reduceLT, reduceCtorEq]; done))).symm).trans (by first | rfl | (simp only [mput, mrow_same, mrow_hit, mrow_miss, mrow_sw, idr_eq, ne_eq, Nat.reduceEqDiff, not_false_eq_true, Nat.reduceLT, reduceCtorEq]; done))) ?_
    exact G.retv (by decide +kernel) rfl (Nat.le_of_ble_eq_true rfl) (Nat.le_of_ble_eq_true rfl) ((by rw [hQ]; simp only [l_readPair, if_neg c1, g44, mrow_self]))
noncomputable def l_readBracket (fz : (Nat → Int32) → (Nat → Int32) → (Nat → Int32) → (Nat → Int32) → Int32 → Int32 × (Nat → Int32) × (Nat → Int32) × (Nat → Int32)) (Rtape Rbytes Rlaw Rcodes : Nat → Int32) (x2 : Int32) : Int32 × (Nat → Int32) × (Nat → Int32) × (Nat → Int32) := (if x2 < (nI 6) then (match t_needSign (Rtape) (Rbytes) (nI 40) with | (u4, r5) => (match fz r5 (Rbytes) (Rlaw) (Rcodes) (x2 + (nI 1)) with | (u10, r11, r12, r13) => (match t_needSign r11 (Rbytes) (nI 41) with | (u18, r19) => (0, r19, r12, r13)))) else (match t_fail (Rtape) (nI 3) (Rtape 4) with | (u24, r25) => (0, r25, Rlaw, Rcodes)))
noncomputable def l_readBracket_ok (fz : (Nat → Int32) → (Nat → Int32) → (Nat → Int32) → (Nat → Int32) → Int32 → Int32 × (Nat → Int32) × (Nat → Int32) × (Nat → Int32)) (gz : (Nat → Int32) → (Nat → Int32) → (Nat → Int32) → (Nat → Int32) → Int32 → Prop) (Rtape Rbytes Rlaw Rcodes : Nat → Int32) (x2 : Int32) : Prop := (if x2 < (nI 6) then (t_needSign_ok (Rtape) (Rbytes) (nI 40) ∧ (match t_needSign (Rtape) (Rbytes) (nI 40) with | (u4, r5) => (gz r5 (Rbytes) (Rlaw) (Rcodes) (x2 + (nI 1)) ∧ (match fz r5 (Rbytes) (Rlaw) (Rcodes) (x2 + (nI 1)) with | (u10, r11, r12, r13) => (t_needSign_ok r11 (Rbytes) (nI 41) ∧ True))))) else True)
set_option maxHeartbeats 4000000 in
set_option maxRecDepth 3000 in
theorem c_l_readBracket_25_1 (z : Zp) (d : Nat) (M : Mem) (x2 : Int32) (fz : (Nat → Int32) → (Nat → Int32) → (Nat → Int32) → (Nat → Int32) → Int32 → Int32 × (Nat → Int32) × (Nat → Int32) × (Nat → Int32)) (gz : (Nat → Int32) → (Nat → Int32) → (Nat → Int32) → (Nat → Int32) → Int32 → Prop) (Hz : ∀ (j : Nat) (M : Mem) (x2 : Int32), gz (M.1 1) (M.1 2) (M.1 25) (M.1 27) x2 → GM z mX3_readSum (d + j) [.ref 25, .ref 1, .int x2] M (fun rs => rs = .inl (none, mrow (mrow (mrow M 1 ((fz (M.1 1) (M.1 2) (M.1 25) (M.1 27) x2).2.1)) 25 ((fz (M.1 1) (M.1 2) (M.1 25) (M.1 27) x2).2.2.1)) 27 ((fz (M.1 1) (M.1 2) (M.1 25) (M.1 27) x2).2.2.2)))) (hk : l_readBracket_ok fz gz (M.1 1) (M.1 2) (M.1 25) (M.1 27) x2) : GM z mX3_readBracket (d + 3) [.ref 25, .ref 1, .int x2] M (fun rs => rs = .inl (none, mrow (mrow (mrow M 1 ((l_readBracket fz (M.1 1) (M.1 2) (M.1 25) (M.1 27) x2).2.1)) 25 ((l_readBracket fz (M.1 1) (M.1 2) (M.1 25) (M.1 27) x2).2.2.1)) 27 ((l_readBracket fz (M.1 1) (M.1 2) (M.1 25) (M.1 27) x2).2.2.2))) := by
  simp only [l_readBracket_ok] at hk
  refine GM.of oX3_readBracket.1 (Nat.le_of_ble_eq_true rfl) ?_
  show G z mX3_readBracket (d + 3) 0 0 0 [some (.ref 25), some (.ref 1), some (.int x2)] [] M _
  obtain ⟨Q, hQ⟩ : ∃ Q : Rs → Prop, Q = (fun rs => rs = .inl (none, mrow (mrow (mrow M 1 ((l_readBracket fz (M.1 1) (M.1 2) (M.1 25) (M.1 27) x2).2.1)) 25 ((l_readBracket fz (M.1 1) (M.1 2) (M.1 25) (M.1 27) x2).2.2.1)) 27 ((l_readBracket fz (M.1 1) (M.1 2) (M.1 25) (M.1 27) x2).2.2.2))) := ⟨_, rfl⟩
  rw [← hQ]
  refine G.sl [(.iload_n 2, 1, 2, 0, 0, 0), (.bipush 6, 2, 0, 0, 0, nI 6)] [] (pc2 := 3) (ls2 := [some (.ref 25), some (.ref 1), some (.int x2)]) (st2 := [.int (nI 6), .int x2]) (M2 := M) (Ps := []) (by decide +kernel) rfl rfl trivial ?_
  refine G.ic_lt (off := (13)) (tgt := 16) (by decide +kernel) rfl (fun c1 => ?_) (fun c1 => ?_)
  · skip
    rw [if_pos c1] at hk
    refine G.sl [(.aload_n 1, 1, 1, 0, 0, 0), (.bipush 40, 2, 0, 0, 0, nI 40)] [] (pc2 := 19) (ls2 := [some (.ref 25), some (.ref 1), some (.int x2)]) (st2 := [.int (nI 40), .ref 1]) (M2 := M) (Ps := []) (by decide +kernel) rfl rfl trivial ?_
    obtain ⟨k2, hk⟩ := hk
    rcases g3 : t_needSign (M.1 1) (M.1 2) (nI 40) with ⟨u4, r5⟩
    try simp only [g3] at hk
    have t6 : GM z mX6_needSign (d + 2) [.ref 1, .int (nI 40)] M (fun rs => rs = .inl (none, mrow M 1 r5)) := by
      have q9 := c_t_needSign_1 z d M (nI 40) k2
      try simp only [mput, mrow_same, mrow_hit, mrow_miss, mrow_sw, idr_eq, ne_eq, Nat.reduceEqDiff, not_false_eq_true, Nat.reduceLT, reduceCtorEq, g3] at q9
      exact q9
    refine G.callV (as := [.int (nI 40)]) (rest := []) (a := 1) oX6_needSign lk_EvenFinders_Law_51 (by decide +kernel) rfl rfl ⟨rfl, rfl⟩ (Nat.le_of_ble_eq_true rfl) rfl ⟨Nat.le_of_ble_eq_true rfl, Nat.le_of_ble_eq_true rfl⟩ t6 (fun v9 N9 h7 => ?_) (fun E9 N9 h7 => by cases h7)
    cases h7
    show G z mX3_readBracket (d + 3) 0 0 22 [some (.ref 25), some (.ref 1), some (.int x2)] [] (mrow M 1 r5) Q
    refine G.sl [(.aload_n 0, 1, 0, 0, 0, 0), (.aload_n 1, 1, 1, 0, 0, 0), (.iload_n 2, 1, 2, 0, 0, 0), (.iconst 1, 1, 0, 0, 0, nI 1), (.iadd, 1, 0, 0, 0, 0)] [] (pc2 := 27) (ls2 := [some (.ref 25), some (.ref 1), some (.int x2)]) (st2 := [.int (x2 + (nI 1)), .ref 1, .ref 25]) (M2 := mrow M 1 r5) (Ps := []) (by decide +kernel) rfl rfl trivial ?_
    obtain ⟨k8, hk⟩ := hk
    rcases g9 : fz r5 (M.1 2) (M.1 25) (M.1 27) (x2 + (nI 1)) with ⟨u10, r11, r12, r13⟩
    try simp only [g9] at hk
    have t14 : GM z mX3_readSum (d + 2) [.ref 25, .ref 1, .int (x2 + (nI 1))] (mrow M 1 r5) (fun rs => rs = .inl (none, mrow (mrow (mrow M 1 r11) 25 r12) 27 r13)) := by
      have q9 := Hz 2 (mrow M 1 r5) (x2 + (nI 1))
      try simp only [mput, mrow_same, mrow_hit, mrow_miss, mrow_sw, idr_eq, ne_eq, Nat.reduceEqDiff, not_false_eq_true, Nat.reduceLT, reduceCtorEq, g9] at q9
      exact q9 (by first | exact k8 | (simp only [mput, mrow_same, mrow_hit, mrow_miss, mrow_sw, idr_eq, ne_eq, Nat.reduceEqDiff, not_false_eq_true, Nat.reduceLT, reduceCtorEq]; exact k8))
    refine G.callV (as := [.ref 1, .int (x2 + (nI 1))]) (rest := []) (a := 25) oX3_readSum lk_EvenFinders_Law_31 (by decide +kernel) rfl rfl ⟨rfl, rfl⟩ (Nat.le_of_ble_eq_true rfl) rfl ⟨Nat.le_of_ble_eq_true rfl, Nat.le_of_ble_eq_true rfl⟩ t14 (fun v9 N9 h15 => ?_) (fun E9 N9 h15 => by cases h15)
    cases h15
    show G z mX3_readBracket (d + 3) 0 0 30 [some (.ref 25), some (.ref 1), some (.int x2)] [] (mrow (mrow (mrow M 1 r11) 25 r12) 27 r13) Q
    refine G.sl [(.aload_n 1, 1, 1, 0, 0, 0), (.bipush 41, 2, 0, 0, 0, nI 41)] [] (pc2 := 33) (ls2 := [some (.ref 25), some (.ref 1), some (.int x2)]) (st2 := [.int (nI 41), .ref 1]) (M2 := mrow (mrow (mrow M 1 r11) 25 r12) 27 r13) (Ps := []) (by decide +kernel) rfl rfl trivial ?_
    obtain ⟨k16, hk⟩ := hk
    rcases g17 : t_needSign r11 (M.1 2) (nI 41) with ⟨u18, r19⟩
    have t20 : GM z mX6_needSign (d + 2) [.ref 1, .int (nI 41)] (mrow (mrow (mrow M 1 r11) 25 r12) 27 r13) (fun rs => rs = .inl (none, mrow (mrow (mrow M 1 r19) 25 r12) 27 r13)) := by
      have q9 := c_t_needSign_1 z d (mrow (mrow (mrow M 1 r11) 25 r12) 27 r13) (nI 41) k16
      try simp only [mput, mrow_same, mrow_hit, mrow_miss, mrow_sw, idr_eq, ne_eq, Nat.reduceEqDiff, not_false_eq_true, Nat.reduceLT, reduceCtorEq, g17] at q9
      exact q9
    refine G.callV (as := [.int (nI 41)]) (rest := []) (a := 1) oX6_needSign lk_EvenFinders_Law_51 (by decide +kernel) rfl rfl ⟨rfl, rfl⟩ (Nat.le_of_ble_eq_true rfl) rfl ⟨Nat.le_of_ble_eq_true rfl, Nat.le_of_ble_eq_true rfl⟩ t20 (fun v9 N9 h21 => ?_) (fun E9 N9 h21 => by cases h21)
    cases h21
    show G z mX3_readBracket (d + 3) 0 0 36 [some (.ref 25), some (.ref 1), some (.int x2)] [] (mrow (mrow (mrow M 1 r19) 25 r12) 27 r13) Q
    exact G.retv (by decide +kernel) rfl (Nat.le_of_ble_eq_true rfl) (Nat.le_of_ble_eq_true rfl) ((by rw [hQ]; simp only [l_readBracket, if_pos c1, g3, g9, g17, mrow_self]))
  · skip
    rw [if_neg c1] at hk
    refine G.sl [(.aload_n 1, 1, 1, 0, 0, 0), (.iconst 3, 1, 0, 0, 0, nI 3), (.aload_n 1, 1, 1, 0, 0, 0), (.getfield 41, 3, 5, 4, 10, 0)] [] (pc2 := 12) (ls2 := [some (.ref 25), some (.ref 1), some (.int x2)]) (st2 := [.int (M.1 1 4), .int (nI 3), .ref 1]) (M2 := M) (Ps := []) (by decide +kernel) rfl rfl trivial ?_
    rcases g23 : t_fail (M.1 1) (nI 3) (M.1 1 4) with ⟨u24, r25⟩
    have t26 : GM z mX6_fail (d + 2) [.ref 1, .int (nI 3), .int (M.1 1 4)] M (fun rs => rs = .inl (none, mrow M 1 r25)) := by
      have q9 := c_t_fail_1 z (d + 2) M (nI 3) (M.1 1 4)
      try simp only [mput, mrow_same, mrow_hit, mrow_miss, mrow_sw, idr_eq, ne_eq, Nat.reduceEqDiff, not_false_eq_true, Nat.reduceLT, reduceCtorEq, g23] at q9
      exact q9
    refine G.callV (as := [.int (nI 3), .int (M.1 1 4)]) (rest := []) (a := 1) oX6_fail lk_EvenFinders_Law_44 (by decide +kernel) rfl rfl ⟨rfl, rfl⟩ (Nat.le_of_ble_eq_true rfl) rfl ⟨Nat.le_of_ble_eq_true rfl, Nat.le_of_ble_eq_true rfl⟩ t26 (fun v9 N9 h27 => ?_) (fun E9 N9 h27 => by cases h27)
    cases h27
    show G z mX3_readBracket (d + 3) 0 0 15 [some (.ref 25), some (.ref 1), some (.int x2)] [] (mrow M 1 r25) Q
    refine G.mem (M' := mrow (mrow (mrow M 1 r25) 25 (M.1 25)) 27 (M.1 27)) ((((mrow_id (N := mrow M 1 r25) (c := 25) (f := M.1 25) (by first | rfl | (simp only [mput, mrow_same, mrow_hit, mrow_miss, mrow_sw, idr_eq, ne_eq, Nat.reduceEqDiff, not_false_eq_true, Nat.reduceLT, reduceCtorEq]; done))).symm).trans (mrow_id (N := mrow (mrow M 1 r25) 25 (M.1 25)) (c := 27) (f := M.1 27) (by first | rfl | (simp only [mput, mrow_same, mrow_hit, mrow_miss, mrow_sw, idr_eq, ne_eq, Nat.reduceEqDiff, not_false_eq_true, Nat.reduceLT, reduceCtorEq]; done))).symm).trans (by first | rfl | (simp only [mput, mrow_same, mrow_hit, mrow_miss, mrow_sw, idr_eq, ne_eq, Nat.reduceEqDiff, not_false_eq_true, Nat.reduceLT, reduceCtorEq]; done))) ?_
    exact G.retv (by decide +kernel) rfl (Nat.le_of_ble_eq_true rfl) (Nat.le_of_ble_eq_true rfl) ((by rw [hQ]; simp only [l_readBracket, if_neg c1, g23, mrow_self]))
noncomputable def l_readUnit (fz : (Nat → Int32) → (Nat → Int32) → (Nat → Int32) → (Nat → Int32) → Int32 → Int32 × (Nat → Int32) × (Nat → Int32) × (Nat → Int32)) (Rtape Rbytes Rlaw Rcodes : Nat → Int32) (x2 : Int32) : Int32 × (Nat → Int32) × (Nat → Int32) × (Nat → Int32) := (match t_next (Rtape) (Rbytes) with | (v3, r4) => (if v3 = (nI 40) then (match l_readBracket fz r4 (Rbytes) (Rlaw) (Rcodes) x2 with | (u59, r60, r61, r62) => (0, r60, r61, r62)) else (if (t_isDigit v3) = 0 then (match t_word_s2 r4 (Rbytes) with | (v14, r15) => (if v14 < (nI 8) then (if v14 = ((-1)) then (0, r15, Rlaw, Rcodes) else (match l_put (Rlaw) (Rcodes) ((nI 1000) + v14) with | (u22, r23, r24) => (0, r15, r23, r24))) else (if v14 = (nI 8) then (match l_readPair fz r15 (Rbytes) (Rlaw) (Rcodes) x2 (nI 60) with | (u38, r39, r40, r41) => (0, r39, r40, r41)) else (match l_readPair fz r15 (Rbytes) (Rlaw) (Rcodes) x2 (nI 62) with | (u30, r31, r32, r33) => (0, r31, r32, r33))))) else (match t_number r4 (Rbytes) (nI 0) (nI 999) with | (v46, r47) => (match l_put (Rlaw) (Rcodes) v46 with | (u52, r53, r54) => (0, r47, r53, r54))))))
noncomputable def l_readUnit_ok (fz : (Nat → Int32) → (Nat → Int32) → (Nat → Int32) → (Nat → Int32) → Int32 → Int32 × (Nat → Int32) × (Nat → Int32) × (Nat → Int32)) (gz : (Nat → Int32) → (Nat → Int32) → (Nat → Int32) → (Nat → Int32) → Int32 → Prop) (Rtape Rbytes Rlaw Rcodes : Nat → Int32) (x2 : Int32) : Prop := (t_next_ok (Rtape) (Rbytes) ∧ (match t_next (Rtape) (Rbytes) with | (v3, r4) => (if v3 = (nI 40) then (l_readBracket_ok fz gz r4 (Rbytes) (Rlaw) (Rcodes) x2 ∧ True) else (True ∧ (if (t_isDigit v3) = 0 then (t_word_s2_ok r4 (Rbytes) ∧ (match t_word_s2 r4 (Rbytes) with | (v14, r15) => (if v14 < (nI 8) then (if v14 = ((-1)) then True else (l_put_ok (Rlaw) (Rcodes) ((nI 1000) + v14) ∧ True)) else (if v14 = (nI 8) then (l_readPair_ok fz gz r15 (Rbytes) (Rlaw) (Rcodes) x2 (nI 60) ∧ True) else (l_readPair_ok fz gz r15 (Rbytes) (Rlaw) (Rcodes) x2 (nI 62) ∧ True))))) else (t_number_ok r4 (Rbytes) (nI 0) (nI 999) ∧ (match t_number r4 (Rbytes) (nI 0) (nI 999) with | (v46, r47) => (l_put_ok (Rlaw) (Rcodes) v46 ∧ True))))))))
set_option maxHeartbeats 4000000 in
set_option maxRecDepth 3000 in
theorem c_l_readUnit_25_1 (z : Zp) (d : Nat) (M : Mem) (x2 : Int32) (fz : (Nat → Int32) → (Nat → Int32) → (Nat → Int32) → (Nat → Int32) → Int32 → Int32 × (Nat → Int32) × (Nat → Int32) × (Nat → Int32)) (gz : (Nat → Int32) → (Nat → Int32) → (Nat → Int32) → (Nat → Int32) → Int32 → Prop) (Hz : ∀ (j : Nat) (M : Mem) (x2 : Int32), gz (M.1 1) (M.1 2) (M.1 25) (M.1 27) x2 → GM z mX3_readSum (d + j) [.ref 25, .ref 1, .int x2] M (fun rs => rs = .inl (none, mrow (mrow (mrow M 1 ((fz (M.1 1) (M.1 2) (M.1 25) (M.1 27) x2).2.1)) 25 ((fz (M.1 1) (M.1 2) (M.1 25) (M.1 27) x2).2.2.1)) 27 ((fz (M.1 1) (M.1 2) (M.1 25) (M.1 27) x2).2.2.2)))) (hk : l_readUnit_ok fz gz (M.1 1) (M.1 2) (M.1 25) (M.1 27) x2) : GM z mX3_readUnit (d + 6) [.ref 25, .ref 1, .int x2] M (fun rs => rs = .inl (none, mrow (mrow (mrow M 1 ((l_readUnit fz (M.1 1) (M.1 2) (M.1 25) (M.1 27) x2).2.1)) 25 ((l_readUnit fz (M.1 1) (M.1 2) (M.1 25) (M.1 27) x2).2.2.1)) 27 ((l_readUnit fz (M.1 1) (M.1 2) (M.1 25) (M.1 27) x2).2.2.2))) := by
  simp only [l_readUnit_ok] at hk
  refine GM.of oX3_readUnit.1 (Nat.le_of_ble_eq_true rfl) ?_
  show G z mX3_readUnit (d + 6) 0 0 0 [some (.ref 25), some (.ref 1), some (.int x2), none, none] [] M _
  obtain ⟨Q, hQ⟩ : ∃ Q : Rs → Prop, Q = (fun rs => rs = .inl (none, mrow (mrow (mrow M 1 ((l_readUnit fz (M.1 1) (M.1 2) (M.1 25) (M.1 27) x2).2.1)) 25 ((l_readUnit fz (M.1 1) (M.1 2) (M.1 25) (M.1 27) x2).2.2.1)) 27 ((l_readUnit fz (M.1 1) (M.1 2) (M.1 25) (M.1 27) x2).2.2.2))) := ⟨_, rfl⟩
  rw [← hQ]
  refine G.sl [(.aload_n 1, 1, 1, 0, 0, 0)] [] (pc2 := 1) (ls2 := [some (.ref 25), some (.ref 1), some (.int x2), none, none]) (st2 := [.ref 1]) (M2 := M) (Ps := []) (by decide +kernel) rfl rfl trivial ?_
  obtain ⟨k1, hk⟩ := hk
  rcases g2 : t_next (M.1 1) (M.1 2) with ⟨v3, r4⟩
  try simp only [g2] at hk
  have t5 : GM z mX6_next (d + 5) [.ref 1] M (fun rs => rs = .inl (some (.int v3), mrow M 1 r4)) := by
    have q9 := c_t_next_1 z (d + 5) M k1
    try simp only [mput, mrow_same, mrow_hit, mrow_miss, mrow_sw, idr_eq, ne_eq, Nat.reduceEqDiff, not_false_eq_true, Nat.reduceLT, reduceCtorEq, g2] at q9
    exact q9
  refine G.callV (as := []) (rest := []) (a := 1) oX6_next lk_EvenFinders_Law_35 (by decide +kernel) rfl rfl ⟨rfl, rfl⟩ (Nat.le_of_ble_eq_true rfl) rfl ⟨Nat.le_of_ble_eq_true rfl, Nat.le_of_ble_eq_true rfl⟩ t5 (fun v9 N9 h6 => ?_) (fun E9 N9 h6 => by cases h6)
  cases h6
  show G z mX3_readUnit (d + 6) 0 0 4 [some (.ref 25), some (.ref 1), some (.int x2), none, none] [.int v3] (mrow M 1 r4) Q
  refine G.sl [(.istore_n 3, 1, 3, 0, 0, 0), (.iload_n 3, 1, 3, 0, 0, 0), (.bipush 40, 2, 0, 0, 0, nI 40)] [] (pc2 := 8) (ls2 := [some (.ref 25), some (.ref 1), some (.int x2), some (.int v3), none]) (st2 := [.int (nI 40), .int v3]) (M2 := mrow M 1 r4) (Ps := []) (by decide +kernel) rfl rfl trivial ?_
  refine G.ic_ne (off := (12)) (tgt := 20) (by decide +kernel) rfl (fun c7 => ?_) (fun c7 => ?_)
  · skip
    rw [if_neg c7] at hk
    refine G.sl [(.iload_n 3, 1, 3, 0, 0, 0)] [] (pc2 := 21) (ls2 := [some (.ref 25), some (.ref 1), some (.int x2), some (.int v3), none]) (st2 := [.int v3]) (M2 := mrow M 1 r4) (Ps := []) (by decide +kernel) rfl rfl trivial ?_
    obtain ⟨k8, hk⟩ := hk
    have t9 : GM z mX6_isDigit (d + 5) [.int v3] (mrow M 1 r4) (fun rs => rs = .inl (some (.int (t_isDigit v3)), mrow M 1 r4)) := by
      have q9 := c_t_isDigit z (d + 5) (mrow M 1 r4) v3
      try simp only [mput, mrow_same, mrow_hit, mrow_miss, mrow_sw, idr_eq, ne_eq, Nat.reduceEqDiff, not_false_eq_true, Nat.reduceLT, reduceCtorEq] at q9
      exact q9
    refine G.callS (as := [.int v3]) (rest := []) oX6_isDigit lk_EvenFinders_Law_65 (by decide +kernel) rfl (Nat.le_of_ble_eq_true rfl) rfl ⟨Nat.le_of_ble_eq_true rfl, Nat.le_of_ble_eq_true rfl⟩ t9 (fun v9 N9 h10 => ?_) (fun E9 N9 h10 => by cases h10)
    cases h10
    show G z mX3_readUnit (d + 6) 0 0 24 [some (.ref 25), some (.ref 1), some (.int x2), some (.int v3), none] [.int (t_isDigit v3)] (mrow M 1 r4) Q
    refine G.if_eq (off := (18)) (tgt := 42) (by decide +kernel) rfl (fun c11 => ?_) (fun c11 => ?_)
    · skip
      rw [if_pos c11] at hk
      refine G.sl [(.aload_n 1, 1, 1, 0, 0, 0), (.ldc 73, 2, 1, 2, 0, 0)] [] (pc2 := 45) (ls2 := [some (.ref 25), some (.ref 1), some (.int x2), some (.int v3), none]) (st2 := [.ref 1002, .ref 1]) (M2 := mrow M 1 r4) (Ps := []) (by decide +kernel) rfl rfl trivial ?_
      obtain ⟨k12, hk⟩ := hk
      rcases g13 : t_word_s2 r4 (M.1 2) with ⟨v14, r15⟩
      try simp only [g13] at hk
      have t16 : GM z mX6_word (d + 5) [.ref 1, .ref 1002] (mrow M 1 r4) (fun rs => rs = .inl (some (.int v14), mrow M 1 r15)) := by
        have q9 := c_t_word_s2_1 z d (mrow M 1 r4) k12
        try simp only [mput, mrow_same, mrow_hit, mrow_miss, mrow_sw, idr_eq, ne_eq, Nat.reduceEqDiff, not_false_eq_true, Nat.reduceLT, reduceCtorEq, g13] at q9
        exact q9
      refine G.callV (as := [.ref 1002]) (rest := []) (a := 1) oX6_word lk_EvenFinders_Law_75 (by decide +kernel) rfl rfl ⟨rfl, rfl⟩ (Nat.le_of_ble_eq_true rfl) rfl ⟨Nat.le_of_ble_eq_true rfl, Nat.le_of_ble_eq_true rfl⟩ t16 (fun v9 N9 h17 => ?_) (fun E9 N9 h17 => by cases h17)
      cases h17
      show G z mX3_readUnit (d + 6) 0 0 48 [some (.ref 25), some (.ref 1), some (.int x2), some (.int v3), none] [.int v14] (mrow M 1 r15) Q
      refine G.sl [(.istore 4, 2, 4, 0, 0, 0), (.iload 4, 2, 4, 0, 0, 0), (.bipush 8, 2, 0, 0, 0, nI 8)] [] (pc2 := 54) (ls2 := [some (.ref 25), some (.ref 1), some (.int x2), some (.int v3), some (.int v14)]) (st2 := [.int (nI 8), .int v14]) (M2 := mrow M 1 r15) (Ps := []) (by decide +kernel) rfl rfl trivial ?_
      refine G.ic_lt (off := (26)) (tgt := 80) (by decide +kernel) rfl (fun c18 => ?_) (fun c18 => ?_)
      · skip
        rw [if_pos c18] at hk
        refine G.sl [(.iload 4, 2, 4, 0, 0, 0), (.iconst (-1), 1, 0, 0, 0, (-1))] [] (pc2 := 83) (ls2 := [some (.ref 25), some (.ref 1), some (.int x2), some (.int v3), some (.int v14)]) (st2 := [.int ((-1)), .int v14]) (M2 := mrow M 1 r15) (Ps := []) (by decide +kernel) rfl rfl trivial ?_
        refine G.ic_eq (off := (13)) (tgt := 96) (by decide +kernel) rfl (fun c19 => ?_) (fun c19 => ?_)
        · skip
          rw [if_pos c19] at hk
          refine G.mem (M' := mrow (mrow (mrow M 1 r15) 25 (M.1 25)) 27 (M.1 27)) ((((mrow_id (N := mrow M 1 r15) (c := 25) (f := M.1 25) (by first | rfl | (simp only [mput, mrow_same, mrow_hit, mrow_miss, mrow_sw, idr_eq, ne_eq, Nat.reduceEqDiff, not_false_eq_true, Nat.reduceLT, reduceCtorEq]; done))).symm).trans (mrow_id (N := mrow (mrow M 1 r15) 25 (M.1 25)) (c := 27) (f := M.1 27) (by first | rfl | (simp only [mput, mrow_same, mrow_hit, mrow_miss, mrow_sw, idr_eq, ne_eq, Nat.reduceEqDiff, not_false_eq_true, Nat.reduceLT, reduceCtorEq]; done))).symm).trans (by first | rfl | (simp only [mput, mrow_same, mrow_hit, mrow_miss, mrow_sw, idr_eq, ne_eq, Nat.reduceEqDiff, not_false_eq_true, Nat.reduceLT, reduceCtorEq]; done))) ?_
          exact G.retv (by decide +kernel) rfl (Nat.le_of_ble_eq_true rfl) (Nat.le_of_ble_eq_true rfl) ((by rw [hQ]; simp only [l_readUnit, g2, if_neg c7, if_pos c11, g13, if_pos c18, if_pos c19, mrow_self]))
        · skip
          rw [if_neg c19] at hk
          refine G.sl [(.aload_n 0, 1, 0, 0, 0, 0), (.sipush 1000, 3, 0, 0, 0, nI 1000), (.iload 4, 2, 4, 0, 0, 0), (.iadd, 1, 0, 0, 0, 0)] [] (pc2 := 93) (ls2 := [some (.ref 25), some (.ref 1), some (.int x2), some (.int v3), some (.int v14)]) (st2 := [.int ((nI 1000) + v14), .ref 25]) (M2 := mrow M 1 r15) (Ps := []) (by decide +kernel) rfl rfl trivial ?_
          obtain ⟨k20, hk⟩ := hk
          rcases g21 : l_put (M.1 25) (M.1 27) ((nI 1000) + v14) with ⟨u22, r23, r24⟩
          have t25 : GM z mX3_put (d + 5) [.ref 25, .int ((nI 1000) + v14)] (mrow M 1 r15) (fun rs => rs = .inl (none, mrow (mrow (mrow M 1 r15) 25 r23) 27 r24)) := by
            have q9 := c_l_put_25 z (d + 5) (mrow M 1 r15) ((nI 1000) + v14) k20
            try simp only [mput, mrow_same, mrow_hit, mrow_miss, mrow_sw, idr_eq, ne_eq, Nat.reduceEqDiff, not_false_eq_true, Nat.reduceLT, reduceCtorEq, g21] at q9
            exact q9
          refine G.callV (as := [.int ((nI 1000) + v14)]) (rest := []) (a := 25) oX3_put lk_EvenFinders_Law_55 (by decide +kernel) rfl rfl ⟨rfl, rfl⟩ (Nat.le_of_ble_eq_true rfl) rfl ⟨Nat.le_of_ble_eq_true rfl, Nat.le_of_ble_eq_true rfl⟩ t25 (fun v9 N9 h26 => ?_) (fun E9 N9 h26 => by cases h26)
          cases h26
          show G z mX3_readUnit (d + 6) 0 0 96 [some (.ref 25), some (.ref 1), some (.int x2), some (.int v3), some (.int v14)] [] (mrow (mrow (mrow M 1 r15) 25 r23) 27 r24) Q
          exact G.retv (by decide +kernel) rfl (Nat.le_of_ble_eq_true rfl) (Nat.le_of_ble_eq_true rfl) ((by rw [hQ]; simp only [l_readUnit, g2, if_neg c7, if_pos c11, g13, if_pos c18, if_neg c19, g21, mrow_self]))
      · skip
        rw [if_neg c18] at hk
        refine G.sl [(.aload_n 0, 1, 0, 0, 0, 0), (.aload_n 1, 1, 1, 0, 0, 0), (.iload_n 2, 1, 2, 0, 0, 0), (.iload 4, 2, 4, 0, 0, 0), (.bipush 8, 2, 0, 0, 0, nI 8)] [] (pc2 := 64) (ls2 := [some (.ref 25), some (.ref 1), some (.int x2), some (.int v3), some (.int v14)]) (st2 := [.int (nI 8), .int v14, .int x2, .ref 1, .ref 25]) (M2 := mrow M 1 r15) (Ps := []) (by decide +kernel) rfl rfl trivial ?_
        refine G.ic_ne (off := (8)) (tgt := 72) (by decide +kernel) rfl (fun c27 => ?_) (fun c27 => ?_)
        · skip
          rw [if_neg c27] at hk
          refine G.sl [(.bipush 62, 2, 0, 0, 0, nI 62)] [] (pc2 := 74) (ls2 := [some (.ref 25), some (.ref 1), some (.int x2), some (.int v3), some (.int v14)]) (st2 := [.int (nI 62), .int x2, .ref 1, .ref 25]) (M2 := mrow M 1 r15) (Ps := []) (by decide +kernel) rfl rfl trivial ?_
          obtain ⟨k28, hk⟩ := hk
          rcases g29 : l_readPair fz r15 (M.1 2) (M.1 25) (M.1 27) x2 (nI 62) with ⟨u30, r31, r32, r33⟩
          have t34 : GM z mX3_readPair (d + 5) [.ref 25, .ref 1, .int x2, .int (nI 62)] (mrow M 1 r15) (fun rs => rs = .inl (none, mrow (mrow (mrow M 1 r31) 25 r32) 27 r33)) := by
            have q9 := c_l_readPair_25_1 z (d + 2) (mrow M 1 r15) x2 (nI 62) fz gz Hz k28
            try simp only [mput, mrow_same, mrow_hit, mrow_miss, mrow_sw, idr_eq, ne_eq, Nat.reduceEqDiff, not_false_eq_true, Nat.reduceLT, reduceCtorEq, g29] at q9
            exact q9
          refine G.callV (as := [.ref 1, .int x2, .int (nI 62)]) (rest := []) (a := 25) oX3_readPair lk_EvenFinders_Law_79 (by decide +kernel) rfl rfl ⟨rfl, rfl⟩ (Nat.le_of_ble_eq_true rfl) rfl ⟨Nat.le_of_ble_eq_true rfl, Nat.le_of_ble_eq_true rfl⟩ t34 (fun v9 N9 h35 => ?_) (fun E9 N9 h35 => by cases h35)
          cases h35
          show G z mX3_readUnit (d + 6) 0 0 77 [some (.ref 25), some (.ref 1), some (.int x2), some (.int v3), some (.int v14)] [] (mrow (mrow (mrow M 1 r31) 25 r32) 27 r33) Q
          refine G.sl [(.goto 19, 3, 96, 0, 0, 0)] [] (pc2 := 96) (ls2 := [some (.ref 25), some (.ref 1), some (.int x2), some (.int v3), some (.int v14)]) (st2 := []) (M2 := mrow (mrow (mrow M 1 r31) 25 r32) 27 r33) (Ps := []) (by decide +kernel) rfl rfl trivial ?_
          exact G.retv (by decide +kernel) rfl (Nat.le_of_ble_eq_true rfl) (Nat.le_of_ble_eq_true rfl) ((by rw [hQ]; simp only [l_readUnit, g2, if_neg c7, if_pos c11, g13, if_neg c18, if_neg c27, g29, mrow_self]))
        · skip
          rw [if_pos c27] at hk
          refine G.sl [(.bipush 60, 2, 0, 0, 0, nI 60), (.goto 5, 3, 74, 0, 0, 0)] [] (pc2 := 74) (ls2 := [some (.ref 25), some (.ref 1), some (.int x2), some (.int v3), some (.int v14)]) (st2 := [.int (nI 60), .int x2, .ref 1, .ref 25]) (M2 := mrow M 1 r15) (Ps := []) (by decide +kernel) rfl rfl trivial ?_
          obtain ⟨k36, hk⟩ := hk
          rcases g37 : l_readPair fz r15 (M.1 2) (M.1 25) (M.1 27) x2 (nI 60) with ⟨u38, r39, r40, r41⟩
          have t42 : GM z mX3_readPair (d + 5) [.ref 25, .ref 1, .int x2, .int (nI 60)] (mrow M 1 r15) (fun rs => rs = .inl (none, mrow (mrow (mrow M 1 r39) 25 r40) 27 r41)) := by
            have q9 := c_l_readPair_25_1 z (d + 2) (mrow M 1 r15) x2 (nI 60) fz gz Hz k36
            try simp only [mput, mrow_same, mrow_hit, mrow_miss, mrow_sw, idr_eq, ne_eq, Nat.reduceEqDiff, not_false_eq_true, Nat.reduceLT, reduceCtorEq, g37] at q9
            exact q9
          refine G.callV (as := [.ref 1, .int x2, .int (nI 60)]) (rest := []) (a := 25) oX3_readPair lk_EvenFinders_Law_79 (by decide +kernel) rfl rfl ⟨rfl, rfl⟩ (Nat.le_of_ble_eq_true rfl) rfl ⟨Nat.le_of_ble_eq_true rfl, Nat.le_of_ble_eq_true rfl⟩ t42 (fun v9 N9 h43 => ?_) (fun E9 N9 h43 => by cases h43)
          cases h43
          show G z mX3_readUnit (d + 6) 0 0 77 [some (.ref 25), some (.ref 1), some (.int x2), some (.int v3), some (.int v14)] [] (mrow (mrow (mrow M 1 r39) 25 r40) 27 r41) Q
          refine G.sl [(.goto 19, 3, 96, 0, 0, 0)] [] (pc2 := 96) (ls2 := [some (.ref 25), some (.ref 1), some (.int x2), some (.int v3), some (.int v14)]) (st2 := []) (M2 := mrow (mrow (mrow M 1 r39) 25 r40) 27 r41) (Ps := []) (by decide +kernel) rfl rfl trivial ?_
          exact G.retv (by decide +kernel) rfl (Nat.le_of_ble_eq_true rfl) (Nat.le_of_ble_eq_true rfl) ((by rw [hQ]; simp only [l_readUnit, g2, if_neg c7, if_pos c11, g13, if_neg c18, if_pos c27, g37, mrow_self]))
    · skip
      rw [if_neg c11] at hk
      refine G.sl [(.aload_n 0, 1, 0, 0, 0, 0), (.aload_n 1, 1, 1, 0, 0, 0), (.iconst 0, 1, 0, 0, 0, nI 0), (.sipush 999, 3, 0, 0, 0, nI 999)] [] (pc2 := 33) (ls2 := [some (.ref 25), some (.ref 1), some (.int x2), some (.int v3), none]) (st2 := [.int (nI 999), .int (nI 0), .ref 1, .ref 25]) (M2 := mrow M 1 r4) (Ps := []) (by decide +kernel) rfl rfl trivial ?_
      obtain ⟨k44, hk⟩ := hk
      rcases g45 : t_number r4 (M.1 2) (nI 0) (nI 999) with ⟨v46, r47⟩
      try simp only [g45] at hk
      have t48 : GM z mX6_number (d + 5) [.ref 1, .int (nI 0), .int (nI 999)] (mrow M 1 r4) (fun rs => rs = .inl (some (.int v46), mrow M 1 r47)) := by
        have q9 := c_t_number_1 z (d + 4) (mrow M 1 r4) (nI 0) (nI 999) k44
        try simp only [mput, mrow_same, mrow_hit, mrow_miss, mrow_sw, idr_eq, ne_eq, Nat.reduceEqDiff, not_false_eq_true, Nat.reduceLT, reduceCtorEq, g45] at q9
        exact q9
      refine G.callV (as := [.int (nI 0), .int (nI 999)]) (rest := [.ref 25]) (a := 1) oX6_number lk_EvenFinders_Law_69 (by decide +kernel) rfl rfl ⟨rfl, rfl⟩ (Nat.le_of_ble_eq_true rfl) rfl ⟨Nat.le_of_ble_eq_true rfl, Nat.le_of_ble_eq_true rfl⟩ t48 (fun v9 N9 h49 => ?_) (fun E9 N9 h49 => by cases h49)
      cases h49
      show G z mX3_readUnit (d + 6) 0 0 36 [some (.ref 25), some (.ref 1), some (.int x2), some (.int v3), none] [.int v46, .ref 25] (mrow M 1 r47) Q
      obtain ⟨k50, hk⟩ := hk
      rcases g51 : l_put (M.1 25) (M.1 27) v46 with ⟨u52, r53, r54⟩
      have t55 : GM z mX3_put (d + 5) [.ref 25, .int v46] (mrow M 1 r47) (fun rs => rs = .inl (none, mrow (mrow (mrow M 1 r47) 25 r53) 27 r54)) := by
        have q9 := c_l_put_25 z (d + 5) (mrow M 1 r47) v46 k50
        try simp only [mput, mrow_same, mrow_hit, mrow_miss, mrow_sw, idr_eq, ne_eq, Nat.reduceEqDiff, not_false_eq_true, Nat.reduceLT, reduceCtorEq, g51] at q9
        exact q9
      refine G.callV (as := [.int v46]) (rest := []) (a := 25) oX3_put lk_EvenFinders_Law_55 (by decide +kernel) rfl rfl ⟨rfl, rfl⟩ (Nat.le_of_ble_eq_true rfl) rfl ⟨Nat.le_of_ble_eq_true rfl, Nat.le_of_ble_eq_true rfl⟩ t55 (fun v9 N9 h56 => ?_) (fun E9 N9 h56 => by cases h56)
      cases h56
      show G z mX3_readUnit (d + 6) 0 0 39 [some (.ref 25), some (.ref 1), some (.int x2), some (.int v3), none] [] (mrow (mrow (mrow M 1 r47) 25 r53) 27 r54) Q
      refine G.sl [(.goto 57, 3, 96, 0, 0, 0)] [] (pc2 := 96) (ls2 := [some (.ref 25), some (.ref 1), some (.int x2), some (.int v3), none]) (st2 := []) (M2 := mrow (mrow (mrow M 1 r47) 25 r53) 27 r54) (Ps := []) (by decide +kernel) rfl rfl trivial ?_
      exact G.retv (by decide +kernel) rfl (Nat.le_of_ble_eq_true rfl) (Nat.le_of_ble_eq_true rfl) ((by rw [hQ]; simp only [l_readUnit, g2, if_neg c7, if_neg c11, g45, g51, mrow_self]))
  · skip
    rw [if_pos c7] at hk
    refine G.sl [(.aload_n 0, 1, 0, 0, 0, 0), (.aload_n 1, 1, 1, 0, 0, 0), (.iload_n 2, 1, 2, 0, 0, 0)] [] (pc2 := 14) (ls2 := [some (.ref 25), some (.ref 1), some (.int x2), some (.int v3), none]) (st2 := [.int x2, .ref 1, .ref 25]) (M2 := mrow M 1 r4) (Ps := []) (by decide +kernel) rfl rfl trivial ?_
    obtain ⟨k57, hk⟩ := hk
    rcases g58 : l_readBracket fz r4 (M.1 2) (M.1 25) (M.1 27) x2 with ⟨u59, r60, r61, r62⟩
    have t63 : GM z mX3_readBracket (d + 5) [.ref 25, .ref 1, .int x2] (mrow M 1 r4) (fun rs => rs = .inl (none, mrow (mrow (mrow M 1 r60) 25 r61) 27 r62)) := by
      have q9 := c_l_readBracket_25_1 z (d + 2) (mrow M 1 r4) x2 fz gz Hz k57
      try simp only [mput, mrow_same, mrow_hit, mrow_miss, mrow_sw, idr_eq, ne_eq, Nat.reduceEqDiff, not_false_eq_true, Nat.reduceLT, reduceCtorEq, g58] at q9
      exact q9
    refine G.callV (as := [.ref 1, .int x2]) (rest := []) (a := 25) oX3_readBracket lk_EvenFinders_Law_62 (by decide +kernel) rfl rfl ⟨rfl, rfl⟩ (Nat.le_of_ble_eq_true rfl) rfl ⟨Nat.le_of_ble_eq_true rfl, Nat.le_of_ble_eq_true rfl⟩ t63 (fun v9 N9 h64 => ?_) (fun E9 N9 h64 => by cases h64)
    cases h64
    show G z mX3_readUnit (d + 6) 0 0 17 [some (.ref 25), some (.ref 1), some (.int x2), some (.int v3), none] [] (mrow (mrow (mrow M 1 r60) 25 r61) 27 r62) Q
    refine G.sl [(.goto 79, 3, 96, 0, 0, 0)] [] (pc2 := 96) (ls2 := [some (.ref 25), some (.ref 1), some (.int x2), some (.int v3), none]) (st2 := []) (M2 := mrow (mrow (mrow M 1 r60) 25 r61) 27 r62) (Ps := []) (by decide +kernel) rfl rfl trivial ?_
    exact G.retv (by decide +kernel) rfl (Nat.le_of_ble_eq_true rfl) (Nat.le_of_ble_eq_true rfl) ((by rw [hQ]; simp only [l_readUnit, g2, if_pos c7, g58, mrow_self]))
noncomputable def l_readProduct_8 (fz : (Nat → Int32) → (Nat → Int32) → (Nat → Int32) → (Nat → Int32) → Int32 → Int32 × (Nat → Int32) × (Nat → Int32) × (Nat → Int32)) (gz : (Nat → Int32) → (Nat → Int32) → (Nat → Int32) → (Nat → Int32) → Int32 → Prop) (Rbytes : Nat → Int32) (x2 : Int32) : Nat → Nat → (Nat → Int32) → (Nat → Int32) → (Nat → Int32) → (Int32 × (Nat → Int32) × (Nat → Int32) × (Nat → Int32)) ⊕ ((Nat → Int32) × (Nat → Int32) × (Nat → Int32))
  | 0, _, q1, q25, q27 => .inr (q1, q25, q27)
  | k0 + 1, i3, q1, q25, q27 => (match t_next q1 (Rbytes) with | (v11, r12) => (if v11 = (nI 42) then (match t_needSign r12 (Rbytes) ((v11.toUInt32 % 65536).toInt32) with | (u18, r19) => (match l_readUnit fz r19 (Rbytes) q25 q27 x2 with | (u24, r25, r26, r27) => (match l_put r26 r27 ((nI 2000) + v11) with | (u32, r33, r34) => l_readProduct_8 fz gz Rbytes x2 k0 (i3 + 1) r25 r33 r34))) else (if v11 = (nI 47) then (match t_needSign r12 (Rbytes) ((v11.toUInt32 % 65536).toInt32) with | (u40, r41) => (match l_readUnit fz r41 (Rbytes) q25 q27 x2 with | (u46, r47, r48, r49) => (match l_put r48 r49 ((nI 2000) + v11) with | (u54, r55, r56) => l_readProduct_8 fz gz Rbytes x2 k0 (i3 + 1) r47 r55 r56))) else (if v11 = (nI 37) then (match t_needSign r12 (Rbytes) ((v11.toUInt32 % 65536).toInt32) with | (u62, r63) => (match l_readUnit fz r63 (Rbytes) q25 q27 x2 with | (u68, r69, r70, r71) => (match l_put r70 r71 ((nI 2000) + v11) with | (u76, r77, r78) => l_readProduct_8 fz gz Rbytes x2 k0 (i3 + 1) r69 r77 r78))) else .inl ((0, r12, q25, q27))))))
noncomputable def l_readProduct_8_ok (fz : (Nat → Int32) → (Nat → Int32) → (Nat → Int32) → (Nat → Int32) → Int32 → Int32 × (Nat → Int32) × (Nat → Int32) × (Nat → Int32)) (gz : (Nat → Int32) → (Nat → Int32) → (Nat → Int32) → (Nat → Int32) → Int32 → Prop) (Rbytes : Nat → Int32) (x2 : Int32) : Nat → Nat → (Nat → Int32) → (Nat → Int32) → (Nat → Int32) → Prop
  | 0, _, _, _, _ => True
  | k0 + 1, i3, q1, q25, q27 => (t_next_ok q1 (Rbytes) ∧ (match t_next q1 (Rbytes) with | (v11, r12) => (if v11 = (nI 42) then (t_needSign_ok r12 (Rbytes) ((v11.toUInt32 % 65536).toInt32) ∧ (match t_needSign r12 (Rbytes) ((v11.toUInt32 % 65536).toInt32) with | (u18, r19) => (l_readUnit_ok fz gz r19 (Rbytes) q25 q27 x2 ∧ (match l_readUnit fz r19 (Rbytes) q25 q27 x2 with | (u24, r25, r26, r27) => (l_put_ok r26 r27 ((nI 2000) + v11) ∧ (match l_put r26 r27 ((nI 2000) + v11) with | (u32, r33, r34) => l_readProduct_8_ok fz gz Rbytes x2 k0 (i3 + 1) r25 r33 r34)))))) else (if v11 = (nI 47) then (t_needSign_ok r12 (Rbytes) ((v11.toUInt32 % 65536).toInt32) ∧ (match t_needSign r12 (Rbytes) ((v11.toUInt32 % 65536).toInt32) with | (u40, r41) => (l_readUnit_ok fz gz r41 (Rbytes) q25 q27 x2 ∧ (match l_readUnit fz r41 (Rbytes) q25 q27 x2 with | (u46, r47, r48, r49) => (l_put_ok r48 r49 ((nI 2000) + v11) ∧ (match l_put r48 r49 ((nI 2000) + v11) with | (u54, r55, r56) => l_readProduct_8_ok fz gz Rbytes x2 k0 (i3 + 1) r47 r55 r56)))))) else (if v11 = (nI 37) then (t_needSign_ok r12 (Rbytes) ((v11.toUInt32 % 65536).toInt32) ∧ (match t_needSign r12 (Rbytes) ((v11.toUInt32 % 65536).toInt32) with | (u62, r63) => (l_readUnit_ok fz gz r63 (Rbytes) q25 q27 x2 ∧ (match l_readUnit fz r63 (Rbytes) q25 q27 x2 with | (u68, r69, r70, r71) => (l_put_ok r70 r71 ((nI 2000) + v11) ∧ (match l_put r70 r71 ((nI 2000) + v11) with | (u76, r77, r78) => l_readProduct_8_ok fz gz Rbytes x2 k0 (i3 + 1) r69 r77 r78)))))) else True)))))
set_option maxHeartbeats 4000000 in
set_option maxRecDepth 3000 in
theorem lp_l_readProduct_25_1_8 (z : Zp) (d : Nat) (M : Mem) (Q : Rs → Prop) (nn : Nat) (x2 : Int32) (fz : (Nat → Int32) → (Nat → Int32) → (Nat → Int32) → (Nat → Int32) → Int32 → Int32 × (Nat → Int32) × (Nat → Int32) × (Nat → Int32)) (gz : (Nat → Int32) → (Nat → Int32) → (Nat → Int32) → (Nat → Int32) → Int32 → Prop) (Hz : ∀ (j : Nat) (M : Mem) (x2 : Int32), gz (M.1 1) (M.1 2) (M.1 25) (M.1 27) x2 → GM z mX3_readSum (d + j) [.ref 25, .ref 1, .int x2] M (fun rs => rs = .inl (none, mrow (mrow (mrow M 1 ((fz (M.1 1) (M.1 2) (M.1 25) (M.1 27) x2).2.1)) 25 ((fz (M.1 1) (M.1 2) (M.1 25) (M.1 27) x2).2.2.1)) 27 ((fz (M.1 1) (M.1 2) (M.1 25) (M.1 27) x2).2.2.2)))) (hnn : nn = 150) : ∀ (k0 : Nat) (i3 : Nat) (q1 : (Nat → Int32)) (q25 : (Nat → Int32)) (q27 : (Nat → Int32)), i3 + k0 = nn → l_readProduct_8_ok fz gz (M.1 2) x2 k0 i3 q1 q25 q27 → (match l_readProduct_8 fz gz (M.1 2) x2 k0 i3 q1 q25 q27 with | .inl (v', q1', q25', q27') => Q (.inl (none, mrow (mrow (mrow M 1 (q1')) 25 (q25')) 27 (q27'))) | .inr (q1', q25', q27') => G z mX3_readProduct (d + 7) 0 0 72 [none, none, none, none, none] [] (mrow (mrow (mrow M 1 (q1')) 25 (q25')) 27 (q27')) Q) → G z mX3_readProduct (d + 7) 0 0 8 [some (.ref 25), some (.ref 1), some (.int x2), some (.int (nI i3)), none] [] (mrow (mrow (mrow M 1 q1) 25 q25) 27 q27) Q := by
  intro k0
  induction k0 with
  | zero =>
      intro i3 q1 q25 q27 hn hk hX
      refine G.sl [(.iload_n 3, 1, 3, 0, 0, 0), (.sipush 150, 3, 0, 0, 0, nI 150)] [] (pc2 := 12) (ls2 := [some (.ref 25), some (.ref 1), some (.int x2), some (.int (nI i3)), none]) (st2 := [.int (nI 150), .int (nI i3)]) (M2 := mrow (mrow (mrow M 1 q1) 25 q25) 27 q27) (Ps := []) (by decide +kernel) rfl rfl trivial ?_
      refine G.ic_ge (off := (60)) (tgt := 72) (by decide +kernel) rfl (fun _ => ?_) (fun h9 => absurd (nI_le (by omega) (by omega)) h9)
      refine G.loc (ls2 := [none, none, none, none, none]) (by simp [subL]) ?_
      simp only [l_readProduct_8] at hX
      exact hX
  | succ k0 ih =>
      intro i3 q1 q25 q27 hn hk hX
      simp only [l_readProduct_8_ok] at hk
      refine G.sl [(.iload_n 3, 1, 3, 0, 0, 0), (.sipush 150, 3, 0, 0, 0, nI 150)] [] (pc2 := 12) (ls2 := [some (.ref 25), some (.ref 1), some (.int x2), some (.int (nI i3)), none]) (st2 := [.int (nI 150), .int (nI i3)]) (M2 := mrow (mrow (mrow M 1 q1) 25 q25) 27 q27) (Ps := []) (by decide +kernel) rfl rfl trivial ?_
      refine G.ic_ge (off := (60)) (tgt := 72) (by decide +kernel) rfl (fun h9 => absurd h9 (nI_ge (by omega) (by omega))) (fun _ => ?_)
      refine G.sl [(.aload_n 1, 1, 1, 0, 0, 0)] [] (pc2 := 16) (ls2 := [some (.ref 25), some (.ref 1), some (.int x2), some (.int (nI i3)), none]) (st2 := [.ref 1]) (M2 := mrow (mrow (mrow M 1 q1) 25 q25) 27 q27) (Ps := []) (by decide +kernel) rfl rfl trivial ?_
      obtain ⟨k9, hk⟩ := hk
      rcases g10 : t_next q1 (M.1 2) with ⟨v11, r12⟩
      try simp only [g10] at hk
      have t13 : GM z mX6_next (d + 6) [.ref 1] (mrow (mrow (mrow M 1 q1) 25 q25) 27 q27) (fun rs => rs = .inl (some (.int v11), mrow (mrow (mrow M 1 r12) 25 q25) 27 q27)) := by
        have q9 := c_t_next_1 z (d + 6) (mrow (mrow (mrow M 1 q1) 25 q25) 27 q27) k9
        try simp only [mput, mrow_same, mrow_hit, mrow_miss, mrow_sw, idr_eq, ne_eq, Nat.reduceEqDiff, not_false_eq_true, Nat.reduceLT, reduceCtorEq, g10] at q9
        exact q9
      refine G.callV (as := []) (rest := []) (a := 1) oX6_next lk_EvenFinders_Law_35 (by decide +kernel) rfl rfl ⟨rfl, rfl⟩ (Nat.le_of_ble_eq_true rfl) rfl ⟨Nat.le_of_ble_eq_true rfl, Nat.le_of_ble_eq_true rfl⟩ t13 (fun v9 N9 h14 => ?_) (fun E9 N9 h14 => by cases h14)
      cases h14
      show G z mX3_readProduct (d + 7) 0 0 19 [some (.ref 25), some (.ref 1), some (.int x2), some (.int (nI i3)), none] [.int v11] (mrow (mrow (mrow M 1 r12) 25 q25) 27 q27) Q
      refine G.sl [(.istore 4, 2, 4, 0, 0, 0), (.iload 4, 2, 4, 0, 0, 0), (.bipush 42, 2, 0, 0, 0, nI 42)] [] (pc2 := 25) (ls2 := [some (.ref 25), some (.ref 1), some (.int x2), some (.int (nI i3)), some (.int v11)]) (st2 := [.int (nI 42), .int v11]) (M2 := mrow (mrow (mrow M 1 r12) 25 q25) 27 q27) (Ps := []) (by decide +kernel) rfl rfl trivial ?_
      refine G.ic_eq (off := (18)) (tgt := 43) (by decide +kernel) rfl (fun c15 => ?_) (fun c15 => ?_)
      · skip
        rw [if_pos c15] at hk
        refine G.sl [(.aload_n 1, 1, 1, 0, 0, 0), (.iload 4, 2, 4, 0, 0, 0), (.i2c, 1, 0, 0, 0, 0)] [] (pc2 := 47) (ls2 := [some (.ref 25), some (.ref 1), some (.int x2), some (.int (nI i3)), some (.int v11)]) (st2 := [.int ((v11.toUInt32 % 65536).toInt32), .ref 1]) (M2 := mrow (mrow (mrow M 1 r12) 25 q25) 27 q27) (Ps := []) (by decide +kernel) rfl rfl trivial ?_
        obtain ⟨k16, hk⟩ := hk
        rcases g17 : t_needSign r12 (M.1 2) ((v11.toUInt32 % 65536).toInt32) with ⟨u18, r19⟩
        try simp only [g17] at hk
        have t20 : GM z mX6_needSign (d + 6) [.ref 1, .int ((v11.toUInt32 % 65536).toInt32)] (mrow (mrow (mrow M 1 r12) 25 q25) 27 q27) (fun rs => rs = .inl (none, mrow (mrow (mrow M 1 r19) 25 q25) 27 q27)) := by
          have q9 := c_t_needSign_1 z (d + 4) (mrow (mrow (mrow M 1 r12) 25 q25) 27 q27) ((v11.toUInt32 % 65536).toInt32) k16
          try simp only [mput, mrow_same, mrow_hit, mrow_miss, mrow_sw, idr_eq, ne_eq, Nat.reduceEqDiff, not_false_eq_true, Nat.reduceLT, reduceCtorEq, g17] at q9
          exact q9
        refine G.callV (as := [.int ((v11.toUInt32 % 65536).toInt32)]) (rest := []) (a := 1) oX6_needSign lk_EvenFinders_Law_51 (by decide +kernel) rfl rfl ⟨rfl, rfl⟩ (Nat.le_of_ble_eq_true rfl) rfl ⟨Nat.le_of_ble_eq_true rfl, Nat.le_of_ble_eq_true rfl⟩ t20 (fun v9 N9 h21 => ?_) (fun E9 N9 h21 => by cases h21)
        cases h21
        show G z mX3_readProduct (d + 7) 0 0 50 [some (.ref 25), some (.ref 1), some (.int x2), some (.int (nI i3)), some (.int v11)] [] (mrow (mrow (mrow M 1 r19) 25 q25) 27 q27) Q
        refine G.sl [(.aload_n 0, 1, 0, 0, 0, 0), (.aload_n 1, 1, 1, 0, 0, 0), (.iload_n 2, 1, 2, 0, 0, 0)] [] (pc2 := 53) (ls2 := [some (.ref 25), some (.ref 1), some (.int x2), some (.int (nI i3)), some (.int v11)]) (st2 := [.int x2, .ref 1, .ref 25]) (M2 := mrow (mrow (mrow M 1 r19) 25 q25) 27 q27) (Ps := []) (by decide +kernel) rfl rfl trivial ?_
        obtain ⟨k22, hk⟩ := hk
        rcases g23 : l_readUnit fz r19 (M.1 2) q25 q27 x2 with ⟨u24, r25, r26, r27⟩
        try simp only [g23] at hk
        have t28 : GM z mX3_readUnit (d + 6) [.ref 25, .ref 1, .int x2] (mrow (mrow (mrow M 1 r19) 25 q25) 27 q27) (fun rs => rs = .inl (none, mrow (mrow (mrow M 1 r25) 25 r26) 27 r27)) := by
          have q9 := c_l_readUnit_25_1 z d (mrow (mrow (mrow M 1 r19) 25 q25) 27 q27) x2 fz gz Hz k22
          try simp only [mput, mrow_same, mrow_hit, mrow_miss, mrow_sw, idr_eq, ne_eq, Nat.reduceEqDiff, not_false_eq_true, Nat.reduceLT, reduceCtorEq, g23] at q9
          exact q9
        refine G.callV (as := [.ref 1, .int x2]) (rest := []) (a := 25) oX3_readUnit lk_EvenFinders_Law_59 (by decide +kernel) rfl rfl ⟨rfl, rfl⟩ (Nat.le_of_ble_eq_true rfl) rfl ⟨Nat.le_of_ble_eq_true rfl, Nat.le_of_ble_eq_true rfl⟩ t28 (fun v9 N9 h29 => ?_) (fun E9 N9 h29 => by cases h29)
        cases h29
        show G z mX3_readProduct (d + 7) 0 0 56 [some (.ref 25), some (.ref 1), some (.int x2), some (.int (nI i3)), some (.int v11)] [] (mrow (mrow (mrow M 1 r25) 25 r26) 27 r27) Q
        refine G.sl [(.aload_n 0, 1, 0, 0, 0, 0), (.sipush 2000, 3, 0, 0, 0, nI 2000), (.iload 4, 2, 4, 0, 0, 0), (.iadd, 1, 0, 0, 0, 0)] [] (pc2 := 63) (ls2 := [some (.ref 25), some (.ref 1), some (.int x2), some (.int (nI i3)), some (.int v11)]) (st2 := [.int ((nI 2000) + v11), .ref 25]) (M2 := mrow (mrow (mrow M 1 r25) 25 r26) 27 r27) (Ps := []) (by decide +kernel) rfl rfl trivial ?_
        obtain ⟨k30, hk⟩ := hk
        rcases g31 : l_put r26 r27 ((nI 2000) + v11) with ⟨u32, r33, r34⟩
        try simp only [g31] at hk
        have t35 : GM z mX3_put (d + 6) [.ref 25, .int ((nI 2000) + v11)] (mrow (mrow (mrow M 1 r25) 25 r26) 27 r27) (fun rs => rs = .inl (none, mrow (mrow (mrow M 1 r25) 25 r33) 27 r34)) := by
          have q9 := c_l_put_25 z (d + 6) (mrow (mrow (mrow M 1 r25) 25 r26) 27 r27) ((nI 2000) + v11) k30
          try simp only [mput, mrow_same, mrow_hit, mrow_miss, mrow_sw, idr_eq, ne_eq, Nat.reduceEqDiff, not_false_eq_true, Nat.reduceLT, reduceCtorEq, g31] at q9
          exact q9
        refine G.callV (as := [.int ((nI 2000) + v11)]) (rest := []) (a := 25) oX3_put lk_EvenFinders_Law_55 (by decide +kernel) rfl rfl ⟨rfl, rfl⟩ (Nat.le_of_ble_eq_true rfl) rfl ⟨Nat.le_of_ble_eq_true rfl, Nat.le_of_ble_eq_true rfl⟩ t35 (fun v9 N9 h36 => ?_) (fun E9 N9 h36 => by cases h36)
        cases h36
        show G z mX3_readProduct (d + 7) 0 0 66 [some (.ref 25), some (.ref 1), some (.int x2), some (.int (nI i3)), some (.int v11)] [] (mrow (mrow (mrow M 1 r25) 25 r33) 27 r34) Q
        refine G.sl [(.iinc 3 1, 3, 3, 0, 0, nI 1), (.goto (-61), 3, 8, 0, 0, 0)] [] (pc2 := 8) (ls2 := [some (.ref 25), some (.ref 1), some (.int x2), some (.int ((nI i3) + nI 1)), some (.int v11)]) (st2 := []) (M2 := mrow (mrow (mrow M 1 r25) 25 r33) 27 r34) (Ps := []) (by decide +kernel) rfl rfl trivial ?_
        refine G.loc (ls2 := [some (.ref 25), some (.ref 1), some (.int x2), some (.int ((nI i3) + nI 1)), none]) (by simp [subL]) ?_
        rw [nI_add i3 1]
        simp only [l_readProduct_8, g10, if_pos c15, g17, g23, g31] at hX
        exact ih (i3 + 1) r25 r33 r34 (by omega) hk hX
      · skip
        rw [if_neg c15] at hk
        refine G.sl [(.iload 4, 2, 4, 0, 0, 0), (.bipush 47, 2, 0, 0, 0, nI 47)] [] (pc2 := 32) (ls2 := [some (.ref 25), some (.ref 1), some (.int x2), some (.int (nI i3)), some (.int v11)]) (st2 := [.int (nI 47), .int v11]) (M2 := mrow (mrow (mrow M 1 r12) 25 q25) 27 q27) (Ps := []) (by decide +kernel) rfl rfl trivial ?_
        refine G.ic_eq (off := (11)) (tgt := 43) (by decide +kernel) rfl (fun c37 => ?_) (fun c37 => ?_)
        · skip
          rw [if_pos c37] at hk
          refine G.sl [(.aload_n 1, 1, 1, 0, 0, 0), (.iload 4, 2, 4, 0, 0, 0), (.i2c, 1, 0, 0, 0, 0)] [] (pc2 := 47) (ls2 := [some (.ref 25), some (.ref 1), some (.int x2), some (.int (nI i3)), some (.int v11)]) (st2 := [.int ((v11.toUInt32 % 65536).toInt32), .ref 1]) (M2 := mrow (mrow (mrow M 1 r12) 25 q25) 27 q27) (Ps := []) (by decide +kernel) rfl rfl trivial ?_
          obtain ⟨k38, hk⟩ := hk
          rcases g39 : t_needSign r12 (M.1 2) ((v11.toUInt32 % 65536).toInt32) with ⟨u40, r41⟩
          try simp only [g39] at hk
          have t42 : GM z mX6_needSign (d + 6) [.ref 1, .int ((v11.toUInt32 % 65536).toInt32)] (mrow (mrow (mrow M 1 r12) 25 q25) 27 q27) (fun rs => rs = .inl (none, mrow (mrow (mrow M 1 r41) 25 q25) 27 q27)) := by
            have q9 := c_t_needSign_1 z (d + 4) (mrow (mrow (mrow M 1 r12) 25 q25) 27 q27) ((v11.toUInt32 % 65536).toInt32) k38
            try simp only [mput, mrow_same, mrow_hit, mrow_miss, mrow_sw, idr_eq, ne_eq, Nat.reduceEqDiff, not_false_eq_true, Nat.reduceLT, reduceCtorEq, g39] at q9
            exact q9
          refine G.callV (as := [.int ((v11.toUInt32 % 65536).toInt32)]) (rest := []) (a := 1) oX6_needSign lk_EvenFinders_Law_51 (by decide +kernel) rfl rfl ⟨rfl, rfl⟩ (Nat.le_of_ble_eq_true rfl) rfl ⟨Nat.le_of_ble_eq_true rfl, Nat.le_of_ble_eq_true rfl⟩ t42 (fun v9 N9 h43 => ?_) (fun E9 N9 h43 => by cases h43)
          cases h43
          show G z mX3_readProduct (d + 7) 0 0 50 [some (.ref 25), some (.ref 1), some (.int x2), some (.int (nI i3)), some (.int v11)] [] (mrow (mrow (mrow M 1 r41) 25 q25) 27 q27) Q
          refine G.sl [(.aload_n 0, 1, 0, 0, 0, 0), (.aload_n 1, 1, 1, 0, 0, 0), (.iload_n 2, 1, 2, 0, 0, 0)] [] (pc2 := 53) (ls2 := [some (.ref 25), some (.ref 1), some (.int x2), some (.int (nI i3)), some (.int v11)]) (st2 := [.int x2, .ref 1, .ref 25]) (M2 := mrow (mrow (mrow M 1 r41) 25 q25) 27 q27) (Ps := []) (by decide +kernel) rfl rfl trivial ?_
          obtain ⟨k44, hk⟩ := hk
          rcases g45 : l_readUnit fz r41 (M.1 2) q25 q27 x2 with ⟨u46, r47, r48, r49⟩
          try simp only [g45] at hk
          have t50 : GM z mX3_readUnit (d + 6) [.ref 25, .ref 1, .int x2] (mrow (mrow (mrow M 1 r41) 25 q25) 27 q27) (fun rs => rs = .inl (none, mrow (mrow (mrow M 1 r47) 25 r48) 27 r49)) := by
            have q9 := c_l_readUnit_25_1 z d (mrow (mrow (mrow M 1 r41) 25 q25) 27 q27) x2 fz gz Hz k44
            try simp only [mput, mrow_same, mrow_hit, mrow_miss, mrow_sw, idr_eq, ne_eq, Nat.reduceEqDiff, not_false_eq_true, Nat.reduceLT, reduceCtorEq, g45] at q9
            exact q9
          refine G.callV (as := [.ref 1, .int x2]) (rest := []) (a := 25) oX3_readUnit lk_EvenFinders_Law_59 (by decide +kernel) rfl rfl ⟨rfl, rfl⟩ (Nat.le_of_ble_eq_true rfl) rfl ⟨Nat.le_of_ble_eq_true rfl, Nat.le_of_ble_eq_true rfl⟩ t50 (fun v9 N9 h51 => ?_) (fun E9 N9 h51 => by cases h51)
          cases h51
          show G z mX3_readProduct (d + 7) 0 0 56 [some (.ref 25), some (.ref 1), some (.int x2), some (.int (nI i3)), some (.int v11)] [] (mrow (mrow (mrow M 1 r47) 25 r48) 27 r49) Q
          refine G.sl [(.aload_n 0, 1, 0, 0, 0, 0), (.sipush 2000, 3, 0, 0, 0, nI 2000), (.iload 4, 2, 4, 0, 0, 0), (.iadd, 1, 0, 0, 0, 0)] [] (pc2 := 63) (ls2 := [some (.ref 25), some (.ref 1), some (.int x2), some (.int (nI i3)), some (.int v11)]) (st2 := [.int ((nI 2000) + v11), .ref 25]) (M2 := mrow (mrow (mrow M 1 r47) 25 r48) 27 r49) (Ps := []) (by decide +kernel) rfl rfl trivial ?_
          obtain ⟨k52, hk⟩ := hk
          rcases g53 : l_put r48 r49 ((nI 2000) + v11) with ⟨u54, r55, r56⟩
          try simp only [g53] at hk
          have t57 : GM z mX3_put (d + 6) [.ref 25, .int ((nI 2000) + v11)] (mrow (mrow (mrow M 1 r47) 25 r48) 27 r49) (fun rs => rs = .inl (none, mrow (mrow (mrow M 1 r47) 25 r55) 27 r56)) := by
            have q9 := c_l_put_25 z (d + 6) (mrow (mrow (mrow M 1 r47) 25 r48) 27 r49) ((nI 2000) + v11) k52
            try simp only [mput, mrow_same, mrow_hit, mrow_miss, mrow_sw, idr_eq, ne_eq, Nat.reduceEqDiff, not_false_eq_true, Nat.reduceLT, reduceCtorEq, g53] at q9
            exact q9
          refine G.callV (as := [.int ((nI 2000) + v11)]) (rest := []) (a := 25) oX3_put lk_EvenFinders_Law_55 (by decide +kernel) rfl rfl ⟨rfl, rfl⟩ (Nat.le_of_ble_eq_true rfl) rfl ⟨Nat.le_of_ble_eq_true rfl, Nat.le_of_ble_eq_true rfl⟩ t57 (fun v9 N9 h58 => ?_) (fun E9 N9 h58 => by cases h58)
          cases h58
          show G z mX3_readProduct (d + 7) 0 0 66 [some (.ref 25), some (.ref 1), some (.int x2), some (.int (nI i3)), some (.int v11)] [] (mrow (mrow (mrow M 1 r47) 25 r55) 27 r56) Q
          refine G.sl [(.iinc 3 1, 3, 3, 0, 0, nI 1), (.goto (-61), 3, 8, 0, 0, 0)] [] (pc2 := 8) (ls2 := [some (.ref 25), some (.ref 1), some (.int x2), some (.int ((nI i3) + nI 1)), some (.int v11)]) (st2 := []) (M2 := mrow (mrow (mrow M 1 r47) 25 r55) 27 r56) (Ps := []) (by decide +kernel) rfl rfl trivial ?_
          refine G.loc (ls2 := [some (.ref 25), some (.ref 1), some (.int x2), some (.int ((nI i3) + nI 1)), none]) (by simp [subL]) ?_
          rw [nI_add i3 1]
          simp only [l_readProduct_8, g10, if_neg c15, if_pos c37, g39, g45, g53] at hX
          exact ih (i3 + 1) r47 r55 r56 (by omega) hk hX
        · skip
          rw [if_neg c37] at hk
          refine G.sl [(.iload 4, 2, 4, 0, 0, 0), (.bipush 37, 2, 0, 0, 0, nI 37)] [] (pc2 := 39) (ls2 := [some (.ref 25), some (.ref 1), some (.int x2), some (.int (nI i3)), some (.int v11)]) (st2 := [.int (nI 37), .int v11]) (M2 := mrow (mrow (mrow M 1 r12) 25 q25) 27 q27) (Ps := []) (by decide +kernel) rfl rfl trivial ?_
          refine G.ic_eq (off := (4)) (tgt := 43) (by decide +kernel) rfl (fun c59 => ?_) (fun c59 => ?_)
          · skip
            rw [if_pos c59] at hk
            refine G.sl [(.aload_n 1, 1, 1, 0, 0, 0), (.iload 4, 2, 4, 0, 0, 0), (.i2c, 1, 0, 0, 0, 0)] [] (pc2 := 47) (ls2 := [some (.ref 25), some (.ref 1), some (.int x2), some (.int (nI i3)), some (.int v11)]) (st2 := [.int ((v11.toUInt32 % 65536).toInt32), .ref 1]) (M2 := mrow (mrow (mrow M 1 r12) 25 q25) 27 q27) (Ps := []) (by decide +kernel) rfl rfl trivial ?_
            obtain ⟨k60, hk⟩ := hk
            rcases g61 : t_needSign r12 (M.1 2) ((v11.toUInt32 % 65536).toInt32) with ⟨u62, r63⟩
            try simp only [g61] at hk
            have t64 : GM z mX6_needSign (d + 6) [.ref 1, .int ((v11.toUInt32 % 65536).toInt32)] (mrow (mrow (mrow M 1 r12) 25 q25) 27 q27) (fun rs => rs = .inl (none, mrow (mrow (mrow M 1 r63) 25 q25) 27 q27)) := by
              have q9 := c_t_needSign_1 z (d + 4) (mrow (mrow (mrow M 1 r12) 25 q25) 27 q27) ((v11.toUInt32 % 65536).toInt32) k60
              try simp only [mput, mrow_same, mrow_hit, mrow_miss, mrow_sw, idr_eq, ne_eq, Nat.reduceEqDiff, not_false_eq_true, Nat.reduceLT, reduceCtorEq, g61] at q9
              exact q9
            refine G.callV (as := [.int ((v11.toUInt32 % 65536).toInt32)]) (rest := []) (a := 1) oX6_needSign lk_EvenFinders_Law_51 (by decide +kernel) rfl rfl ⟨rfl, rfl⟩ (Nat.le_of_ble_eq_true rfl) rfl ⟨Nat.le_of_ble_eq_true rfl, Nat.le_of_ble_eq_true rfl⟩ t64 (fun v9 N9 h65 => ?_) (fun E9 N9 h65 => by cases h65)
            cases h65
            show G z mX3_readProduct (d + 7) 0 0 50 [some (.ref 25), some (.ref 1), some (.int x2), some (.int (nI i3)), some (.int v11)] [] (mrow (mrow (mrow M 1 r63) 25 q25) 27 q27) Q
            refine G.sl [(.aload_n 0, 1, 0, 0, 0, 0), (.aload_n 1, 1, 1, 0, 0, 0), (.iload_n 2, 1, 2, 0, 0, 0)] [] (pc2 := 53) (ls2 := [some (.ref 25), some (.ref 1), some (.int x2), some (.int (nI i3)), some (.int v11)]) (st2 := [.int x2, .ref 1, .ref 25]) (M2 := mrow (mrow (mrow M 1 r63) 25 q25) 27 q27) (Ps := []) (by decide +kernel) rfl rfl trivial ?_
            obtain ⟨k66, hk⟩ := hk
            rcases g67 : l_readUnit fz r63 (M.1 2) q25 q27 x2 with ⟨u68, r69, r70, r71⟩
            try simp only [g67] at hk
            have t72 : GM z mX3_readUnit (d + 6) [.ref 25, .ref 1, .int x2] (mrow (mrow (mrow M 1 r63) 25 q25) 27 q27) (fun rs => rs = .inl (none, mrow (mrow (mrow M 1 r69) 25 r70) 27 r71)) := by
              have q9 := c_l_readUnit_25_1 z d (mrow (mrow (mrow M 1 r63) 25 q25) 27 q27) x2 fz gz Hz k66
              try simp only [mput, mrow_same, mrow_hit, mrow_miss, mrow_sw, idr_eq, ne_eq, Nat.reduceEqDiff, not_false_eq_true, Nat.reduceLT, reduceCtorEq, g67] at q9
              exact q9
            refine G.callV (as := [.ref 1, .int x2]) (rest := []) (a := 25) oX3_readUnit lk_EvenFinders_Law_59 (by decide +kernel) rfl rfl ⟨rfl, rfl⟩ (Nat.le_of_ble_eq_true rfl) rfl ⟨Nat.le_of_ble_eq_true rfl, Nat.le_of_ble_eq_true rfl⟩ t72 (fun v9 N9 h73 => ?_) (fun E9 N9 h73 => by cases h73)
            cases h73
            show G z mX3_readProduct (d + 7) 0 0 56 [some (.ref 25), some (.ref 1), some (.int x2), some (.int (nI i3)), some (.int v11)] [] (mrow (mrow (mrow M 1 r69) 25 r70) 27 r71) Q
            refine G.sl [(.aload_n 0, 1, 0, 0, 0, 0), (.sipush 2000, 3, 0, 0, 0, nI 2000), (.iload 4, 2, 4, 0, 0, 0), (.iadd, 1, 0, 0, 0, 0)] [] (pc2 := 63) (ls2 := [some (.ref 25), some (.ref 1), some (.int x2), some (.int (nI i3)), some (.int v11)]) (st2 := [.int ((nI 2000) + v11), .ref 25]) (M2 := mrow (mrow (mrow M 1 r69) 25 r70) 27 r71) (Ps := []) (by decide +kernel) rfl rfl trivial ?_
            obtain ⟨k74, hk⟩ := hk
            rcases g75 : l_put r70 r71 ((nI 2000) + v11) with ⟨u76, r77, r78⟩
            try simp only [g75] at hk
            have t79 : GM z mX3_put (d + 6) [.ref 25, .int ((nI 2000) + v11)] (mrow (mrow (mrow M 1 r69) 25 r70) 27 r71) (fun rs => rs = .inl (none, mrow (mrow (mrow M 1 r69) 25 r77) 27 r78)) := by
              have q9 := c_l_put_25 z (d + 6) (mrow (mrow (mrow M 1 r69) 25 r70) 27 r71) ((nI 2000) + v11) k74
              try simp only [mput, mrow_same, mrow_hit, mrow_miss, mrow_sw, idr_eq, ne_eq, Nat.reduceEqDiff, not_false_eq_true, Nat.reduceLT, reduceCtorEq, g75] at q9
              exact q9
            refine G.callV (as := [.int ((nI 2000) + v11)]) (rest := []) (a := 25) oX3_put lk_EvenFinders_Law_55 (by decide +kernel) rfl rfl ⟨rfl, rfl⟩ (Nat.le_of_ble_eq_true rfl) rfl ⟨Nat.le_of_ble_eq_true rfl, Nat.le_of_ble_eq_true rfl⟩ t79 (fun v9 N9 h80 => ?_) (fun E9 N9 h80 => by cases h80)
            cases h80
            show G z mX3_readProduct (d + 7) 0 0 66 [some (.ref 25), some (.ref 1), some (.int x2), some (.int (nI i3)), some (.int v11)] [] (mrow (mrow (mrow M 1 r69) 25 r77) 27 r78) Q
            refine G.sl [(.iinc 3 1, 3, 3, 0, 0, nI 1), (.goto (-61), 3, 8, 0, 0, 0)] [] (pc2 := 8) (ls2 := [some (.ref 25), some (.ref 1), some (.int x2), some (.int ((nI i3) + nI 1)), some (.int v11)]) (st2 := []) (M2 := mrow (mrow (mrow M 1 r69) 25 r77) 27 r78) (Ps := []) (by decide +kernel) rfl rfl trivial ?_
            refine G.loc (ls2 := [some (.ref 25), some (.ref 1), some (.int x2), some (.int ((nI i3) + nI 1)), none]) (by simp [subL]) ?_
            rw [nI_add i3 1]
            simp only [l_readProduct_8, g10, if_neg c15, if_neg c37, if_pos c59, g61, g67, g75] at hX
            exact ih (i3 + 1) r69 r77 r78 (by omega) hk hX
          · skip
            rw [if_neg c59] at hk
            exact G.retv (by decide +kernel) rfl (Nat.le_of_ble_eq_true rfl) (Nat.le_of_ble_eq_true rfl) ((by simp only [l_readProduct_8, g10, if_neg c15, if_neg c37, if_neg c59] at hX; exact hX))
noncomputable def l_readProduct (fz : (Nat → Int32) → (Nat → Int32) → (Nat → Int32) → (Nat → Int32) → Int32 → Int32 × (Nat → Int32) × (Nat → Int32) × (Nat → Int32)) (Rtape Rbytes Rlaw Rcodes : Nat → Int32) (x2 : Int32) : Int32 × (Nat → Int32) × (Nat → Int32) × (Nat → Int32) := (match l_readUnit fz (Rtape) (Rbytes) (Rlaw) (Rcodes) x2 with | (u3, r4, r5, r6) => (match l_readProduct_8 fz gz (Rbytes) x2 (cN 150) 0 r4 r5 r6 with | .inl (v86, r87, r88, r89) => (0, r87, r88, r89) | .inr (r83, r84, r85) => (0, r83, r84, r85)))
noncomputable def l_readProduct_ok (fz : (Nat → Int32) → (Nat → Int32) → (Nat → Int32) → (Nat → Int32) → Int32 → Int32 × (Nat → Int32) × (Nat → Int32) × (Nat → Int32)) (gz : (Nat → Int32) → (Nat → Int32) → (Nat → Int32) → (Nat → Int32) → Int32 → Prop) (Rtape Rbytes Rlaw Rcodes : Nat → Int32) (x2 : Int32) : Prop := (l_readUnit_ok fz gz (Rtape) (Rbytes) (Rlaw) (Rcodes) x2 ∧ (match l_readUnit fz (Rtape) (Rbytes) (Rlaw) (Rcodes) x2 with | (u3, r4, r5, r6) => (l_readProduct_8_ok fz gz (Rbytes) x2 (cN 150) 0 r4 r5 r6 ∧ (match l_readProduct_8 fz gz (Rbytes) x2 (cN 150) 0 r4 r5 r6 with | .inl (v86, r87, r88, r89) => True | .inr (r83, r84, r85) => True))))
set_option maxHeartbeats 4000000 in
set_option maxRecDepth 3000 in
theorem c_l_readProduct_25_1 (z : Zp) (d : Nat) (M : Mem) (x2 : Int32) (fz : (Nat → Int32) → (Nat → Int32) → (Nat → Int32) → (Nat → Int32) → Int32 → Int32 × (Nat → Int32) × (Nat → Int32) × (Nat → Int32)) (gz : (Nat → Int32) → (Nat → Int32) → (Nat → Int32) → (Nat → Int32) → Int32 → Prop) (Hz : ∀ (j : Nat) (M : Mem) (x2 : Int32), gz (M.1 1) (M.1 2) (M.1 25) (M.1 27) x2 → GM z mX3_readSum (d + j) [.ref 25, .ref 1, .int x2] M (fun rs => rs = .inl (none, mrow (mrow (mrow M 1 ((fz (M.1 1) (M.1 2) (M.1 25) (M.1 27) x2).2.1)) 25 ((fz (M.1 1) (M.1 2) (M.1 25) (M.1 27) x2).2.2.1)) 27 ((fz (M.1 1) (M.1 2) (M.1 25) (M.1 27) x2).2.2.2)))) (hk : l_readProduct_ok fz gz (M.1 1) (M.1 2) (M.1 25) (M.1 27) x2) : GM z mX3_readProduct (d + 7) [.ref 25, .ref 1, .int x2] M (fun rs => rs = .inl (none, mrow (mrow (mrow M 1 ((l_readProduct fz (M.1 1) (M.1 2) (M.1 25) (M.1 27) x2).2.1)) 25 ((l_readProduct fz (M.1 1) (M.1 2) (M.1 25) (M.1 27) x2).2.2.1)) 27 ((l_readProduct fz (M.1 1) (M.1 2) (M.1 25) (M.1 27) x2).2.2.2))) := by
  simp only [l_readProduct_ok] at hk
  refine GM.of oX3_readProduct.1 (Nat.le_of_ble_eq_true rfl) ?_
  show G z mX3_readProduct (d + 7) 0 0 0 [some (.ref 25), some (.ref 1), some (.int x2), none, none] [] M _
  obtain ⟨Q, hQ⟩ : ∃ Q : Rs → Prop, Q = (fun rs => rs = .inl (none, mrow (mrow (mrow M 1 ((l_readProduct fz (M.1 1) (M.1 2) (M.1 25) (M.1 27) x2).2.1)) 25 ((l_readProduct fz (M.1 1) (M.1 2) (M.1 25) (M.1 27) x2).2.2.1)) 27 ((l_readProduct fz (M.1 1) (M.1 2) (M.1 25) (M.1 27) x2).2.2.2))) := ⟨_, rfl⟩
  rw [← hQ]
  refine G.sl [(.aload_n 0, 1, 0, 0, 0, 0), (.aload_n 1, 1, 1, 0, 0, 0), (.iload_n 2, 1, 2, 0, 0, 0)] [] (pc2 := 3) (ls2 := [some (.ref 25), some (.ref 1), some (.int x2), none, none]) (st2 := [.int x2, .ref 1, .ref 25]) (M2 := M) (Ps := []) (by decide +kernel) rfl rfl trivial ?_
  obtain ⟨k1, hk⟩ := hk
  rcases g2 : l_readUnit fz (M.1 1) (M.1 2) (M.1 25) (M.1 27) x2 with ⟨u3, r4, r5, r6⟩
  try simp only [g2] at hk
  have t7 : GM z mX3_readUnit (d + 6) [.ref 25, .ref 1, .int x2] M (fun rs => rs = .inl (none, mrow (mrow (mrow M 1 r4) 25 r5) 27 r6)) := by
    have q9 := c_l_readUnit_25_1 z d M x2 fz gz Hz k1
    try simp only [mput, mrow_same, mrow_hit, mrow_miss, mrow_sw, idr_eq, ne_eq, Nat.reduceEqDiff, not_false_eq_true, Nat.reduceLT, reduceCtorEq, g2] at q9
    exact q9
  refine G.callV (as := [.ref 1, .int x2]) (rest := []) (a := 25) oX3_readUnit lk_EvenFinders_Law_59 (by decide +kernel) rfl rfl ⟨rfl, rfl⟩ (Nat.le_of_ble_eq_true rfl) rfl ⟨Nat.le_of_ble_eq_true rfl, Nat.le_of_ble_eq_true rfl⟩ t7 (fun v9 N9 h8 => ?_) (fun E9 N9 h8 => by cases h8)
  cases h8
  show G z mX3_readProduct (d + 7) 0 0 6 [some (.ref 25), some (.ref 1), some (.int x2), none, none] [] (mrow (mrow (mrow M 1 r4) 25 r5) 27 r6) Q
  refine G.sl [(.iconst 0, 1, 0, 0, 0, nI 0), (.istore_n 3, 1, 3, 0, 0, 0)] [] (pc2 := 8) (ls2 := [some (.ref 25), some (.ref 1), some (.int x2), some (.int (nI 0)), none]) (st2 := []) (M2 := mrow (mrow (mrow M 1 r4) 25 r5) 27 r6) (Ps := []) (by decide +kernel) rfl rfl trivial ?_
  obtain ⟨k81, hk⟩ := hk
  refine G.mem (M' := mrow (mrow (mrow (mrow (mrow (mrow M 1 r4) 25 r5) 27 r6) 1 ((mrow (mrow (mrow M 1 r4) 25 r5) 27 r6).1 1)) 25 ((mrow (mrow (mrow M 1 r4) 25 r5) 27 r6).1 25)) 27 ((mrow (mrow (mrow M 1 r4) 25 r5) 27 r6).1 27)) (by simp only [mrow_self]) ?_
  refine lp_l_readProduct_25_1_8 z d (mrow (mrow (mrow M 1 r4) 25 r5) 27 r6) Q (cN 150) x2 fz gz Hz (cN_eq 150) (cN 150) 0 ((mrow (mrow (mrow M 1 r4) 25 r5) 27 r6).1 1) ((mrow (mrow (mrow M 1 r4) 25 r5) 27 r6).1 25) ((mrow (mrow (mrow M 1 r4) 25 r5) 27 r6).1 27) (Nat.zero_add _) (by first | (simp only [mput, mrow_same, mrow_hit, mrow_miss, mrow_sw, idr_eq, ne_eq, Nat.reduceEqDiff, not_false_eq_true, Nat.reduceLT, reduceCtorEq]; exact k81) | exact k81) ?_
  try simp only [mput, mrow_same, mrow_hit, mrow_miss, mrow_sw, idr_eq, ne_eq, Nat.reduceEqDiff, not_false_eq_true, Nat.reduceLT, reduceCtorEq]
  rcases g82 : l_readProduct_8 fz gz (M.1 2) x2 (cN 150) 0 r4 r5 r6 with ⟨v86, r87, r88, r89⟩ | ⟨r83, r84, r85⟩
  · skip
    show Q (.inl (none, mrow (mrow (mrow M 1 r87) 25 r88) 27 r89))
    rw [hQ]
    simp only [l_readProduct, g2, g82, mrow_self]
  · skip
    show G z mX3_readProduct (d + 7) 0 0 72 [none, none, none, none, none] [] (mrow (mrow (mrow M 1 r83) 25 r84) 27 r85) Q
    exact G.retv (by decide +kernel) rfl (Nat.le_of_ble_eq_true rfl) (Nat.le_of_ble_eq_true rfl) ((by rw [hQ]; simp only [l_readProduct, g2, g82, mrow_self]))
noncomputable def l_readSum_st_8 (fz : (Nat → Int32) → (Nat → Int32) → (Nat → Int32) → (Nat → Int32) → Int32 → Int32 × (Nat → Int32) × (Nat → Int32) × (Nat → Int32)) (gz : (Nat → Int32) → (Nat → Int32) → (Nat → Int32) → (Nat → Int32) → Int32 → Prop) (Rbytes : Nat → Int32) (x2 : Int32) : Nat → Nat → (Nat → Int32) → (Nat → Int32) → (Nat → Int32) → (Int32 × (Nat → Int32) × (Nat → Int32) × (Nat → Int32)) ⊕ ((Nat → Int32) × (Nat → Int32) × (Nat → Int32))
  | 0, _, q1, q25, q27 => .inr (q1, q25, q27)
  | k0 + 1, i3, q1, q25, q27 => (match t_next q1 (Rbytes) with | (v11, r12) => (if v11 = (nI 43) then (match t_needSign r12 (Rbytes) ((v11.toUInt32 % 65536).toInt32) with | (u18, r19) => (match l_readProduct fz r19 (Rbytes) q25 q27 x2 with | (u24, r25, r26, r27) => (match l_put r26 r27 ((nI 2000) + v11) with | (u32, r33, r34) => l_readSum_st_8 fz gz Rbytes x2 k0 (i3 + 1) r25 r33 r34))) else (if v11 = (nI 45) then (match t_needSign r12 (Rbytes) ((v11.toUInt32 % 65536).toInt32) with | (u40, r41) => (match l_readProduct fz r41 (Rbytes) q25 q27 x2 with | (u46, r47, r48, r49) => (match l_put r48 r49 ((nI 2000) + v11) with | (u54, r55, r56) => l_readSum_st_8 fz gz Rbytes x2 k0 (i3 + 1) r47 r55 r56))) else .inl ((0, r12, q25, q27)))))
noncomputable def l_readSum_st_8_ok (fz : (Nat → Int32) → (Nat → Int32) → (Nat → Int32) → (Nat → Int32) → Int32 → Int32 × (Nat → Int32) × (Nat → Int32) × (Nat → Int32)) (gz : (Nat → Int32) → (Nat → Int32) → (Nat → Int32) → (Nat → Int32) → Int32 → Prop) (Rbytes : Nat → Int32) (x2 : Int32) : Nat → Nat → (Nat → Int32) → (Nat → Int32) → (Nat → Int32) → Prop
  | 0, _, _, _, _ => True
  | k0 + 1, i3, q1, q25, q27 => (t_next_ok q1 (Rbytes) ∧ (match t_next q1 (Rbytes) with | (v11, r12) => (if v11 = (nI 43) then (t_needSign_ok r12 (Rbytes) ((v11.toUInt32 % 65536).toInt32) ∧ (match t_needSign r12 (Rbytes) ((v11.toUInt32 % 65536).toInt32) with | (u18, r19) => (l_readProduct_ok fz gz r19 (Rbytes) q25 q27 x2 ∧ (match l_readProduct fz r19 (Rbytes) q25 q27 x2 with | (u24, r25, r26, r27) => (l_put_ok r26 r27 ((nI 2000) + v11) ∧ (match l_put r26 r27 ((nI 2000) + v11) with | (u32, r33, r34) => l_readSum_st_8_ok fz gz Rbytes x2 k0 (i3 + 1) r25 r33 r34)))))) else (if v11 = (nI 45) then (t_needSign_ok r12 (Rbytes) ((v11.toUInt32 % 65536).toInt32) ∧ (match t_needSign r12 (Rbytes) ((v11.toUInt32 % 65536).toInt32) with | (u40, r41) => (l_readProduct_ok fz gz r41 (Rbytes) q25 q27 x2 ∧ (match l_readProduct fz r41 (Rbytes) q25 q27 x2 with | (u46, r47, r48, r49) => (l_put_ok r48 r49 ((nI 2000) + v11) ∧ (match l_put r48 r49 ((nI 2000) + v11) with | (u54, r55, r56) => l_readSum_st_8_ok fz gz Rbytes x2 k0 (i3 + 1) r47 r55 r56)))))) else True))))
set_option maxHeartbeats 4000000 in
set_option maxRecDepth 3000 in
theorem lp_l_readSum_25_1_st_8 (z : Zp) (d : Nat) (M : Mem) (Q : Rs → Prop) (nn : Nat) (x2 : Int32) (fz : (Nat → Int32) → (Nat → Int32) → (Nat → Int32) → (Nat → Int32) → Int32 → Int32 × (Nat → Int32) × (Nat → Int32) × (Nat → Int32)) (gz : (Nat → Int32) → (Nat → Int32) → (Nat → Int32) → (Nat → Int32) → Int32 → Prop) (Hz : ∀ (j : Nat) (M : Mem) (x2 : Int32), gz (M.1 1) (M.1 2) (M.1 25) (M.1 27) x2 → GM z mX3_readSum (d + j) [.ref 25, .ref 1, .int x2] M (fun rs => rs = .inl (none, mrow (mrow (mrow M 1 ((fz (M.1 1) (M.1 2) (M.1 25) (M.1 27) x2).2.1)) 25 ((fz (M.1 1) (M.1 2) (M.1 25) (M.1 27) x2).2.2.1)) 27 ((fz (M.1 1) (M.1 2) (M.1 25) (M.1 27) x2).2.2.2)))) (hnn : nn = 150) : ∀ (k0 : Nat) (i3 : Nat) (q1 : (Nat → Int32)) (q25 : (Nat → Int32)) (q27 : (Nat → Int32)), i3 + k0 = nn → l_readSum_st_8_ok fz gz (M.1 2) x2 k0 i3 q1 q25 q27 → (match l_readSum_st_8 fz gz (M.1 2) x2 k0 i3 q1 q25 q27 with | .inl (v', q1', q25', q27') => Q (.inl (none, mrow (mrow (mrow M 1 (q1')) 25 (q25')) 27 (q27'))) | .inr (q1', q25', q27') => G z mX3_readSum (d + 8) 0 0 65 [none, none, none, none, none] [] (mrow (mrow (mrow M 1 (q1')) 25 (q25')) 27 (q27')) Q) → G z mX3_readSum (d + 8) 0 0 8 [some (.ref 25), some (.ref 1), some (.int x2), some (.int (nI i3)), none] [] (mrow (mrow (mrow M 1 q1) 25 q25) 27 q27) Q := by
  intro k0
  induction k0 with
  | zero =>
      intro i3 q1 q25 q27 hn hk hX
      refine G.sl [(.iload_n 3, 1, 3, 0, 0, 0), (.sipush 150, 3, 0, 0, 0, nI 150)] [] (pc2 := 12) (ls2 := [some (.ref 25), some (.ref 1), some (.int x2), some (.int (nI i3)), none]) (st2 := [.int (nI 150), .int (nI i3)]) (M2 := mrow (mrow (mrow M 1 q1) 25 q25) 27 q27) (Ps := []) (by decide +kernel) rfl rfl trivial ?_
      refine G.ic_ge (off := (53)) (tgt := 65) (by decide +kernel) rfl (fun _ => ?_) (fun h9 => absurd (nI_le (by omega) (by omega)) h9)
      refine G.loc (ls2 := [none, none, none, none, none]) (by simp [subL]) ?_
      simp only [l_readSum_st_8] at hX
      exact hX
  | succ k0 ih =>
      intro i3 q1 q25 q27 hn hk hX
      simp only [l_readSum_st_8_ok] at hk
      refine G.sl [(.iload_n 3, 1, 3, 0, 0, 0), (.sipush 150, 3, 0, 0, 0, nI 150)] [] (pc2 := 12) (ls2 := [some (.ref 25), some (.ref 1), some (.int x2), some (.int (nI i3)), none]) (st2 := [.int (nI 150), .int (nI i3)]) (M2 := mrow (mrow (mrow M 1 q1) 25 q25) 27 q27) (Ps := []) (by decide +kernel) rfl rfl trivial ?_
      refine G.ic_ge (off := (53)) (tgt := 65) (by decide +kernel) rfl (fun h9 => absurd h9 (nI_ge (by omega) (by omega))) (fun _ => ?_)
      refine G.sl [(.aload_n 1, 1, 1, 0, 0, 0)] [] (pc2 := 16) (ls2 := [some (.ref 25), some (.ref 1), some (.int x2), some (.int (nI i3)), none]) (st2 := [.ref 1]) (M2 := mrow (mrow (mrow M 1 q1) 25 q25) 27 q27) (Ps := []) (by decide +kernel) rfl rfl trivial ?_
      obtain ⟨k9, hk⟩ := hk
      rcases g10 : t_next q1 (M.1 2) with ⟨v11, r12⟩
      try simp only [g10] at hk
      have t13 : GM z mX6_next (d + 7) [.ref 1] (mrow (mrow (mrow M 1 q1) 25 q25) 27 q27) (fun rs => rs = .inl (some (.int v11), mrow (mrow (mrow M 1 r12) 25 q25) 27 q27)) := by
        have q9 := c_t_next_1 z (d + 7) (mrow (mrow (mrow M 1 q1) 25 q25) 27 q27) k9
        try simp only [mput, mrow_same, mrow_hit, mrow_miss, mrow_sw, idr_eq, ne_eq, Nat.reduceEqDiff, not_false_eq_true, Nat.reduceLT, reduceCtorEq, g10] at q9
        exact q9
      refine G.callV (as := []) (rest := []) (a := 1) oX6_next lk_EvenFinders_Law_35 (by decide +kernel) rfl rfl ⟨rfl, rfl⟩ (Nat.le_of_ble_eq_true rfl) rfl ⟨Nat.le_of_ble_eq_true rfl, Nat.le_of_ble_eq_true rfl⟩ t13 (fun v9 N9 h14 => ?_) (fun E9 N9 h14 => by cases h14)
      cases h14
      show G z mX3_readSum (d + 8) 0 0 19 [some (.ref 25), some (.ref 1), some (.int x2), some (.int (nI i3)), none] [.int v11] (mrow (mrow (mrow M 1 r12) 25 q25) 27 q27) Q
      refine G.sl [(.istore 4, 2, 4, 0, 0, 0), (.iload 4, 2, 4, 0, 0, 0), (.bipush 43, 2, 0, 0, 0, nI 43)] [] (pc2 := 25) (ls2 := [some (.ref 25), some (.ref 1), some (.int x2), some (.int (nI i3)), some (.int v11)]) (st2 := [.int (nI 43), .int v11]) (M2 := mrow (mrow (mrow M 1 r12) 25 q25) 27 q27) (Ps := []) (by decide +kernel) rfl rfl trivial ?_
      refine G.ic_eq (off := (11)) (tgt := 36) (by decide +kernel) rfl (fun c15 => ?_) (fun c15 => ?_)
      · skip
        rw [if_pos c15] at hk
        refine G.sl [(.aload_n 1, 1, 1, 0, 0, 0), (.iload 4, 2, 4, 0, 0, 0), (.i2c, 1, 0, 0, 0, 0)] [] (pc2 := 40) (ls2 := [some (.ref 25), some (.ref 1), some (.int x2), some (.int (nI i3)), some (.int v11)]) (st2 := [.int ((v11.toUInt32 % 65536).toInt32), .ref 1]) (M2 := mrow (mrow (mrow M 1 r12) 25 q25) 27 q27) (Ps := []) (by decide +kernel) rfl rfl trivial ?_
        obtain ⟨k16, hk⟩ := hk
        rcases g17 : t_needSign r12 (M.1 2) ((v11.toUInt32 % 65536).toInt32) with ⟨u18, r19⟩
        try simp only [g17] at hk
        have t20 : GM z mX6_needSign (d + 7) [.ref 1, .int ((v11.toUInt32 % 65536).toInt32)] (mrow (mrow (mrow M 1 r12) 25 q25) 27 q27) (fun rs => rs = .inl (none, mrow (mrow (mrow M 1 r19) 25 q25) 27 q27)) := by
          have q9 := c_t_needSign_1 z (d + 5) (mrow (mrow (mrow M 1 r12) 25 q25) 27 q27) ((v11.toUInt32 % 65536).toInt32) k16
          try simp only [mput, mrow_same, mrow_hit, mrow_miss, mrow_sw, idr_eq, ne_eq, Nat.reduceEqDiff, not_false_eq_true, Nat.reduceLT, reduceCtorEq, g17] at q9
          exact q9
        refine G.callV (as := [.int ((v11.toUInt32 % 65536).toInt32)]) (rest := []) (a := 1) oX6_needSign lk_EvenFinders_Law_51 (by decide +kernel) rfl rfl ⟨rfl, rfl⟩ (Nat.le_of_ble_eq_true rfl) rfl ⟨Nat.le_of_ble_eq_true rfl, Nat.le_of_ble_eq_true rfl⟩ t20 (fun v9 N9 h21 => ?_) (fun E9 N9 h21 => by cases h21)
        cases h21
        show G z mX3_readSum (d + 8) 0 0 43 [some (.ref 25), some (.ref 1), some (.int x2), some (.int (nI i3)), some (.int v11)] [] (mrow (mrow (mrow M 1 r19) 25 q25) 27 q27) Q
        refine G.sl [(.aload_n 0, 1, 0, 0, 0, 0), (.aload_n 1, 1, 1, 0, 0, 0), (.iload_n 2, 1, 2, 0, 0, 0)] [] (pc2 := 46) (ls2 := [some (.ref 25), some (.ref 1), some (.int x2), some (.int (nI i3)), some (.int v11)]) (st2 := [.int x2, .ref 1, .ref 25]) (M2 := mrow (mrow (mrow M 1 r19) 25 q25) 27 q27) (Ps := []) (by decide +kernel) rfl rfl trivial ?_
        obtain ⟨k22, hk⟩ := hk
        rcases g23 : l_readProduct fz r19 (M.1 2) q25 q27 x2 with ⟨u24, r25, r26, r27⟩
        try simp only [g23] at hk
        have t28 : GM z mX3_readProduct (d + 7) [.ref 25, .ref 1, .int x2] (mrow (mrow (mrow M 1 r19) 25 q25) 27 q27) (fun rs => rs = .inl (none, mrow (mrow (mrow M 1 r25) 25 r26) 27 r27)) := by
          have q9 := c_l_readProduct_25_1 z d (mrow (mrow (mrow M 1 r19) 25 q25) 27 q27) x2 fz gz Hz k22
          try simp only [mput, mrow_same, mrow_hit, mrow_miss, mrow_sw, idr_eq, ne_eq, Nat.reduceEqDiff, not_false_eq_true, Nat.reduceLT, reduceCtorEq, g23] at q9
          exact q9
        refine G.callV (as := [.ref 1, .int x2]) (rest := []) (a := 25) oX3_readProduct lk_EvenFinders_Law_48 (by decide +kernel) rfl rfl ⟨rfl, rfl⟩ (Nat.le_of_ble_eq_true rfl) rfl ⟨Nat.le_of_ble_eq_true rfl, Nat.le_of_ble_eq_true rfl⟩ t28 (fun v9 N9 h29 => ?_) (fun E9 N9 h29 => by cases h29)
        cases h29
        show G z mX3_readSum (d + 8) 0 0 49 [some (.ref 25), some (.ref 1), some (.int x2), some (.int (nI i3)), some (.int v11)] [] (mrow (mrow (mrow M 1 r25) 25 r26) 27 r27) Q
        refine G.sl [(.aload_n 0, 1, 0, 0, 0, 0), (.sipush 2000, 3, 0, 0, 0, nI 2000), (.iload 4, 2, 4, 0, 0, 0), (.iadd, 1, 0, 0, 0, 0)] [] (pc2 := 56) (ls2 := [some (.ref 25), some (.ref 1), some (.int x2), some (.int (nI i3)), some (.int v11)]) (st2 := [.int ((nI 2000) + v11), .ref 25]) (M2 := mrow (mrow (mrow M 1 r25) 25 r26) 27 r27) (Ps := []) (by decide +kernel) rfl rfl trivial ?_
        obtain ⟨k30, hk⟩ := hk
        rcases g31 : l_put r26 r27 ((nI 2000) + v11) with ⟨u32, r33, r34⟩
        try simp only [g31] at hk
        have t35 : GM z mX3_put (d + 7) [.ref 25, .int ((nI 2000) + v11)] (mrow (mrow (mrow M 1 r25) 25 r26) 27 r27) (fun rs => rs = .inl (none, mrow (mrow (mrow M 1 r25) 25 r33) 27 r34)) := by
          have q9 := c_l_put_25 z (d + 7) (mrow (mrow (mrow M 1 r25) 25 r26) 27 r27) ((nI 2000) + v11) k30
          try simp only [mput, mrow_same, mrow_hit, mrow_miss, mrow_sw, idr_eq, ne_eq, Nat.reduceEqDiff, not_false_eq_true, Nat.reduceLT, reduceCtorEq, g31] at q9
          exact q9
        refine G.callV (as := [.int ((nI 2000) + v11)]) (rest := []) (a := 25) oX3_put lk_EvenFinders_Law_55 (by decide +kernel) rfl rfl ⟨rfl, rfl⟩ (Nat.le_of_ble_eq_true rfl) rfl ⟨Nat.le_of_ble_eq_true rfl, Nat.le_of_ble_eq_true rfl⟩ t35 (fun v9 N9 h36 => ?_) (fun E9 N9 h36 => by cases h36)
        cases h36
        show G z mX3_readSum (d + 8) 0 0 59 [some (.ref 25), some (.ref 1), some (.int x2), some (.int (nI i3)), some (.int v11)] [] (mrow (mrow (mrow M 1 r25) 25 r33) 27 r34) Q
        refine G.sl [(.iinc 3 1, 3, 3, 0, 0, nI 1), (.goto (-54), 3, 8, 0, 0, 0)] [] (pc2 := 8) (ls2 := [some (.ref 25), some (.ref 1), some (.int x2), some (.int ((nI i3) + nI 1)), some (.int v11)]) (st2 := []) (M2 := mrow (mrow (mrow M 1 r25) 25 r33) 27 r34) (Ps := []) (by decide +kernel) rfl rfl trivial ?_
        refine G.loc (ls2 := [some (.ref 25), some (.ref 1), some (.int x2), some (.int ((nI i3) + nI 1)), none]) (by simp [subL]) ?_
        rw [nI_add i3 1]
        simp only [l_readSum_st_8, g10, if_pos c15, g17, g23, g31] at hX
        exact ih (i3 + 1) r25 r33 r34 (by omega) hk hX
      · skip
        rw [if_neg c15] at hk
        refine G.sl [(.iload 4, 2, 4, 0, 0, 0), (.bipush 45, 2, 0, 0, 0, nI 45)] [] (pc2 := 32) (ls2 := [some (.ref 25), some (.ref 1), some (.int x2), some (.int (nI i3)), some (.int v11)]) (st2 := [.int (nI 45), .int v11]) (M2 := mrow (mrow (mrow M 1 r12) 25 q25) 27 q27) (Ps := []) (by decide +kernel) rfl rfl trivial ?_
        refine G.ic_eq (off := (4)) (tgt := 36) (by decide +kernel) rfl (fun c37 => ?_) (fun c37 => ?_)
        · skip
          rw [if_pos c37] at hk
          refine G.sl [(.aload_n 1, 1, 1, 0, 0, 0), (.iload 4, 2, 4, 0, 0, 0), (.i2c, 1, 0, 0, 0, 0)] [] (pc2 := 40) (ls2 := [some (.ref 25), some (.ref 1), some (.int x2), some (.int (nI i3)), some (.int v11)]) (st2 := [.int ((v11.toUInt32 % 65536).toInt32), .ref 1]) (M2 := mrow (mrow (mrow M 1 r12) 25 q25) 27 q27) (Ps := []) (by decide +kernel) rfl rfl trivial ?_
          obtain ⟨k38, hk⟩ := hk
          rcases g39 : t_needSign r12 (M.1 2) ((v11.toUInt32 % 65536).toInt32) with ⟨u40, r41⟩
          try simp only [g39] at hk
          have t42 : GM z mX6_needSign (d + 7) [.ref 1, .int ((v11.toUInt32 % 65536).toInt32)] (mrow (mrow (mrow M 1 r12) 25 q25) 27 q27) (fun rs => rs = .inl (none, mrow (mrow (mrow M 1 r41) 25 q25) 27 q27)) := by
            have q9 := c_t_needSign_1 z (d + 5) (mrow (mrow (mrow M 1 r12) 25 q25) 27 q27) ((v11.toUInt32 % 65536).toInt32) k38
            try simp only [mput, mrow_same, mrow_hit, mrow_miss, mrow_sw, idr_eq, ne_eq, Nat.reduceEqDiff, not_false_eq_true, Nat.reduceLT, reduceCtorEq, g39] at q9
            exact q9
          refine G.callV (as := [.int ((v11.toUInt32 % 65536).toInt32)]) (rest := []) (a := 1) oX6_needSign lk_EvenFinders_Law_51 (by decide +kernel) rfl rfl ⟨rfl, rfl⟩ (Nat.le_of_ble_eq_true rfl) rfl ⟨Nat.le_of_ble_eq_true rfl, Nat.le_of_ble_eq_true rfl⟩ t42 (fun v9 N9 h43 => ?_) (fun E9 N9 h43 => by cases h43)
          cases h43
          show G z mX3_readSum (d + 8) 0 0 43 [some (.ref 25), some (.ref 1), some (.int x2), some (.int (nI i3)), some (.int v11)] [] (mrow (mrow (mrow M 1 r41) 25 q25) 27 q27) Q
          refine G.sl [(.aload_n 0, 1, 0, 0, 0, 0), (.aload_n 1, 1, 1, 0, 0, 0), (.iload_n 2, 1, 2, 0, 0, 0)] [] (pc2 := 46) (ls2 := [some (.ref 25), some (.ref 1), some (.int x2), some (.int (nI i3)), some (.int v11)]) (st2 := [.int x2, .ref 1, .ref 25]) (M2 := mrow (mrow (mrow M 1 r41) 25 q25) 27 q27) (Ps := []) (by decide +kernel) rfl rfl trivial ?_
          obtain ⟨k44, hk⟩ := hk
          rcases g45 : l_readProduct fz r41 (M.1 2) q25 q27 x2 with ⟨u46, r47, r48, r49⟩
          try simp only [g45] at hk
          have t50 : GM z mX3_readProduct (d + 7) [.ref 25, .ref 1, .int x2] (mrow (mrow (mrow M 1 r41) 25 q25) 27 q27) (fun rs => rs = .inl (none, mrow (mrow (mrow M 1 r47) 25 r48) 27 r49)) := by
            have q9 := c_l_readProduct_25_1 z d (mrow (mrow (mrow M 1 r41) 25 q25) 27 q27) x2 fz gz Hz k44
            try simp only [mput, mrow_same, mrow_hit, mrow_miss, mrow_sw, idr_eq, ne_eq, Nat.reduceEqDiff, not_false_eq_true, Nat.reduceLT, reduceCtorEq, g45] at q9
            exact q9
          refine G.callV (as := [.ref 1, .int x2]) (rest := []) (a := 25) oX3_readProduct lk_EvenFinders_Law_48 (by decide +kernel) rfl rfl ⟨rfl, rfl⟩ (Nat.le_of_ble_eq_true rfl) rfl ⟨Nat.le_of_ble_eq_true rfl, Nat.le_of_ble_eq_true rfl⟩ t50 (fun v9 N9 h51 => ?_) (fun E9 N9 h51 => by cases h51)
          cases h51
          show G z mX3_readSum (d + 8) 0 0 49 [some (.ref 25), some (.ref 1), some (.int x2), some (.int (nI i3)), some (.int v11)] [] (mrow (mrow (mrow M 1 r47) 25 r48) 27 r49) Q
          refine G.sl [(.aload_n 0, 1, 0, 0, 0, 0), (.sipush 2000, 3, 0, 0, 0, nI 2000), (.iload 4, 2, 4, 0, 0, 0), (.iadd, 1, 0, 0, 0, 0)] [] (pc2 := 56) (ls2 := [some (.ref 25), some (.ref 1), some (.int x2), some (.int (nI i3)), some (.int v11)]) (st2 := [.int ((nI 2000) + v11), .ref 25]) (M2 := mrow (mrow (mrow M 1 r47) 25 r48) 27 r49) (Ps := []) (by decide +kernel) rfl rfl trivial ?_
          obtain ⟨k52, hk⟩ := hk
          rcases g53 : l_put r48 r49 ((nI 2000) + v11) with ⟨u54, r55, r56⟩
          try simp only [g53] at hk
          have t57 : GM z mX3_put (d + 7) [.ref 25, .int ((nI 2000) + v11)] (mrow (mrow (mrow M 1 r47) 25 r48) 27 r49) (fun rs => rs = .inl (none, mrow (mrow (mrow M 1 r47) 25 r55) 27 r56)) := by
            have q9 := c_l_put_25 z (d + 7) (mrow (mrow (mrow M 1 r47) 25 r48) 27 r49) ((nI 2000) + v11) k52
            try simp only [mput, mrow_same, mrow_hit, mrow_miss, mrow_sw, idr_eq, ne_eq, Nat.reduceEqDiff, not_false_eq_true, Nat.reduceLT, reduceCtorEq, g53] at q9
            exact q9
          refine G.callV (as := [.int ((nI 2000) + v11)]) (rest := []) (a := 25) oX3_put lk_EvenFinders_Law_55 (by decide +kernel) rfl rfl ⟨rfl, rfl⟩ (Nat.le_of_ble_eq_true rfl) rfl ⟨Nat.le_of_ble_eq_true rfl, Nat.le_of_ble_eq_true rfl⟩ t57 (fun v9 N9 h58 => ?_) (fun E9 N9 h58 => by cases h58)
          cases h58
          show G z mX3_readSum (d + 8) 0 0 59 [some (.ref 25), some (.ref 1), some (.int x2), some (.int (nI i3)), some (.int v11)] [] (mrow (mrow (mrow M 1 r47) 25 r55) 27 r56) Q
          refine G.sl [(.iinc 3 1, 3, 3, 0, 0, nI 1), (.goto (-54), 3, 8, 0, 0, 0)] [] (pc2 := 8) (ls2 := [some (.ref 25), some (.ref 1), some (.int x2), some (.int ((nI i3) + nI 1)), some (.int v11)]) (st2 := []) (M2 := mrow (mrow (mrow M 1 r47) 25 r55) 27 r56) (Ps := []) (by decide +kernel) rfl rfl trivial ?_
          refine G.loc (ls2 := [some (.ref 25), some (.ref 1), some (.int x2), some (.int ((nI i3) + nI 1)), none]) (by simp [subL]) ?_
          rw [nI_add i3 1]
          simp only [l_readSum_st_8, g10, if_neg c15, if_pos c37, g39, g45, g53] at hX
          exact ih (i3 + 1) r47 r55 r56 (by omega) hk hX
        · skip
          rw [if_neg c37] at hk
          exact G.retv (by decide +kernel) rfl (Nat.le_of_ble_eq_true rfl) (Nat.le_of_ble_eq_true rfl) ((by simp only [l_readSum_st_8, g10, if_neg c15, if_neg c37] at hX; exact hX))
noncomputable def l_readSum_st (fz : (Nat → Int32) → (Nat → Int32) → (Nat → Int32) → (Nat → Int32) → Int32 → Int32 × (Nat → Int32) × (Nat → Int32) × (Nat → Int32)) (Rtape Rbytes Rlaw Rcodes : Nat → Int32) (x2 : Int32) : Int32 × (Nat → Int32) × (Nat → Int32) × (Nat → Int32) := (match l_readProduct fz (Rtape) (Rbytes) (Rlaw) (Rcodes) x2 with | (u3, r4, r5, r6) => (match l_readSum_st_8 fz gz (Rbytes) x2 (cN 150) 0 r4 r5 r6 with | .inl (v64, r65, r66, r67) => (0, r65, r66, r67) | .inr (r61, r62, r63) => (0, r61, r62, r63)))
noncomputable def l_readSum_st_ok (fz : (Nat → Int32) → (Nat → Int32) → (Nat → Int32) → (Nat → Int32) → Int32 → Int32 × (Nat → Int32) × (Nat → Int32) × (Nat → Int32)) (gz : (Nat → Int32) → (Nat → Int32) → (Nat → Int32) → (Nat → Int32) → Int32 → Prop) (Rtape Rbytes Rlaw Rcodes : Nat → Int32) (x2 : Int32) : Prop := (l_readProduct_ok fz gz (Rtape) (Rbytes) (Rlaw) (Rcodes) x2 ∧ (match l_readProduct fz (Rtape) (Rbytes) (Rlaw) (Rcodes) x2 with | (u3, r4, r5, r6) => (l_readSum_st_8_ok fz gz (Rbytes) x2 (cN 150) 0 r4 r5 r6 ∧ (match l_readSum_st_8 fz gz (Rbytes) x2 (cN 150) 0 r4 r5 r6 with | .inl (v64, r65, r66, r67) => True | .inr (r61, r62, r63) => True))))
set_option maxHeartbeats 4000000 in
set_option maxRecDepth 3000 in
theorem c_l_readSum_25_1_st (z : Zp) (d : Nat) (M : Mem) (x2 : Int32) (fz : (Nat → Int32) → (Nat → Int32) → (Nat → Int32) → (Nat → Int32) → Int32 → Int32 × (Nat → Int32) × (Nat → Int32) × (Nat → Int32)) (gz : (Nat → Int32) → (Nat → Int32) → (Nat → Int32) → (Nat → Int32) → Int32 → Prop) (Hz : ∀ (j : Nat) (M : Mem) (x2 : Int32), gz (M.1 1) (M.1 2) (M.1 25) (M.1 27) x2 → GM z mX3_readSum (d + j) [.ref 25, .ref 1, .int x2] M (fun rs => rs = .inl (none, mrow (mrow (mrow M 1 ((fz (M.1 1) (M.1 2) (M.1 25) (M.1 27) x2).2.1)) 25 ((fz (M.1 1) (M.1 2) (M.1 25) (M.1 27) x2).2.2.1)) 27 ((fz (M.1 1) (M.1 2) (M.1 25) (M.1 27) x2).2.2.2)))) (hk : l_readSum_st_ok fz gz (M.1 1) (M.1 2) (M.1 25) (M.1 27) x2) : GM z mX3_readSum (d + 8) [.ref 25, .ref 1, .int x2] M (fun rs => rs = .inl (none, mrow (mrow (mrow M 1 ((l_readSum_st fz (M.1 1) (M.1 2) (M.1 25) (M.1 27) x2).2.1)) 25 ((l_readSum_st fz (M.1 1) (M.1 2) (M.1 25) (M.1 27) x2).2.2.1)) 27 ((l_readSum_st fz (M.1 1) (M.1 2) (M.1 25) (M.1 27) x2).2.2.2))) := by
  simp only [l_readSum_st_ok] at hk
  refine GM.of oX3_readSum.1 (Nat.le_of_ble_eq_true rfl) ?_
  show G z mX3_readSum (d + 8) 0 0 0 [some (.ref 25), some (.ref 1), some (.int x2), none, none] [] M _
  obtain ⟨Q, hQ⟩ : ∃ Q : Rs → Prop, Q = (fun rs => rs = .inl (none, mrow (mrow (mrow M 1 ((l_readSum_st fz (M.1 1) (M.1 2) (M.1 25) (M.1 27) x2).2.1)) 25 ((l_readSum_st fz (M.1 1) (M.1 2) (M.1 25) (M.1 27) x2).2.2.1)) 27 ((l_readSum_st fz (M.1 1) (M.1 2) (M.1 25) (M.1 27) x2).2.2.2))) := ⟨_, rfl⟩
  rw [← hQ]
  refine G.sl [(.aload_n 0, 1, 0, 0, 0, 0), (.aload_n 1, 1, 1, 0, 0, 0), (.iload_n 2, 1, 2, 0, 0, 0)] [] (pc2 := 3) (ls2 := [some (.ref 25), some (.ref 1), some (.int x2), none, none]) (st2 := [.int x2, .ref 1, .ref 25]) (M2 := M) (Ps := []) (by decide +kernel) rfl rfl trivial ?_
  obtain ⟨k1, hk⟩ := hk
  rcases g2 : l_readProduct fz (M.1 1) (M.1 2) (M.1 25) (M.1 27) x2 with ⟨u3, r4, r5, r6⟩
  try simp only [g2] at hk
  have t7 : GM z mX3_readProduct (d + 7) [.ref 25, .ref 1, .int x2] M (fun rs => rs = .inl (none, mrow (mrow (mrow M 1 r4) 25 r5) 27 r6)) := by
    have q9 := c_l_readProduct_25_1 z d M x2 fz gz Hz k1
    try simp only [mput, mrow_same, mrow_hit, mrow_miss, mrow_sw, idr_eq, ne_eq, Nat.reduceEqDiff, not_false_eq_true, Nat.reduceLT, reduceCtorEq, g2] at q9
    exact q9
  refine G.callV (as := [.ref 1, .int x2]) (rest := []) (a := 25) oX3_readProduct lk_EvenFinders_Law_48 (by decide +kernel) rfl rfl ⟨rfl, rfl⟩ (Nat.le_of_ble_eq_true rfl) rfl ⟨Nat.le_of_ble_eq_true rfl, Nat.le_of_ble_eq_true rfl⟩ t7 (fun v9 N9 h8 => ?_) (fun E9 N9 h8 => by cases h8)
  cases h8
  show G z mX3_readSum (d + 8) 0 0 6 [some (.ref 25), some (.ref 1), some (.int x2), none, none] [] (mrow (mrow (mrow M 1 r4) 25 r5) 27 r6) Q
  refine G.sl [(.iconst 0, 1, 0, 0, 0, nI 0), (.istore_n 3, 1, 3, 0, 0, 0)] [] (pc2 := 8) (ls2 := [some (.ref 25), some (.ref 1), some (.int x2), some (.int (nI 0)), none]) (st2 := []) (M2 := mrow (mrow (mrow M 1 r4) 25 r5) 27 r6) (Ps := []) (by decide +kernel) rfl rfl trivial ?_
  obtain ⟨k59, hk⟩ := hk
  refine G.mem (M' := mrow (mrow (mrow (mrow (mrow (mrow M 1 r4) 25 r5) 27 r6) 1 ((mrow (mrow (mrow M 1 r4) 25 r5) 27 r6).1 1)) 25 ((mrow (mrow (mrow M 1 r4) 25 r5) 27 r6).1 25)) 27 ((mrow (mrow (mrow M 1 r4) 25 r5) 27 r6).1 27)) (by simp only [mrow_self]) ?_
  refine lp_l_readSum_25_1_st_8 z d (mrow (mrow (mrow M 1 r4) 25 r5) 27 r6) Q (cN 150) x2 fz gz Hz (cN_eq 150) (cN 150) 0 ((mrow (mrow (mrow M 1 r4) 25 r5) 27 r6).1 1) ((mrow (mrow (mrow M 1 r4) 25 r5) 27 r6).1 25) ((mrow (mrow (mrow M 1 r4) 25 r5) 27 r6).1 27) (Nat.zero_add _) (by first | (simp only [mput, mrow_same, mrow_hit, mrow_miss, mrow_sw, idr_eq, ne_eq, Nat.reduceEqDiff, not_false_eq_true, Nat.reduceLT, reduceCtorEq]; exact k59) | exact k59) ?_
  try simp only [mput, mrow_same, mrow_hit, mrow_miss, mrow_sw, idr_eq, ne_eq, Nat.reduceEqDiff, not_false_eq_true, Nat.reduceLT, reduceCtorEq]
  rcases g60 : l_readSum_st_8 fz gz (M.1 2) x2 (cN 150) 0 r4 r5 r6 with ⟨v64, r65, r66, r67⟩ | ⟨r61, r62, r63⟩
  · skip
    show Q (.inl (none, mrow (mrow (mrow M 1 r65) 25 r66) 27 r67))
    rw [hQ]
    simp only [l_readSum_st, g2, g60, mrow_self]
  · skip
    show G z mX3_readSum (d + 8) 0 0 65 [none, none, none, none, none] [] (mrow (mrow (mrow M 1 r61) 25 r62) 27 r63) Q
    exact G.retv (by decide +kernel) rfl (Nat.le_of_ble_eq_true rfl) (Nat.le_of_ble_eq_true rfl) ((by rw [hQ]; simp only [l_readSum_st, g2, g60, mrow_self]))
noncomputable def l_readSum_rec : Nat → (Nat → Int32) → (Nat → Int32) → (Nat → Int32) → (Nat → Int32) → Int32 → Int32 × (Nat → Int32) × (Nat → Int32) × (Nat → Int32)
  | 0, Rtape, Rbytes, Rlaw, Rcodes, x2 => (0, Rtape, Rlaw, Rcodes)
  | k0 + 1, Rtape, Rbytes, Rlaw, Rcodes, x2 => l_readSum_st (l_readSum_rec k0) Rtape Rbytes Rlaw Rcodes x2
noncomputable def l_readSum_rec_ok : Nat → (Nat → Int32) → (Nat → Int32) → (Nat → Int32) → (Nat → Int32) → Int32 → Prop
  | 0, _, _, _, _, _ => False
  | k0 + 1, Rtape, Rbytes, Rlaw, Rcodes, x2 => l_readSum_st_ok (l_readSum_rec k0) (l_readSum_rec_ok k0) Rtape Rbytes Rlaw Rcodes x2
noncomputable def l_readSum (Rtape Rbytes Rlaw Rcodes : Nat → Int32) (x2 : Int32) : Int32 × (Nat → Int32) × (Nat → Int32) × (Nat → Int32) := l_readSum_rec 10 Rtape Rbytes Rlaw Rcodes x2
noncomputable def l_readSum_ok (Rtape Rbytes Rlaw Rcodes : Nat → Int32) (x2 : Int32) : Prop := l_readSum_rec_ok 10 Rtape Rbytes Rlaw Rcodes x2
theorem c_l_readSum_25_1_rec (z : Zp)  : ∀ (k0 d : Nat) (M : Mem) (x2 : Int32), l_readSum_rec_ok k0 (M.1 1) (M.1 2) (M.1 25) (M.1 27) x2 → GM z mX3_readSum (d + 8 * k0) [.ref 25, .ref 1, .int x2] M (fun rs => rs = .inl (none, mrow (mrow (mrow M 1 ((l_readSum_rec k0 (M.1 1) (M.1 2) (M.1 25) (M.1 27) x2).2.1)) 25 ((l_readSum_rec k0 (M.1 1) (M.1 2) (M.1 25) (M.1 27) x2).2.2.1)) 27 ((l_readSum_rec k0 (M.1 1) (M.1 2) (M.1 25) (M.1 27) x2).2.2.2))) := by
  intro k0
  induction k0 with
  | zero =>
    intro d M x2  hk
    exact (by simpa only [l_readSum_rec_ok] using hk : False).elim
  | succ k0 ih =>
    intro d M x2  hk
    have e9 : d + 8 * (k0 + 1) = (d + 8 * k0) + 8 := by omega
    rw [e9]
    simp only [l_readSum_rec_ok] at hk
    have q9 := c_l_readSum_25_1_st z (d + 8 * k0) M x2  (l_readSum_rec k0) (l_readSum_rec_ok k0) (fun j M x2  hk => by
      have q9 := ih (d + j) M x2  hk
      rw [show d + j + 8 * k0 = d + 8 * k0 + j by omega] at q9
      exact q9)  hk
    simp only [l_readSum_rec]
    exact q9
theorem c_l_readSum_25_1 (z : Zp) (d : Nat) (M : Mem) (x2 : Int32)  (hk : l_readSum_ok (M.1 1) (M.1 2) (M.1 25) (M.1 27) x2) : GM z mX3_readSum (d + 80) [.ref 25, .ref 1, .int x2] M (fun rs => rs = .inl (none, mrow (mrow (mrow M 1 ((l_readSum (M.1 1) (M.1 2) (M.1 25) (M.1 27) x2).2.1)) 25 ((l_readSum (M.1 1) (M.1 2) (M.1 25) (M.1 27) x2).2.2.1)) 27 ((l_readSum (M.1 1) (M.1 2) (M.1 25) (M.1 27) x2).2.2.2))) := by
  have q9 := c_l_readSum_25_1_rec z  10 d M x2  hk
  exact q9
noncomputable def l_readFrom (Rtape Rbytes Rlaw Rcodes : Nat → Int32) : Int32 × (Nat → Int32) × (Nat → Int32) × (Nat → Int32) := (match l_readSum (Rtape) (Rbytes) (upd (Rlaw) 3 (nI 0)) (Rcodes) (nI 0) with | (u3, r4, r5, r6) => (match t_next r4 (Rbytes) with | (v11, r12) => (if v11 = ((-1)) then (0, r12, r5, r6) else (match t_fail r12 (nI 1) (r12 4) with | (u18, r19) => (0, r19, r5, r6)))))
noncomputable def l_readFrom_ok (Rtape Rbytes Rlaw Rcodes : Nat → Int32) : Prop := (l_readSum_ok (Rtape) (Rbytes) (upd (Rlaw) 3 (nI 0)) (Rcodes) (nI 0) ∧ (match l_readSum (Rtape) (Rbytes) (upd (Rlaw) 3 (nI 0)) (Rcodes) (nI 0) with | (u3, r4, r5, r6) => (t_next_ok r4 (Rbytes) ∧ True)))
set_option maxHeartbeats 4000000 in
set_option maxRecDepth 3000 in
theorem c_l_readFrom_25_1 (z : Zp) (d : Nat) (M : Mem) (hk : l_readFrom_ok (M.1 1) (M.1 2) (M.1 25) (M.1 27)) : GM z mX3_readFrom (d + 81) [.ref 25, .ref 1] M (fun rs => rs = .inl (none, mrow (mrow (mrow M 1 ((l_readFrom (M.1 1) (M.1 2) (M.1 25) (M.1 27)).2.1)) 25 ((l_readFrom (M.1 1) (M.1 2) (M.1 25) (M.1 27)).2.2.1)) 27 ((l_readFrom (M.1 1) (M.1 2) (M.1 25) (M.1 27)).2.2.2))) := by
  simp only [l_readFrom_ok] at hk
  refine GM.of oX3_readFrom.1 (Nat.le_of_ble_eq_true rfl) ?_
  show G z mX3_readFrom (d + 81) 0 0 0 [some (.ref 25), some (.ref 1)] [] M _
  obtain ⟨Q, hQ⟩ : ∃ Q : Rs → Prop, Q = (fun rs => rs = .inl (none, mrow (mrow (mrow M 1 ((l_readFrom (M.1 1) (M.1 2) (M.1 25) (M.1 27)).2.1)) 25 ((l_readFrom (M.1 1) (M.1 2) (M.1 25) (M.1 27)).2.2.1)) 27 ((l_readFrom (M.1 1) (M.1 2) (M.1 25) (M.1 27)).2.2.2))) := ⟨_, rfl⟩
  rw [← hQ]
  refine G.sl [(.aload_n 0, 1, 0, 0, 0, 0), (.iconst 0, 1, 0, 0, 0, nI 0), (.putfield 21, 3, 3, 3, 58, 0), (.aload_n 0, 1, 0, 0, 0, 0), (.aload_n 1, 1, 1, 0, 0, 0), (.iconst 0, 1, 0, 0, 0, nI 0)] [] (pc2 := 8) (ls2 := [some (.ref 25), some (.ref 1)]) (st2 := [.int (nI 0), .ref 1, .ref 25]) (M2 := mput M 25 3 (nI 0)) (Ps := []) (by decide +kernel) rfl rfl trivial ?_
  refine G.mem (M' := mrow M 25 (upd (M.1 25) 3 (nI 0))) (by first | rfl | (simp only [mput, mrow_same, mrow_hit, mrow_miss, mrow_sw, idr_eq, ne_eq, Nat.reduceEqDiff, not_false_eq_true, Nat.reduceLT, reduceCtorEq]; done)) ?_
  obtain ⟨k1, hk⟩ := hk
  rcases g2 : l_readSum (M.1 1) (M.1 2) (upd (M.1 25) 3 (nI 0)) (M.1 27) (nI 0) with ⟨u3, r4, r5, r6⟩
  try simp only [g2] at hk
  have t7 : GM z mX3_readSum (d + 80) [.ref 25, .ref 1, .int (nI 0)] (mrow M 25 (upd (M.1 25) 3 (nI 0))) (fun rs => rs = .inl (none, mrow (mrow (mrow M 1 r4) 25 r5) 27 r6)) := by
    have q9 := c_l_readSum_25_1 z d (mrow M 25 (upd (M.1 25) 3 (nI 0))) (nI 0) k1
    try simp only [mput, mrow_same, mrow_hit, mrow_miss, mrow_sw, idr_eq, ne_eq, Nat.reduceEqDiff, not_false_eq_true, Nat.reduceLT, reduceCtorEq, g2] at q9
    exact q9
  refine G.callV (as := [.ref 1, .int (nI 0)]) (rest := []) (a := 25) oX3_readSum lk_EvenFinders_Law_31 (by decide +kernel) rfl rfl ⟨rfl, rfl⟩ (Nat.le_of_ble_eq_true rfl) rfl ⟨Nat.le_of_ble_eq_true rfl, Nat.le_of_ble_eq_true rfl⟩ t7 (fun v9 N9 h8 => ?_) (fun E9 N9 h8 => by cases h8)
  cases h8
  show G z mX3_readFrom (d + 81) 0 0 11 [some (.ref 25), some (.ref 1)] [] (mrow (mrow (mrow M 1 r4) 25 r5) 27 r6) Q
  refine G.sl [(.aload_n 1, 1, 1, 0, 0, 0)] [] (pc2 := 12) (ls2 := [some (.ref 25), some (.ref 1)]) (st2 := [.ref 1]) (M2 := mrow (mrow (mrow M 1 r4) 25 r5) 27 r6) (Ps := []) (by decide +kernel) rfl rfl trivial ?_
  obtain ⟨k9, hk⟩ := hk
  rcases g10 : t_next r4 (M.1 2) with ⟨v11, r12⟩
  have t13 : GM z mX6_next (d + 80) [.ref 1] (mrow (mrow (mrow M 1 r4) 25 r5) 27 r6) (fun rs => rs = .inl (some (.int v11), mrow (mrow (mrow M 1 r12) 25 r5) 27 r6)) := by
    have q9 := c_t_next_1 z (d + 80) (mrow (mrow (mrow M 1 r4) 25 r5) 27 r6) k9
    try simp only [mput, mrow_same, mrow_hit, mrow_miss, mrow_sw, idr_eq, ne_eq, Nat.reduceEqDiff, not_false_eq_true, Nat.reduceLT, reduceCtorEq, g10] at q9
    exact q9
  refine G.callV (as := []) (rest := []) (a := 1) oX6_next lk_EvenFinders_Law_35 (by decide +kernel) rfl rfl ⟨rfl, rfl⟩ (Nat.le_of_ble_eq_true rfl) rfl ⟨Nat.le_of_ble_eq_true rfl, Nat.le_of_ble_eq_true rfl⟩ t13 (fun v9 N9 h14 => ?_) (fun E9 N9 h14 => by cases h14)
  cases h14
  show G z mX3_readFrom (d + 81) 0 0 15 [some (.ref 25), some (.ref 1)] [.int v11] (mrow (mrow (mrow M 1 r12) 25 r5) 27 r6) Q
  refine G.sl [(.iconst (-1), 1, 0, 0, 0, (-1))] [] (pc2 := 16) (ls2 := [some (.ref 25), some (.ref 1)]) (st2 := [.int ((-1)), .int v11]) (M2 := mrow (mrow (mrow M 1 r12) 25 r5) 27 r6) (Ps := []) (by decide +kernel) rfl rfl trivial ?_
  refine G.ic_eq (off := (12)) (tgt := 28) (by decide +kernel) rfl (fun c15 => ?_) (fun c15 => ?_)
  · skip
    exact G.retv (by decide +kernel) rfl (Nat.le_of_ble_eq_true rfl) (Nat.le_of_ble_eq_true rfl) ((by rw [hQ]; simp only [l_readFrom, g2, g10, if_pos c15, mrow_self]))
  · skip
    refine G.sl [(.aload_n 1, 1, 1, 0, 0, 0), (.iconst 1, 1, 0, 0, 0, nI 1), (.aload_n 1, 1, 1, 0, 0, 0), (.getfield 41, 3, 5, 4, 10, 0)] [] (pc2 := 25) (ls2 := [some (.ref 25), some (.ref 1)]) (st2 := [.int (r12 4), .int (nI 1), .ref 1]) (M2 := mrow (mrow (mrow M 1 r12) 25 r5) 27 r6) (Ps := []) (by decide +kernel) rfl rfl trivial ?_
    rcases g17 : t_fail r12 (nI 1) (r12 4) with ⟨u18, r19⟩
    have t20 : GM z mX6_fail (d + 80) [.ref 1, .int (nI 1), .int (r12 4)] (mrow (mrow (mrow M 1 r12) 25 r5) 27 r6) (fun rs => rs = .inl (none, mrow (mrow (mrow M 1 r19) 25 r5) 27 r6)) := by
      have q9 := c_t_fail_1 z (d + 80) (mrow (mrow (mrow M 1 r12) 25 r5) 27 r6) (nI 1) (r12 4)
      try simp only [mput, mrow_same, mrow_hit, mrow_miss, mrow_sw, idr_eq, ne_eq, Nat.reduceEqDiff, not_false_eq_true, Nat.reduceLT, reduceCtorEq, g17] at q9
      exact q9
    refine G.callV (as := [.int (nI 1), .int (r12 4)]) (rest := []) (a := 1) oX6_fail lk_EvenFinders_Law_44 (by decide +kernel) rfl rfl ⟨rfl, rfl⟩ (Nat.le_of_ble_eq_true rfl) rfl ⟨Nat.le_of_ble_eq_true rfl, Nat.le_of_ble_eq_true rfl⟩ t20 (fun v9 N9 h21 => ?_) (fun E9 N9 h21 => by cases h21)
    cases h21
    show G z mX3_readFrom (d + 81) 0 0 28 [some (.ref 25), some (.ref 1)] [] (mrow (mrow (mrow M 1 r19) 25 r5) 27 r6) Q
    exact G.retv (by decide +kernel) rfl (Nat.le_of_ble_eq_true rfl) (Nat.le_of_ble_eq_true rfl) ((by rw [hQ]; simp only [l_readFrom, g2, g10, if_neg c15, g17, mrow_self]))
